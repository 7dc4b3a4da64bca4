/-! PURE: sets of like size, in their order -/
section W2
variable {n m A B X K : Nat} {c : Nat → Nat}
theorem lt_bit {i : Nat} (ha : A.testBit i = false) (hb : B.testBit i = true) (hs : ∀ j, i < j → A.testBit j = B.testBit j) : A < B := by
  have e : A / 2 ^ (i + 1) = B / 2 ^ (i + 1) := Nat.eq_of_testBit_eq (fun j => by rw [Nat.testBit_div_two_pow, Nat.testBit_div_two_pow]; exact hs _ (by omega))
  rw [Nat.pow_succ, ← Nat.div_div_eq_div_mul, ← Nat.div_div_eq_div_mul] at e
  rw [Nat.testBit_eq_decide_div_mod_eq] at ha hb
  have ha := of_decide_eq_false ha
  have hb := of_decide_eq_true hb
  rcases Nat.lt_or_ge A B with q | q
  · exact q
  · have := Nat.div_le_div_right (c := 2 ^ i) q
    omega
theorem hi_diff (hA : A < 2 ^ K) (hX : X < 2 ^ K) (hne : A ≠ X) : ∃ h, h < K ∧ A.testBit h ≠ X.testBit h ∧ ∀ j, h < j → A.testBit j = X.testBit j := by
  have key : ∀ k, k ≤ K → (∀ j, k ≤ j → A.testBit j = X.testBit j) → ∃ h, h < K ∧ A.testBit h ≠ X.testBit h ∧ ∀ j, h < j → A.testBit j = X.testBit j := by
    intro k
    induction k with
    | zero => intro _ q; exact absurd (Nat.eq_of_testBit_eq (fun i => q i (Nat.zero_le _))) hne
    | succ k ih =>
      intro hk q
      by_cases e : A.testBit k = X.testBit k
      · refine ih (by omega) (fun j hj => ?_)
        by_cases ej : j = k
        · rw [ej]; exact e
        · exact q j (by omega)
      · exact ⟨k, by omega, e, fun j hj => q j (by omega)⟩
  refine key K (Nat.le_refl _) (fun j hj => ?_)
  rw [Nat.testBit_lt_two_pow (Nat.lt_of_lt_of_le hA (Nat.pow_le_pow_right (by decide) hj)), Nat.testBit_lt_two_pow (Nat.lt_of_lt_of_le hX (Nat.pow_le_pow_right (by decide) hj))]
theorem hi_lt (hA : A < 2 ^ K) (hX : X < 2 ^ K) (hlt : A < X) : ∃ h, h < K ∧ A.testBit h = false ∧ X.testBit h = true ∧ ∀ j, h < j → A.testBit j = X.testBit j := by
  obtain ⟨h, h1, h2, h3⟩ := hi_diff hA hX (by omega)
  cases p : A.testBit h with
  | false =>
    cases q : X.testBit h with
    | false => rw [p, q] at h2; exact absurd rfl h2
    | true => exact ⟨h, h1, p, q, h3⟩
  | true =>
    cases q : X.testBit h with
    | false => have := lt_bit q p (fun j hj => (h3 j hj).symm); omega
    | true => rw [p, q] at h2; exact absurd rfl h2
theorem hi_zc {h : Nat} (hh : h < K) (e : zc K A = zc K X) (hA : A.testBit h = false) (hX : X.testBit h = true) (hs : ∀ j, h < j → A.testBit j = X.testBit j) : zc h A = zc h X + 1 := by
  rw [zc_zcn, zc_zcn, show K = h + 1 + (K - (h + 1)) by omega, zcn_add _ (h + 1), zcn_add _ (h + 1), zcn_f (p := fun i => A.testBit i = true) (by rw [hA]; decide), zcn_t (p := fun i => X.testBit i = true) hX, zcn_congr (p := fun i => A.testBit (h + 1 + i) = true) (q := fun i => X.testBit (h + 1 + i) = true) (fun i _ => by rw [hs (h + 1 + i) (by omega)])] at e
  rw [zc_zcn, zc_zcn]
  omega
theorem low_no {h : Nat} (hX0 : X.testBit 0 = false) (hB : ∀ b, 1 ≤ b → b < h → B.testBit b = true) (e : zc h X = zc h B + 1) : False := by
  have : zc h X ≤ zc h B := zc_mono (fun i hi q => by
    by_cases e0 : i = 0
    · rw [e0, hX0] at q; cases q
    · exact hB i (by omega) hi)
  omega
theorem row_zc (h : RowOf A c m) (hn : ∀ i, i < m → c i < n) : zc n A = m := by
  rw [zc_zcn]
  have h1 : m ≤ zcn (fun i => A.testBit i = true) n := zcn_inj (f := c) (fun i hi => ⟨(h.2.2 _).mpr ⟨i, hi, rfl⟩, hn i hi⟩) (fun i j hij hj e => by have := h.2.1 i j hij hj; omega)
  have h2 : zcn (fun i => A.testBit i = true) n ≤ m := zcn_sur (f := c) (fun a _ ha => (h.2.2 a).mp ha)
  omega
theorem row_0 (h : RowOf A c m) : A.testBit 0 = false := by
  cases q : A.testBit 0 with
  | false => rfl
  | true =>
    obtain ⟨i, hi, e⟩ := (h.2.2 0).mp q
    have := h.1 i hi; omega
theorem row_lt (h : RowOf A c m) (hn : ∀ i, i < m → c i < n) : A < 2 ^ n := by
  refine Nat.lt_pow_two_of_testBit A (fun i hi => ?_)
  cases q : A.testBit i with
  | false => rfl
  | true =>
    obtain ⟨j, hj, e⟩ := (h.2.2 i).mp q
    have := hn j hj; omega
/-- the least set -/
theorem row_first (h : RowOf A (fun i => i + 1) m) (hK : m < K) (hX : X < 2 ^ K) (hz : zc K X = m) (h0 : X.testBit 0 = false) : A ≤ X := by
  rcases Nat.lt_or_ge X A with q | q
  · exfalso
    have hn : ∀ i, i < m → i + 1 < K := fun i hi => by omega
    obtain ⟨k, k1, k2, k3, k4⟩ := hi_lt hX (row_lt h hn) q
    obtain ⟨i, hi, e⟩ := (h.2.2 k).mp k3
    have e : i + 1 = k := e
    refine low_no (h := k) (B := A) h0 (fun b b1 b2 => (h.2.2 b).mpr ⟨b - 1, by omega, by show b - 1 + 1 = b; omega⟩) (hi_zc k1 (by rw [hz, row_zc h hn]) k2 k3 k4)
  · exact q
/-- the next row -/
def nxr (c : Nat → Nat) (j : Nat) (i : Nat) : Nat := if i < j then i + 1 else if i = j then c j + 1 else c i
theorem row_run (h : RowOf A c m) {j : Nat} (hj : j < m) (hr : ∀ i, i < j → c i + 1 = c (i + 1)) : ∀ i, i ≤ j → c i = c 0 + i := by
  intro i
  induction i with
  | zero => intro _; omega
  | succ i ih => intro hi; rw [← hr i (by omega), ih (by omega)]; omega
theorem row_next (h : RowOf A c m) {j : Nat} (hj : j < m) (hr : ∀ i, i < j → c i + 1 = c (i + 1)) (hg : j + 1 < m → c j + 1 ≠ c (j + 1)) (hB : ∀ b, B.testBit b = true ↔ ∃ i, i < m ∧ nxr c j i = b) : RowOf B (nxr c j) m := by
  have h0 := h.1 0 (by omega)
  have run := row_run h hj hr
  have gj : ∀ i, j < i → i < m → c j + 1 < c i := fun i h1 h2 => by
    have a1 := h.2.1 j (j + 1) (by omega) (by omega)
    have a2 := hg (by omega)
    by_cases e : i = j + 1
    · rw [e]; omega
    · have := h.2.1 (j + 1) i (by omega) h2; omega
  refine ⟨fun i hi => ?_, fun i k hik hk => ?_, hB⟩
  · unfold nxr
    have := h.1 i hi
    have := h.1 j hj
    by_cases q : i < j
    · rw [if_pos q]; omega
    · rw [if_neg q]
      by_cases e : i = j
      · rw [if_pos e]; omega
      · rw [if_neg e]; omega
  · unfold nxr
    have rj := run j (Nat.le_refl _)
    by_cases q : i < j
    · rw [if_pos q]
      by_cases q2 : k < j
      · rw [if_pos q2]; omega
      · rw [if_neg q2]
        by_cases e : k = j
        · rw [if_pos e]; omega
        · rw [if_neg e]
          have := gj k (by omega) hk; omega
    · rw [if_neg q, if_neg (show ¬ k < j by omega), if_neg (show ¬ k = j by omega)]
      by_cases e : i = j
      · rw [if_pos e]; exact gj k (by omega) hk
      · rw [if_neg e]; exact h.2.1 i k hik hk
theorem nxr_up (h : RowOf A c m) {j : Nat} (hj : j < m) (hr : ∀ i, i < j → c i + 1 = c (i + 1)) (hg : j + 1 < m → c j + 1 ≠ c (j + 1)) (hB : RowOf B (nxr c j) m) : A.testBit (c j + 1) = false ∧ B.testBit (c j + 1) = true ∧ ∀ b, c j + 1 < b → A.testBit b = B.testBit b := by
  have run := row_run h hj hr
  have rj := run j (Nat.le_refl _)
  refine ⟨?_, (hB.2.2 _).mpr ⟨j, hj, by unfold nxr; rw [if_neg (by omega), if_pos rfl]⟩, fun b hb => ?_⟩
  · cases q : A.testBit (c j + 1) with
    | false => rfl
    | true =>
      obtain ⟨i, hi, e⟩ := (h.2.2 _).mp q
      exfalso
      rcases Nat.lt_trichotomy i j with w | w | w
      · have := h.2.1 i j w hj; omega
      · rw [w] at e; omega
      · by_cases e2 : i = j + 1
        · exact hg (by omega) (by rw [← e2]; exact e.symm)
        · have a1 := h.2.1 j (j + 1) (by omega) (by omega)
          have a2 := h.2.1 (j + 1) i (by omega) hi
          omega
  · rw [Bool.eq_iff_iff, h.2.2, hB.2.2]
    constructor
    · rintro ⟨i, hi, e⟩
      refine ⟨i, hi, ?_⟩
      have : j < i := by
        rcases Nat.lt_trichotomy i j with w | w | w
        · have := h.2.1 i j w hj; omega
        · rw [w] at e; omega
        · exact w
      unfold nxr
      rw [if_neg (by omega), if_neg (by omega)]; exact e
    · rintro ⟨i, hi, e⟩
      unfold nxr at e
      by_cases q : i < j
      · rw [if_pos q] at e
        have := h.1 0 (by omega)
        omega
      · rw [if_neg q] at e
        by_cases w : i = j
        · rw [if_pos w] at e; omega
        · rw [if_neg w] at e; exact ⟨i, hi, e⟩
/-- nothing lies between -/
theorem row_step (h : RowOf A c m) {j : Nat} (hj : j < m) (hr : ∀ i, i < j → c i + 1 = c (i + 1)) (hg : j + 1 < m → c j + 1 ≠ c (j + 1)) (hB : RowOf B (nxr c j) m) (hK : ∀ i, i < m → c i + 1 < K) : A < B ∧ ∀ X, X < 2 ^ K → zc K X = m → X.testBit 0 = false → A < X → B ≤ X := by
  obtain ⟨u1, u2, u3⟩ := nxr_up h hj hr hg hB
  have run := row_run h hj hr
  have rj := run j (Nat.le_refl _)
  have hAK : ∀ i, i < m → c i < K := fun i hi => by have := hK i hi; omega
  have hBK : ∀ i, i < m → nxr c j i < K := fun i hi => by
    have := hK i hi
    have p := hK j hj
    have := h.1 0 (by omega)
    unfold nxr
    by_cases q : i < j
    · rw [if_pos q]; omega
    · rw [if_neg q]
      by_cases w : i = j
      · rw [if_pos w]; omega
      · rw [if_neg w]; omega
  refine ⟨lt_bit u1 u2 u3, fun X hX hz h0 hAX => ?_⟩
  rcases Nat.lt_or_ge X B with q | q
  · exfalso
    obtain ⟨k, k1, k2, k3, k4⟩ := hi_lt (row_lt h hAK) hX hAX
    obtain ⟨l, l1, l2, l3, l4⟩ := hi_lt hX (row_lt hB hBK) q
    rcases Nat.lt_trichotomy k (c j + 1) with w | w | w
    · -- below the run
      have e := hi_zc k1 (by rw [hz, row_zc h hAK]) k2 k3 k4
      have hp : 0 < zc k A := by omega
      rw [zc_zcn] at hp
      have : ∃ b, b < k ∧ A.testBit b = true := by
        rcases Classical.em (∃ b, b < k ∧ A.testBit b = true) with z | z
        · exact z
        · rw [zcn_none k (fun b hb hc => z ⟨b, hb, hc⟩)] at hp; omega
      obtain ⟨b, b1, b2⟩ := this
      obtain ⟨i, hi, ei⟩ := (h.2.2 b).mp b2
      have hc0 : c 0 ≤ c i := by
        by_cases e0 : i = 0
        · rw [e0]; exact Nat.le_refl _
        · have := h.2.1 0 i (by omega) hi; omega
      have : A.testBit k = true := (h.2.2 k).mpr ⟨k - c 0, by omega, by rw [run _ (by omega)]; omega⟩
      rw [k2] at this; cases this
    · -- at the place
      have hl : l < c j + 1 := by
        rcases Nat.lt_trichotomy l (c j + 1) with z | z | z
        · exact z
        · rw [z, ← w, k3] at l2; cases l2
        · rw [← k4 l (by omega), u3 l z, l3] at l2; cases l2
      obtain ⟨i, hi, ei⟩ := (hB.2.2 l).mp l3
      have hij : i < j := by
        unfold nxr at ei
        by_cases z : i < j
        · exact z
        · rw [if_neg z] at ei
          by_cases y : i = j
          · rw [if_pos y] at ei; omega
          · rw [if_neg y] at ei
            have := h.2.1 j i (by omega) hi; omega
      have ei2 : i + 1 = l := by unfold nxr at ei; rw [if_pos hij] at ei; exact ei
      exact low_no (h := l) (B := B) h0 (fun b b1 b2 => (hB.2.2 b).mpr ⟨b - 1, by omega, by unfold nxr; rw [if_pos (by omega)]; omega⟩) (hi_zc l1 (by rw [hz, row_zc hB hBK]) l2 l3 l4)
    · -- above
      have hBk : B.testBit k = false := by rw [← u3 k w]; exact k2
      rcases Nat.lt_trichotomy l k with z | z | z
      · have := l4 k z; rw [k3, hBk] at this; cases this
      · rw [z, k3] at l2; cases l2
      · have := k4 l z
        rw [u3 l (by omega), l3, l2] at this; cases this
  · exact q
/-- how many there are at most -/
def bn : Nat → Nat → Nat
  | 0, 0 => 1
  | 0, _ + 1 => 0
  | k + 1, 0 => bn k 0
  | k + 1, m + 1 => bn k (m + 1) + bn k m
theorem bn_le : ∀ k, k < 20 → ∀ m, m < 5 → bn k m ≤ 3876 := by decide +kernel
theorem cnt_le : ∀ k m, zcn (fun X => zc (k + 1) X = m ∧ X.testBit 0 = false) (2 ^ (k + 1)) ≤ bn k m := by
  intro k
  induction k with
  | zero =>
    intro m
    have e1 : ¬ (zc 1 1 = m ∧ (1 : Nat).testBit 0 = false) := fun q => by have := q.2; revert this; decide
    show zcn (fun X => zc 1 X = m ∧ X.testBit 0 = false) (1 + 1) ≤ _
    rw [zcn_f e1]
    cases m with
    | zero => exact zcn_le _ 1
    | succ m =>
      have e0 : ¬ (zc 1 0 = m + 1 ∧ (0 : Nat).testBit 0 = false) := fun q => by rw [zc_zero] at q; omega
      show zcn (fun X => zc 1 X = m + 1 ∧ X.testBit 0 = false) (0 + 1) ≤ _
      rw [zcn_f e0]
      exact Nat.le_refl _
  | succ k ih =>
    intro m
    have lo : ∀ x, x < 2 ^ (k + 1) → zc (k + 1 + 1) x = zc (k + 1) x := fun x hx => by
      rw [zc_zcn, zc_zcn]
      exact zcn_f (by rw [Nat.testBit_lt_two_pow hx]; decide)
    have hi : ∀ x, x < 2 ^ (k + 1) → zc (k + 1 + 1) (2 ^ (k + 1) + x) = zc (k + 1) x + 1 := fun x hx => by
      rw [zc_zcn, zc_zcn, zcn_t (p := fun i => (2 ^ (k + 1) + x).testBit i = true) (by rw [Nat.testBit_two_pow_add_eq, Nat.testBit_lt_two_pow hx]; rfl)]
      congr 1
      exact zcn_congr (fun i hi => by rw [Nat.testBit_two_pow_add_gt hi])
    have b0 : ∀ x, (2 ^ (k + 1) + x).testBit 0 = x.testBit 0 := fun x => Nat.testBit_two_pow_add_gt (by omega) x
    rw [show 2 ^ (k + 1 + 1) = 2 ^ (k + 1) + 2 ^ (k + 1) by rw [Nat.pow_succ 2 (k + 1)]; omega, zcn_add]
    have p1 : zcn (fun X => zc (k + 1 + 1) X = m ∧ X.testBit 0 = false) (2 ^ (k + 1)) ≤ bn k m := by
      rw [zcn_congr (q := fun X => zc (k + 1) X = m ∧ X.testBit 0 = false) (fun x hx => by rw [lo x hx])]
      exact ih m
    cases m with
    | zero =>
      rw [zcn_none (p := fun i => zc (k + 1 + 1) (2 ^ (k + 1) + i) = 0 ∧ (2 ^ (k + 1) + i).testBit 0 = false) _ (fun x hx q => by rw [hi x hx] at q; omega)]
      exact p1
    | succ m =>
      have p2 : zcn (fun i => zc (k + 1 + 1) (2 ^ (k + 1) + i) = m + 1 ∧ (2 ^ (k + 1) + i).testBit 0 = false) (2 ^ (k + 1)) ≤ bn k m := by
        rw [zcn_congr (q := fun X => zc (k + 1) X = m ∧ X.testBit 0 = false) (fun x hx => by rw [hi x hx, b0]; exact ⟨fun q => ⟨by omega, q.2⟩, fun q => ⟨by omega, q.2⟩⟩)]
        exact ih m
      show _ ≤ bn k (m + 1) + bn k m
      omega
end W2

/-! THE EXPONENT, both sides; arrays that are filled -/
noncomputable def exq (t : Nat → Nat → Nat) : Nat → Nat
  | 0 => 1
  | k + 1 => Nat.lcm (exq t k) (per t k)
theorem z_20dvd : ∀ e, e ≤ 20 → 0 < e → e ∣ 232792560 := by decide
section C3
variable {d g m s n : Nat} {t : Nat → Nat → Nat} {iv : Nat → Nat} {S : zS} {I : zI} {J : zJ}
theorem per_le (hg : Grp n t iv) {x : Nat} (hx : x < n) : 0 < per t x ∧ per t x ≤ n := by
  obtain ⟨e, h1, h2, _⟩ := per_spec hg hx
  omega
theorem exq_dvd (hg : Grp n t iv) : ∀ k, k ≤ n → exq t k ∣ 232792560 := by
  intro k
  induction k with
  | zero => intro _; exact Nat.one_dvd _
  | succ k ih =>
    intro hk
    have h1 := per_le hg (x := k) (by omega)
    have h2 := hg.le
    exact Nat.lcm_dvd (ih (by omega)) (z_20dvd _ (by omega) h1.1)
theorem exq_le (hg : Grp n t iv) {k : Nat} (hk : k ≤ n) : 0 < exq t k ∧ exq t k ≤ 232792560 := ⟨Nat.pos_of_dvd_of_pos (exq_dvd hg k hk) (by decide), Nat.le_of_dvd (by decide) (exq_dvd hg k hk)⟩
theorem c_exponent (hd : 1 < d) (h : CT S I g n t) (hg : Grp n t iv) (hp : CR S I g 3 n (per t)) : z_ev d i_X1_exponent [.ref g] S I J (some (.int (nI (exq t n)))) S I J := by
  obtain ⟨d, rfl⟩ := z_dep (d := d) (by omega)
  have hn := h.le
  refine e_X1_exponent (b_X1_exponent_0 ?_)
  suffices H : ∀ k, k ≤ n → ∀ x1 x2 v3 v4 v5, x1 = nI (exq t k) → x2 = nI k → Go d i_X1_exponent 4 [.ref g, .int x1, .int x2, v3, v4, v5] [] S I J (z_eq (some (.int (nI (exq t n)))) S I J) from H 0 (by omega) _ _ _ _ _ rfl rfl
  refine z_up_to n ?_ ?_
  · rintro x1 x2 v3 v4 v5 rfl rfl
    exact b_X1_exponent_4 h.1 (fun _ => b_X1_exponent_63 ⟨rfl, rfl, rfl, rfl⟩) (fun c => absurd h.ge c)
  · rintro k hk ih x1 x2 v3 v4 v5 rfl rfl
    obtain ⟨k1, k2⟩ := hp.at hk (by omega)
    have p1 := per_le hg hk
    have q1 := exq_le hg (k := k) (by omega)
    have q2 := exq_le hg (k := k + 1) (by omega)
    refine b_X1_exponent_4 h.1 (fun c => absurd c (h.nge hk)) (fun _ => ?_)
    refine b_X1_exponent_12 h.1 k1 ⟨_, _, _, _, by rw [k2]; exact ev_max (a := 1) (by omega) (by decide) (by omega), ?_⟩
    rw [show max 1 (per t k) = per t k by omega]
    refine b_X1_exponent_22 ?_
    obtain ⟨q, hq⟩ := Nat.dvd_lcm_left (exq t k) (per t k)
    have hqe : exq t (k + 1) = exq t k * q := hq
    have hq0 : 0 < q := by
      rcases Nat.eq_zero_or_pos q with e | e
      · rw [e, Nat.mul_zero] at hqe; omega
      · exact e
    have hqp : q ≤ per t k := by
      have h1 : exq t k * q ∣ exq t k * per t k := by
        rw [← hq]; exact Nat.lcm_dvd (Nat.dvd_mul_right _ _) (Nat.dvd_mul_left _ _)
      exact Nat.le_of_dvd p1.1 (Nat.dvd_of_mul_dvd_mul_left q1.1 h1)
    have hmul : ∀ i, i < q → exq t k * (i + 1) ≤ exq t k * q := fun i hi => Nat.mul_le_mul_left _ hi
    suffices H2 : ∀ i, i ≤ q - 1 → ∀ x4 x5, x4 = nI (exq t k * (i + 1)) → x5 = nI i → Go d i_X1_exponent 29 [.ref g, .int (nI (exq t k)), .int (nI k), .int (nI (per t k)), .int x4, .int x5] [] S I J (z_eq (some (.int (nI (exq t n)))) S I J) by
      refine H2 0 (by omega) _ _ ?_ rfl
      rw [Nat.zero_add, Nat.mul_one]
    refine z_up_to (q - 1) ?_ ?_
    · rintro x4 x5 rfl rfl
      rw [show q - 1 + 1 = q by omega]
      refine b_X1_exponent_29 (fun c => absurd c (nI_ge (by omega) (by omega))) (fun _ => ?_)
      refine b_X1_exponent_35 (nI_ne0 p1.1 (by omega)) (fun _ => b_X1_exponent_54 (ih _ _ _ _ _ (by rw [hqe]) (nI_1 k))) (fun c => absurd ?_ c)
      have hz : exq t (k + 1) % per t k = 0 := Nat.mod_eq_zero_of_dvd (Nat.dvd_lcm_right (exq t k) (per t k))
      rw [pk_rem (by omega) p1.1 (by omega), ← hqe, hz]
      rfl
    · rintro i hi ih2 x4 x5 rfl rfl
      have := hmul i (by omega)
      refine b_X1_exponent_29 (fun c => absurd c (nI_ge (by omega) (by omega))) (fun _ => ?_)
      refine b_X1_exponent_35 (nI_ne0 p1.1 (by omega)) (fun c => ?_) (fun _ => b_X1_exponent_42 (ih2 _ _ ?_ (nI_1 i)))
      · exfalso
        have hml := Nat.mod_lt (exq t k * (i + 1)) p1.1
        rw [pk_rem (by omega) p1.1 (by omega), z_eq0 (by omega)] at c
        have h1 : Nat.lcm (exq t k) (per t k) ∣ exq t k * (i + 1) := Nat.lcm_dvd (Nat.dvd_mul_right _ _) (Nat.dvd_of_mod_eq_zero c)
        rw [hq] at h1
        have h2 := Nat.le_of_dvd (by omega) (Nat.dvd_of_mul_dvd_mul_left q1.1 h1)
        omega
      · rw [nI_add, Nat.mul_add (exq t k) (i + 1) 1, Nat.mul_one]
/-- the model's exponent, from the loop's head -/
theorem m_exponent {w : Int32} {Q : zQ} (hd : 24 < d) (h : MS S I m s n t) (hg : Grp n t iv) (hQ : Q (some (.int (nI (exq t n)))) S I J) : Go d i_X12_size 108 [.ref m, .int (nI s), .int w, .int 1, .int 0] [] S I J Q := by
  have hK := h.1.1
  have hn := h.2.2.1.2.1
  suffices H : ∀ k, k ≤ n → ∀ x3 x4, x3 = nI (exq t k) → x4 = nI k → Go d i_X12_size 108 [.ref m, .int (nI s), .int w, .int x3, .int x4] [] S I J Q from H 0 (by omega) _ _ rfl rfl
  refine z_up_to n ?_ ?_
  · rintro x3 x4 rfl rfl
    refine b_X12_size_108 hK ⟨_, _, _, _, m_many (by omega) h, ?_⟩
    exact b_X12_size_115 (fun _ => b_X12_size_146 hQ) (fun c => absurd (nI_le (Nat.le_refl _) (by omega)) c)
  · rintro k hk ih x3 x4 rfl rfl
    have p1 := per_le hg hk
    have q1 := exq_le hg (k := k) (by omega)
    have q2 := exq_le hg (k := k + 1) (by omega)
    have g1 : 0 < Nat.gcd (exq t k) (per t k) := Nat.gcd_pos_of_pos_left _ q1.1
    have g2 : Nat.gcd (exq t k) (per t k) ≤ exq t k := Nat.gcd_le_left _ q1.1
    refine b_X12_size_108 hK ⟨_, _, _, _, m_many (by omega) h, ?_⟩
    refine b_X12_size_115 (fun c => absurd c (nI_ge hk (by omega))) (fun _ => ?_)
    refine b_X12_size_118 hK ⟨_, _, _, _, m_periodOf (by omega) h hg hk, ?_⟩
    refine b_X12_size_127 ⟨_, _, _, _, m_common (per t k) (exq t k) _ (by omega) (by omega) (by omega), ?_⟩
    refine b_X12_size_130 (nI_ne0 g1 (by omega)) hK ⟨_, _, _, _, m_periodOf (by omega) h hg hk, ?_⟩
    refine b_X12_size_138 (ih _ _ ?_ (nI_1 k))
    rw [pk_div (by omega) g1 (by omega), pk_mul]
    refine congrArg nI ?_
    show _ = Nat.lcm (exq t k) (per t k)
    rw [Nat.lcm_eq_mul_div, Nat.mul_comm (exq t k) (per t k), Nat.mul_div_assoc _ (Nat.gcd_dvd_left _ _), Nat.mul_comm]
end C3
/-- an array's first n places are filled -/
def zfill (I : zI) (h n : Nat) (f : Nat → Int32) : zI := fun a j => if a = h ∧ j < n then f j else I a j
theorem zfill_in {I : zI} {h n j : Nat} {f : Nat → Int32} (hj : j < n) : zfill I h n f h j = f j := by simp [zfill, hj]
theorem zfill_ne {I : zI} {h n a : Nat} {f : Nat → Int32} (ha : a ≠ h) : zfill I h n f a = I a := by funext j; simp [zfill, ha]
theorem zfill_out {I : zI} {h n a j : Nat} {f : Nat → Int32} (hj : n ≤ j) : zfill I h n f a j = I a j := by
  unfold zfill
  rw [if_neg (fun q => by omega)]
theorem zfill_0 {I : zI} {h : Nat} {f : Nat → Int32} : zfill I h 0 f = I := by funext a j; simp [zfill]
theorem zfill_s {I : zI} {h k : Nat} {f : Nat → Int32} {v : Int32} (hv : v = f k) : z_u2 (zfill I h k f) h k v = zfill I h (k + 1) f := by
  funext a j
  unfold z_u2 zfill
  by_cases h1 : a = h
  · by_cases h2 : j = k
    · rw [if_pos h1, if_pos h2, if_pos ⟨h1, by omega⟩, h2, hv]
    · rw [if_pos h1, if_neg h2]
      by_cases h3 : j < k
      · rw [if_pos ⟨h1, h3⟩, if_pos ⟨h1, by omega⟩]
      · rw [if_neg (fun q => h3 q.2), if_neg (fun q => by omega)]
  · rw [if_neg h1, if_neg (fun q => h1 q.1), if_neg (fun q => h1 q.1)]
theorem zfill_u {I : zI} {h n k : Nat} {f f' : Nat → Int32} {v : Int32} (hk : k < n) (hv : v = f' k) (hf : ∀ j, j < n → j ≠ k → f' j = f j) : z_u2 (zfill I h n f) h k v = zfill I h n f' := by
  funext a j
  unfold z_u2 zfill
  by_cases h1 : a = h
  · rw [if_pos h1]
    by_cases h2 : j = k
    · rw [if_pos h2, if_pos ⟨h1, by omega⟩, h2, hv]
    · rw [if_neg h2]
      by_cases h3 : j < n
      · rw [if_pos ⟨h1, h3⟩, if_pos ⟨h1, h3⟩, hf j h3 h2]
      · rw [if_neg (fun q => h3 q.2), if_neg (fun q => h3 q.2)]
  · rw [if_neg h1, if_neg (fun q => h1 q.1), if_neg (fun q => h1 q.1)]
theorem zfill_congr {I : zI} {h n : Nat} {f f' : Nat → Int32} (hf : ∀ j, j < n → f j = f' j) : zfill I h n f = zfill I h n f' := by
  funext a j
  unfold zfill
  by_cases h1 : a = h ∧ j < n
  · rw [if_pos h1, if_pos h1, hf j h1.2]
  · rw [if_neg h1, if_neg h1]
theorem zfill_id {I : zI} {h n : Nat} {f : Nat → Int32} (hf : ∀ j, j < n → f j = I h j) : zfill I h n f = I := by
  funext a j
  unfold zfill
  by_cases h1 : a = h ∧ j < n
  · rw [if_pos h1, hf j h1.2, h1.1]
  · rw [if_neg h1]
theorem CT.fr {S : zS} {I I' : zI} {g n : Nat} {t : Nat → Nat → Nat} (h : CT S I g n t) (h1 : I' g 0 = I g 0) (h2 : I' (z_rv S g 1) = I (z_rv S g 1)) : CT S I' g n t := by
  obtain ⟨a1, a2, a3, a4, a5, a6⟩ := h
  exact ⟨a1, by rw [h1]; exact a2, a3, a4, a5, fun x hx y hy => by rw [h2]; exact a6 x hx y hy⟩
theorem CR.fr {S : zS} {I I' : zI} {g k n : Nat} {f : Nat → Nat} (h : CR S I g k n f) (h2 : I' (z_rv S g k) = I (z_rv S g k)) : CR S I' g k n f := by
  obtain ⟨a1, a2, a3⟩ := h
  exact ⟨a1, a2, fun x hx => by rw [h2]; exact a3 x hx⟩
theorem CR.filled {S : zS} {I : zI} {g k n : Nat} {f : Nat → Nat} (h1 : z_kd S (z_rv S g k) = 100) (h2 : z_ln S (z_rv S g k) = n) : CR S (zfill I (z_rv S g k) n (fun x => nI (f x))) g k n f := ⟨h1, h2, fun x hx => zfill_in hx⟩

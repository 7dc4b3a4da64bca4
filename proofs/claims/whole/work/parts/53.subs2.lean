/-! PURE: subgroups of eight in sixteen; the bounds -/
theorem z_8 : ∀ e, e ≤ 8 → ∀ k, k ≤ 8 → ¬ (e ≠ 0 ∧ k % e = 0 ∧ 8 % k = 0 ∧ e < k ∧ 1 < e ∧ k < 4) := by decide +kernel
theorem z_8' : ∀ e, e ≤ 8 → ∀ k, k ≤ 8 → ¬ (e ≠ 0 ∧ k % e = 0 ∧ 8 % k = 0 ∧ e < k ∧ 3 < e ∧ k ≠ 8) := by decide +kernel
section B3
variable {n : Nat} {t : Nat → Nat → Nat} {iv : Nat → Nat}
def U3 (p x y w : Nat) : Prop := U2 x y ∧ w ≠ 0 ∧ w ≠ x ∧ w ≠ y
theorem zc_out3 {a x y : Nat} (hx : x < n) (hy : y < n) (h0 : x ≠ 0) (h1 : y ≠ 0) (h2 : y ≠ x) (ha : a.testBit 0 = true) (hax : a.testBit x = true) (hay : a.testBit y = true) : zcn (fun w => a.testBit w = true ∧ ¬ (w = 0 ∨ (w = x ∨ w = y))) n + 3 = zc n a := by
  have h3 := zcn_sub (p := fun w => a.testBit w = true) (q := fun w => w = 0 ∨ (w = x ∨ w = y)) (T := n) (fun z _ q => by
    rcases q with rfl | rfl | rfl
    · exact ha
    · exact hax
    · exact hay)
  rw [zcn_or (p := fun w => w = 0) (q := fun w => w = x ∨ w = y) n (fun z _ q1 q2 => by omega), zcn_or (p := fun w => w = x) (q := fun w => w = y) n (fun z _ q1 q2 => by omega), zcn_eq1 n (by omega), zcn_eq1 n hx, zcn_eq1 n hy] at h3
  rw [zc_zcn n a]
  exact h3
theorem cnt_U3 (hn : 0 < n) : zcn (fun z => U2 (z / n / n) (z / n % n) ∧ z % n ≠ 0 ∧ z % n ≠ z / n / n ∧ z % n ≠ z / n % n) (n * n * n) ≤ (n - 3) * ((n - 2) * (n - 1)) := by
  refine Nat.le_trans (zcn_lep (P := fun p w => U2 (p / n) (p % n) ∧ w ≠ 0 ∧ w ≠ p / n ∧ w ≠ p % n) (X := fun p => U2 (p / n) (p % n)) (c := n - 3) (n * n) (fun p hp q => ?_) (fun p hp q => zcn_none n (fun z _ r => q r.1))) (Nat.mul_le_mul_left _ (cnt_U2 hn))
  have hx : p / n < n := Nat.div_lt_of_lt_mul hp
  have hy : p % n < n := Nat.mod_lt _ hn
  have h1 := zcn_sub (p := fun _ => True) (q := fun w => w = 0 ∨ (w = p / n ∨ w = p % n)) (T := n) (fun _ _ _ => trivial)
  obtain ⟨q1, q2, q3⟩ := q
  rw [zcn_or (p := fun w => w = 0) (q := fun w => w = p / n ∨ w = p % n) n (fun z _ r1 r2 => by omega), zcn_or (p := fun w => w = p / n) (q := fun w => w = p % n) n (fun z _ r1 r2 => by omega), zcn_eq1 n hn, zcn_eq1 n hx, zcn_eq1 n hy, zcn_all (p := fun _ => True) n (fun _ _ => trivial)] at h1
  have h2 := zcn_mono (p := fun w => U2 (p / n) (p % n) ∧ w ≠ 0 ∧ w ≠ p / n ∧ w ≠ p % n) (q := fun w => True ∧ ¬ (w = 0 ∨ (w = p / n ∨ w = p % n))) n (fun z _ r => ⟨trivial, by omega⟩)
  omega
theorem good3 (hg : Grp n t iv) {a : Nat} (ha : SG n t a) (hc : zc n a = 8) : 112 ≤ zcn (fun z => (U2 (z / n / n) (z / n % n) ∧ z % n ≠ 0 ∧ z % n ≠ z / n / n ∧ z % n ≠ z / n % n) ∧ gen n t (2 ^ (z / n / n) ||| 2 ^ (z / n % n) ||| 2 ^ (z % n)) = a) (n * n * n) := by
  have hn := hg.le
  have in1 : ∀ x, a.testBit x = true → ∀ i, i < n → (2 ^ x).testBit i = true → a.testBit i = true := fun x hx i _ q => by rw [b_pow] at q; rw [q]; exact hx
  have in2 : ∀ x y, a.testBit x = true → a.testBit y = true → ∀ i, i < n → (2 ^ x ||| 2 ^ y).testBit i = true → a.testBit i = true := fun x y hx hy i _ q => by
    rw [b_orp, b_pow] at q
    rcases q with rfl | rfl
    · exact hx
    · exact hy
  have in3 : ∀ x y w, a.testBit x = true → a.testBit y = true → a.testBit w = true → ∀ i, i < n → (2 ^ x ||| 2 ^ y ||| 2 ^ w).testBit i = true → a.testBit i = true := fun x y w hx hy hw i hi q => by
    rw [b_orp] at q
    rcases q with q | rfl
    · exact in2 x y hx hy i hi q
    · exact hw
  have dv : ∀ s, (∀ i, i < n → s.testBit i = true → a.testBit i = true) → zc n (gen n t s) ∣ 8 ∧ zc n (gen n t s) ≤ 8 ∧ (zc n (gen n t s) = 8 → gen n t s = a) := fun s hs => by
    have h1 := gen_sub hg ha hs
    rw [hc] at h1
    exact ⟨h1.2, Nat.le_of_dvd (by decide) h1.2, fun e => sg_eq hg (gen_SG hg _) ha h1.1 (by omega)⟩
  -- which pairs
  have e1 : ∀ x, x < n → (a.testBit x = true ∧ x ≠ 0) → 4 ≤ zcn (fun y => U2 x y ∧ a.testBit x = true ∧ a.testBit y = true ∧ 4 ≤ zc n (gen n t (2 ^ x ||| 2 ^ y))) n := by
    rintro x hx ⟨h1, h0⟩
    have d1 := dv (2 ^ x) (in1 x h1)
    have g2 := gen_1lt hg hx h0 ((b_pow x x).mpr rfl)
    by_cases hq : zc n (gen n t (2 ^ x)) = 8
    · have h2 := zc_out2 hx h0 ha.z h1
      refine Nat.le_trans ?_ (zcn_mono (p := fun y => a.testBit y = true ∧ ¬ (y = 0 ∨ y = x)) n (fun y hy q => ⟨⟨h0, fun e => q.2 (Or.inl e), fun e => q.2 (Or.inr e)⟩, h1, q.1, ?_⟩))
      · omega
      · have k1 := gen_mono hg (r := 2 ^ x) (s := 2 ^ x ||| 2 ^ y) (fun i _ r => (b_orp _ _ _).mpr (Or.inl r))
        have k2 := zc_mono k1.1
        omega
    · have h2 := zc_out (gen_sub hg ha (in1 x h1)).1
      have h3 := z_hdiv 8 (by decide) (zc n (gen n t (2 ^ x))) (by omega) d1.1 hq
      refine Nat.le_trans ?_ (zcn_mono (p := fun y => a.testBit y = true ∧ ¬ (gen n t (2 ^ x)).testBit y = true) n (fun y hy q => ⟨⟨h0, fun e => q.2 (by rw [e]; exact (gen_SG hg _).z), fun e => q.2 (by rw [e]; exact gen_has hg hx ((b_pow x x).mpr rfl))⟩, h1, q.1, ?_⟩))
      · omega
      · have k1 := gen_mono hg (r := 2 ^ x) (s := 2 ^ x ||| 2 ^ y) (fun i _ r => (b_orp _ _ _).mpr (Or.inl r))
        have k3 := gen_new hg hy (by have := q.2; rw [Bool.not_eq_true] at this; exact this)
        have d2 := dv (2 ^ x ||| 2 ^ y) (in2 x y h1 q.1)
        rcases Nat.lt_or_ge (zc n (gen n t (2 ^ x ||| 2 ^ y))) 4 with r | r
        · exact absurd ⟨by omega, Nat.mod_eq_zero_of_dvd k1.2, Nat.mod_eq_zero_of_dvd d2.1, k3, g2, r⟩ (z_8 _ (by omega) _ d2.2.1)
        · exact r
  have e2 := zcn_ge (P := fun x y => U2 x y ∧ a.testBit x = true ∧ a.testBit y = true ∧ 4 ≤ zc n (gen n t (2 ^ x ||| 2 ^ y))) (n := n) n e1
  have e3 := zcn_sub (p := fun y => a.testBit y = true) (q := fun y => y = 0) (T := n) (fun z _ e => by rw [e]; exact ha.z)
  rw [zcn_eq1 n hg.pos, ← zc_zcn, hc] at e3
  have e4 : zcn (fun x => a.testBit x = true ∧ x ≠ 0) n = 7 := by
    show zcn (fun z => a.testBit z = true ∧ ¬ z = 0) n = _
    omega
  rw [e4] at e2
  -- the third
  have e5 : ∀ p, p < n * n → (U2 (p / n) (p % n) ∧ a.testBit (p / n) = true ∧ a.testBit (p % n) = true ∧ 4 ≤ zc n (gen n t (2 ^ (p / n) ||| 2 ^ (p % n)))) → 4 ≤ zcn (fun w => (U2 (p / n) (p % n) ∧ w ≠ 0 ∧ w ≠ p / n ∧ w ≠ p % n) ∧ gen n t (2 ^ (p / n) ||| 2 ^ (p % n) ||| 2 ^ w) = a) n := by
    rintro p hp ⟨⟨h1, h2, h3⟩, h4, h5, h6⟩
    have hx : p / n < n := Nat.div_lt_of_lt_mul hp
    have hy : p % n < n := Nat.mod_lt _ hg.pos
    have d2 := dv (2 ^ (p / n) ||| 2 ^ (p % n)) (in2 _ _ h4 h5)
    have m1 : ∀ w, ∀ i, i < n → (2 ^ (p / n) ||| 2 ^ (p % n)).testBit i = true → (2 ^ (p / n) ||| 2 ^ (p % n) ||| 2 ^ w).testBit i = true := fun w i _ r => (b_orp _ _ _).mpr (Or.inl r)
    by_cases hq : zc n (gen n t (2 ^ (p / n) ||| 2 ^ (p % n))) = 8
    · have h7 := zc_out3 hx hy h1 h2 h3 ha.z h4 h5
      refine Nat.le_trans ?_ (zcn_mono (p := fun w => a.testBit w = true ∧ ¬ (w = 0 ∨ (w = p / n ∨ w = p % n))) n (fun w hw q => ⟨⟨⟨h1, h2, h3⟩, by omega, by omega, by omega⟩, ?_⟩))
      · omega
      · have k1 := zc_mono (gen_mono hg (m1 w)).1
        have d3 := dv _ (in3 _ _ w h4 h5 q.1)
        exact d3.2.2 (by omega)
    · have h7 := zc_out (gen_sub hg ha (in2 _ _ h4 h5)).1
      have h8 := z_hdiv 8 (by decide) _ (by omega) d2.1 hq
      refine Nat.le_trans ?_ (zcn_mono (p := fun w => a.testBit w = true ∧ ¬ (gen n t (2 ^ (p / n) ||| 2 ^ (p % n))).testBit w = true) n (fun w hw q => ⟨⟨⟨h1, h2, h3⟩, fun e => q.2 (by rw [e]; exact (gen_SG hg _).z), fun e => q.2 ?_, fun e => q.2 ?_⟩, ?_⟩))
      · omega
      · rw [e]; exact gen_has hg hx ((b_orp _ _ _).mpr (Or.inl ((b_pow _ _).mpr rfl)))
      · rw [e]; exact gen_has hg hy ((b_orp _ _ _).mpr (Or.inr rfl))
      · have k1 := gen_mono hg (m1 w)
        have k3 := gen_new hg hw (by have := q.2; rw [Bool.not_eq_true] at this; exact this)
        have d3 := dv _ (in3 _ _ w h4 h5 q.1)
        refine d3.2.2 ?_
        rcases Classical.em (zc n (gen n t (2 ^ (p / n) ||| 2 ^ (p % n) ||| 2 ^ w)) = 8) with r | r
        · exact r
        · exact absurd ⟨by omega, Nat.mod_eq_zero_of_dvd k1.2, Nat.mod_eq_zero_of_dvd d3.1, k3, by omega, r⟩ (z_8' _ (by omega) _ d3.2.1)
  have e6 := zcn_ge (P := fun p w => (U2 (p / n) (p % n) ∧ w ≠ 0 ∧ w ≠ p / n ∧ w ≠ p % n) ∧ gen n t (2 ^ (p / n) ||| 2 ^ (p % n) ||| 2 ^ w) = a) (n := n) (n * n) e5
  omega
theorem cnt_8 (hg : Grp n t iv) : zcn (fun a => SG n t a ∧ zc n a = 8) (2 ^ n) * 112 ≤ (n - 3) * ((n - 2) * (n - 1)) := by
  refine Nat.le_trans ?_ (cnt_U3 hg.pos)
  exact dcount (R := fun a z => (U2 (z / n / n) (z / n % n) ∧ z % n ≠ 0 ∧ z % n ≠ z / n / n ∧ z % n ≠ z / n % n) ∧ gen n t (2 ^ (z / n / n) ||| 2 ^ (z / n % n) ||| 2 ^ (z % n)) = a) (2 ^ n) (fun a ha q => good3 hg q.1 q.2) (fun a ha b hb q1 q2 z hz r1 r2 => by rw [← r1.2, r2.2]) (fun a ha q z hz r => r.1)
/-- the whole -/
theorem sg_all (hg : Grp n t iv) : SG n t (2 ^ n - 1) ∧ zc n (2 ^ n - 1) = n := by
  have hb : ∀ i, i < n → (2 ^ n - 1).testBit i = true := fun i hi => by rw [Nat.testBit_two_pow_sub_one]; exact decide_eq_true hi
  refine ⟨⟨by have := Nat.two_pow_pos n; omega, hb 0 hg.pos, fun x hx y hy _ _ => hb _ (hg.lt hx hy)⟩, ?_⟩
  rw [zc_zcn, zcn_all n hb]
theorem sg_dvd (hg : Grp n t iv) {a : Nat} (ha : SG n t a) : zc n a ∣ n := by
  have := lagr hg ha (sg_all hg).1 (fun i hi _ => by rw [Nat.testBit_two_pow_sub_one]; exact decide_eq_true hi)
  rwa [(sg_all hg).2] at this
theorem cnt_1 {p : Nat → Prop} {T : Nat} (h : ∀ a, a < T → ∀ b, b < T → p a → p b → a = b) : zcn p T ≤ 1 := by
  have := dcount (p := p) (U := fun _ => True) (R := fun _ _ => True) (T := 1) (c := 1) T (fun a _ _ => by rw [zcn_all (p := fun _ => True) 1 (fun _ _ => trivial)]; exact Nat.le_refl _) (fun a ha b hb q1 q2 _ _ _ _ => h a ha b hb q1 q2) (fun _ _ _ _ _ _ => trivial)
  rw [zcn_all (p := fun _ => True) 1 (fun _ _ => trivial)] at this
  omega
theorem z_dvs (n : Nat) (hn : n ≤ 20) (e : Nat) (he : e ≤ 20) (hd : e ∣ n) (h0 : n ≠ 0) : e = 1 ∨ e = n ∨ e = 2 ∨ e = 3 ∨ (e = 4 ∨ e = 5 ∨ e = 6 ∨ e = 7 ∨ e = 9 ∨ e = 10) ∨ e = 8 := by
  by_cases hq : e = n
  · exact Or.inr (Or.inl hq)
  · have h1 := z_hdiv n hn e he hd hq
    have h2 := Nat.pos_of_dvd_of_pos hd (by omega)
    omega
def sgc (n e : Nat) : Nat := if e = 1 then 0 else if e = n then 1 else if e = 2 then 2 else if e = 3 then 3 else if e = 8 then 5 else 4
theorem nsub_le (hg : Grp n t iv) : nsub n t ≤ 80 ∧ (n ≤ 8 → nsub n t ≤ 16) := by
  have hn := hg.le
  have hp := hg.pos
  have z1 : ∀ a, SG n t a → 0 < zc n a ∧ zc n a ≤ n := fun a ha => ⟨zc_pos hp ha.z, zc_le n a⟩
  have h := zcn_split (p := SG n t) (f := fun a => sgc n (zc n a)) (T := 2 ^ n) [0, 1, 2, 3, 4, 5] (fun a _ ha => by
    show sgc n (zc n a) ∈ [0, 1, 2, 3, 4, 5]
    unfold sgc
    repeat' split
    all_goals simp)
  have c0 : zcn (fun a => SG n t a ∧ sgc n (zc n a) = 0) (2 ^ n) ≤ 1 := cnt_1 (fun a _ b _ q1 q2 => by
    have key : ∀ a, SG n t a ∧ sgc n (zc n a) = 0 → a = 2 ^ 0 := by
      rintro a ⟨r1, r2⟩
      refine (zc_one r1.1 r1.z).mp ?_
      unfold sgc at r2
      by_cases e : zc n a = 1
      · exact e
      · rw [if_neg e] at r2
        repeat' split at r2
        all_goals cases r2
    rw [key a q1, key b q2])
  have c1 : zcn (fun a => SG n t a ∧ sgc n (zc n a) = 1) (2 ^ n) ≤ 1 := cnt_1 (fun a _ b _ q1 q2 => by
    have key : ∀ a, SG n t a ∧ sgc n (zc n a) = 1 → a = 2 ^ n - 1 := by
      rintro a ⟨r1, r2⟩
      refine sg_eq hg r1 (sg_all hg).1 (fun i hi _ => by rw [Nat.testBit_two_pow_sub_one]; exact decide_eq_true hi) ?_
      rw [(sg_all hg).2]
      unfold sgc at r2
      by_cases e : zc n a = n
      · exact e
      · repeat' split at r2
        all_goals (first | cases r2 | contradiction)
    rw [key a q1, key b q2])
  have c2 : zcn (fun a => SG n t a ∧ sgc n (zc n a) = 2) (2 ^ n) ≤ n - 1 := by
    refine Nat.le_trans (zcn_mono (q := fun a => SG n t a ∧ zc n a = 2) _ (fun a _ ⟨r1, r2⟩ => ⟨r1, ?_⟩)) (by have := cnt_prime hg (m := 2) (fun e h1 h2 => by have := Nat.le_of_dvd (by decide) h1; omega); omega)
    unfold sgc at r2
    by_cases e : zc n a = 2
    · exact e
    · repeat' split at r2
      all_goals (first | cases r2 | contradiction)
  have c3 : zcn (fun a => SG n t a ∧ sgc n (zc n a) = 3) (2 ^ n) * 2 ≤ n - 1 ∧ (¬ 3 ∣ n → zcn (fun a => SG n t a ∧ sgc n (zc n a) = 3) (2 ^ n) = 0) := by
    have key : ∀ a, SG n t a ∧ sgc n (zc n a) = 3 → zc n a = 3 := by
      rintro a ⟨r1, r2⟩
      unfold sgc at r2
      by_cases e : zc n a = 3
      · exact e
      · repeat' split at r2
        all_goals (first | cases r2 | contradiction)
    constructor
    · refine Nat.le_trans (Nat.mul_le_mul_right 2 (zcn_mono (q := fun a => SG n t a ∧ zc n a = 3) _ (fun a _ r => ⟨r.1, key a r⟩))) (cnt_prime hg (m := 3) (fun e h1 h2 => by
        have h3 := Nat.le_of_dvd (by decide) h1
        have h4 : e = 2 ∨ e = 3 := by omega
        rcases h4 with rfl | rfl
        · exact absurd h1 (by decide)
        · rfl))
    · intro h3
      refine zcn_none _ (fun a _ r => h3 ?_)
      have := sg_dvd hg r.1
      rwa [key a r] at this
  have c4 : zcn (fun a => SG n t a ∧ sgc n (zc n a) = 4) (2 ^ n) * 6 ≤ (n - 2) * (n - 1) := by
    refine Nat.le_trans (Nat.mul_le_mul_right 6 (zcn_mono _ (fun a _ ⟨r1, r2⟩ => ⟨r1, ?_⟩))) (cnt_two hg)
    have d1 := z_dvs n hn (zc n a) (by have := (z1 a r1).2; omega) (sg_dvd hg r1) (by omega)
    unfold sgc at r2
    repeat' split at r2
    all_goals (first | cases r2 | skip)
    omega
  have c5 : zcn (fun a => SG n t a ∧ sgc n (zc n a) = 5) (2 ^ n) * 112 ≤ (n - 3) * ((n - 2) * (n - 1)) ∧ (n ≠ 16 → zcn (fun a => SG n t a ∧ sgc n (zc n a) = 5) (2 ^ n) = 0) := by
    have key : ∀ a, SG n t a ∧ sgc n (zc n a) = 5 → zc n a = 8 ∧ zc n a ≠ n := by
      rintro a ⟨r1, r2⟩
      unfold sgc at r2
      by_cases e : zc n a = 8
      · refine ⟨e, fun e2 => ?_⟩
        rw [if_neg (by omega), if_pos e2] at r2
        cases r2
      · repeat' split at r2
        all_goals (first | cases r2 | contradiction)
    constructor
    · exact Nat.le_trans (Nat.mul_le_mul_right 112 (zcn_mono (q := fun a => SG n t a ∧ zc n a = 8) _ (fun a _ r => ⟨r.1, (key a r).1⟩))) (cnt_8 hg)
    · intro h3
      refine zcn_none _ (fun a _ r => h3 ?_)
      have h4 := sg_dvd hg r.1
      have h5 := key a r
      rw [h5.1] at h4
      obtain ⟨q, hq⟩ := h4
      omega
  simp only [List.map_cons, List.map_nil, List.sum_cons, List.sum_nil] at h
  unfold nsub
  have hcase : ∀ N, n = N → zcn (SG n t) (2 ^ n) ≤ 2 + (N - 1) + (if 3 ∣ N then (N - 1) / 2 else 0) + (N - 2) * (N - 1) / 6 + (if N = 16 then 24 else 0) := by
    rintro N rfl
    have k4 : zcn (fun a => SG n t a ∧ sgc n (zc n a) = 4) (2 ^ n) ≤ (n - 2) * (n - 1) / 6 := by
      rw [Nat.le_div_iff_mul_le (by decide)]; exact c4
    have k3 : zcn (fun a => SG n t a ∧ sgc n (zc n a) = 3) (2 ^ n) ≤ (if 3 ∣ n then (n - 1) / 2 else 0) := by
      by_cases h3 : 3 ∣ n
      · rw [if_pos h3, Nat.le_div_iff_mul_le (by decide)]; exact c3.1
      · rw [if_neg h3, c3.2 h3]; exact Nat.le_refl _
    have k5 : zcn (fun a => SG n t a ∧ sgc n (zc n a) = 5) (2 ^ n) ≤ (if n = 16 then 24 else 0) := by
      by_cases h3 : n = 16
      · have := c5.1
        rw [if_pos h3]
        rw [show (n - 3) * ((n - 2) * (n - 1)) = 2730 by rw [h3]] at this
        omega
      · rw [if_neg h3, c5.2 h3]; exact Nat.le_refl _
    omega
  have hb := hcase n rfl
  have hdec : ∀ N, N ≤ 20 → 2 + (N - 1) + (if 3 ∣ N then (N - 1) / 2 else 0) + (N - 2) * (N - 1) / 6 + (if N = 16 then 24 else 0) ≤ 80 := by decide +kernel
  have hdec2 : ∀ N, N ≤ 8 → 2 + (N - 1) + (if 3 ∣ N then (N - 1) / 2 else 0) + (N - 2) * (N - 1) / 6 + (if N = 16 then 24 else 0) ≤ 16 := by decide +kernel
  exact ⟨Nat.le_trans hb (hdec n hn), fun h8 => Nat.le_trans hb (hdec2 n h8)⟩
end B3

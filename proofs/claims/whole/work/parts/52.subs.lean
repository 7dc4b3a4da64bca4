/-! PURE: how many subgroups there can be -/
noncomputable def nsub (n : Nat) (t : Nat → Nat → Nat) : Nat := zcn (SG n t) (2 ^ n)
theorem z_pdiv (m : Nat) (hm : m = 4 ∨ m = 5 ∨ m = 6 ∨ m = 7 ∨ m = 9 ∨ m = 10) : ∀ e k, e ≤ 10 → k ≤ 10 → e ∣ k → k ∣ m → 1 < e → e < k → k = m := by
  have key : ((List.range 11).all fun m => (List.range 11).all fun e => (List.range 11).all fun k => decide (¬ (m ≠ 8 ∧ k % e = 0 ∧ m % k = 0 ∧ 1 < e ∧ e < k ∧ 3 < m ∧ k ≠ m))) = true := by decide +kernel
  have this : ∀ m, m ≤ 10 → ∀ e, e ≤ 10 → ∀ k, k ≤ 10 → ¬ (m ≠ 8 ∧ k % e = 0 ∧ m % k = 0 ∧ 1 < e ∧ e < k ∧ 3 < m ∧ k ≠ m) := fun m hm e he k hk => of_decide_eq_true (List.all_eq_true.mp (List.all_eq_true.mp (List.all_eq_true.mp key m (List.mem_range.mpr (by omega))) e (List.mem_range.mpr (by omega))) k (List.mem_range.mpr (by omega)))
  intro e k he hk h1 h2 h3 h4
  by_cases q : k = m
  · exact q
  · exact absurd ⟨by omega, Nat.mod_eq_zero_of_dvd h1, Nat.mod_eq_zero_of_dvd h2, h3, h4, by omega, q⟩ (this m (by omega) e he k hk)
theorem z_hdiv : ∀ m, m ≤ 20 → ∀ e, e ≤ 20 → e ∣ m → e ≠ m → 2 * e ≤ m ∨ m = 0 := by decide +kernel
section B
variable {n : Nat} {t : Nat → Nat → Nat} {iv : Nat → Nat}
theorem sg_eq (hg : Grp n t iv) {a b : Nat} (ha : SG n t a) (hb : SG n t b) (hs : ∀ i, i < n → a.testBit i = true → b.testBit i = true) (hc : zc n a = zc n b) : a = b := by
  refine z_ext ha.1 hb.1 (fun i hi => ?_)
  cases h1 : a.testBit i with
  | true => rw [hs i hi h1]
  | false =>
    cases h2 : b.testBit i with
    | false => rfl
    | true =>
      have := zc_lt hs hi h2 h1
      omega
theorem gen_sub (hg : Grp n t iv) {a s : Nat} (ha : SG n t a) (hs : ∀ i, i < n → s.testBit i = true → a.testBit i = true) : (∀ i, i < n → (gen n t s).testBit i = true → a.testBit i = true) ∧ zc n (gen n t s) ∣ zc n a := ⟨fun i _ q => gen_min ha hs i q, lagr hg (gen_SG hg s) ha (fun i _ q => gen_min ha hs i q)⟩
theorem gen_mono (hg : Grp n t iv) {r s : Nat} (hs : ∀ i, i < n → r.testBit i = true → s.testBit i = true) : (∀ i, i < n → (gen n t r).testBit i = true → (gen n t s).testBit i = true) ∧ zc n (gen n t r) ∣ zc n (gen n t s) := gen_sub hg (gen_SG hg s) (fun i hi q => gen_has hg hi (hs i hi q))
theorem b_pow (x i : Nat) : (2 ^ x).testBit i = true ↔ i = x := by rw [z_tb_pow, decide_eq_true_eq]
theorem b_orp (m x i : Nat) : (m ||| 2 ^ x).testBit i = true ↔ m.testBit i = true ∨ i = x := by rw [z_tb_or_pow, Bool.or_eq_true, decide_eq_true_eq]
/-- one element more than 0 and x -/
theorem gen_1lt (hg : Grp n t iv) {s x : Nat} (hx : x < n) (h0 : x ≠ 0) (h : s.testBit x = true) : 1 < zc n (gen n t s) := by
  have h1 := gen_has hg hx h
  have h2 := (gen_SG hg s).z
  have h3 := zc_lt (n := n) (a := 2 ^ 0) (b := gen n t s) (x := x) (fun i _ q => by rw [b_pow] at q; rw [q]; exact h2) hx h1 (by rw [z_tb_pow]; exact decide_eq_false h0)
  rw [zc_pow1 hg.pos] at h3
  exact h3
theorem gen_new (hg : Grp n t iv) {s x : Nat} (hx : x < n) (h : (gen n t s).testBit x = false) : zc n (gen n t s) < zc n (gen n t (s ||| 2 ^ x)) := by
  refine zc_lt (fun i hi q => (gen_mono hg (fun j _ q => ?_)).1 i hi q) hx (gen_has hg hx ((b_orp _ _ _).mpr (Or.inr rfl))) h
  rw [b_orp]; exact Or.inl q
/-- how many are in a and not in b -/
theorem zc_out {a b : Nat} (h : ∀ i, i < n → b.testBit i = true → a.testBit i = true) : zcn (fun y => a.testBit y = true ∧ ¬ b.testBit y = true) n + zc n b = zc n a := by
  rw [zc_zcn n a, zc_zcn n b]
  exact zcn_sub h
theorem zc_out2 {a x : Nat} (hx : x < n) (h0 : x ≠ 0) (ha : a.testBit 0 = true) (hax : a.testBit x = true) : zcn (fun y => a.testBit y = true ∧ ¬ (y = 0 ∨ y = x)) n + 2 = zc n a := by
  have h1 := zcn_sub (p := fun y => a.testBit y = true) (q := fun y => y = 0 ∨ y = x) (T := n) (fun z _ q => by
    rcases q with rfl | rfl
    · exact ha
    · exact hax)
  rw [zcn_or (p := fun y => y = 0) (q := fun y => y = x) n (fun z _ q1 q2 => h0 (by omega)), zcn_eq1 n (by omega), zcn_eq1 n hx] at h1
  rw [zc_zcn n a]
  exact h1
theorem zcn_ne0 : ∀ n, 0 < n → zcn (fun x => x ≠ 0) n = n - 1 := by
  intro n hn
  have h1 := zcn_sub (p := fun _ => True) (q := fun y => y = 0) (T := n) (fun _ _ _ => trivial)
  rw [zcn_eq1 n hn, zcn_all (p := fun _ => True) n (fun _ _ => trivial)] at h1
  have h2 : zcn (fun x => x ≠ 0) n = zcn (fun z => True ∧ ¬ z = 0) n := zcn_congr (fun i _ => ⟨fun q => ⟨trivial, q⟩, fun q => q.2⟩)
  omega
/-- elements but 0, and two of them, and three, all apart -/
def U2 (x y : Nat) : Prop := x ≠ 0 ∧ y ≠ 0 ∧ y ≠ x
theorem zcn_two (hn : 0 < n) {x : Nat} (hx : x < n) (h0 : x ≠ 0) : zcn (fun y => ¬ (y = 0 ∨ y = x)) n = n - 2 := by
  have h1 := zcn_sub (p := fun _ => True) (q := fun y => y = 0 ∨ y = x) (T := n) (fun _ _ _ => trivial)
  rw [zcn_or (p := fun y => y = 0) (q := fun y => y = x) n (fun z _ q1 q2 => h0 (by omega)), zcn_eq1 n hn, zcn_eq1 n hx, zcn_all (p := fun _ => True) n (fun _ _ => trivial)] at h1
  rw [← zcn_congr (p := fun z => True ∧ ¬ (z = 0 ∨ z = x)) (q := fun z => ¬ (z = 0 ∨ z = x)) (fun i _ => ⟨fun q => q.2, fun q => ⟨trivial, q⟩⟩)]
  omega
theorem cnt_U2 (hn : 0 < n) : zcn (fun z => U2 (z / n) (z % n)) (n * n) ≤ (n - 2) * (n - 1) := by
  rw [← zcn_ne0 n hn]
  refine zcn_lep (P := U2) (X := fun x => x ≠ 0) n (fun x hx h0 => ?_) (fun x hx h0 => zcn_none n (fun z _ q => h0 q.1))
  rw [← zcn_two hn hx h0]
  exact zcn_mono n (fun z _ q => fun r => r.elim q.2.1 q.2.2)
theorem cnt_prime (hg : Grp n t iv) {m : Nat} (hp : ∀ e, e ∣ m → 1 < e → e = m) : zcn (fun a => SG n t a ∧ zc n a = m) (2 ^ n) * (m - 1) ≤ n - 1 := by
  rw [← zcn_ne0 n hg.pos]
  refine dcount (R := fun a x => a.testBit x = true ∧ x ≠ 0) (2 ^ n) (fun a ha q => ?_) (fun a ha b hb q1 q2 x hx r1 r2 => ?_) (fun a ha q x hx r => r.2)
  · have h1 := zcn_sub (p := fun y => a.testBit y = true) (q := fun y => y = 0) (T := n) (fun z _ e => by rw [e]; exact q.1.z)
    rw [zcn_eq1 n hg.pos, ← zc_zcn, q.2] at h1
    show _ ≤ zcn (fun z => a.testBit z = true ∧ ¬ z = 0) n
    omega
  · have key : ∀ a, SG n t a → zc n a = m → a.testBit x = true → gen n t (2 ^ x) = a := by
      intro a h1 h2 h3
      have g1 := gen_sub hg (s := 2 ^ x) h1 (fun i _ q => by rw [b_pow] at q; rw [q]; exact h3)
      refine sg_eq hg (gen_SG hg _) h1 g1.1 ?_
      rw [h2] at g1 ⊢
      exact hp _ g1.2 (gen_1lt hg hx r1.2 ((b_pow _ _).mpr rfl))
    rw [← key a q1.1 q1.2 r1.1, key b q2.1 q2.2 r2.1]
/-- pairs that make it -/
theorem good2 (hg : Grp n t iv) {a m : Nat} (ha : SG n t a) (hc : zc n a = m) (hm : m = 4 ∨ m = 5 ∨ m = 6 ∨ m = 7 ∨ m = 9 ∨ m = 10) : 6 ≤ zcn (fun z => U2 (z / n) (z % n) ∧ gen n t (2 ^ (z / n) ||| 2 ^ (z % n)) = a) (n * n) := by
  have hn := hg.le
  have e0 : ∀ x, x < n → (a.testBit x = true ∧ x ≠ 0) → 2 ≤ zcn (fun y => U2 x y ∧ gen n t (2 ^ x ||| 2 ^ y) = a) n := by
    rintro x hx ⟨h1, h0⟩
    have g1 := gen_sub hg (s := 2 ^ x) ha (fun i _ q => by rw [b_pow] at q; rw [q]; exact h1)
    have g2 := gen_1lt hg hx h0 ((b_pow x x).mpr rfl)
    by_cases hq : zc n (gen n t (2 ^ x)) = m
    · have hgx : gen n t (2 ^ x) = a := sg_eq hg (gen_SG hg _) ha g1.1 (by omega)
      have h2 := zc_out2 hx h0 ha.z h1
      refine Nat.le_trans ?_ (zcn_mono (p := fun y => a.testBit y = true ∧ ¬ (y = 0 ∨ y = x)) n (fun y hy q => ⟨⟨h0, fun e => q.2 (Or.inl e), fun e => q.2 (Or.inr e)⟩, ?_⟩))
      · omega
      · refine sg_eq hg (gen_SG hg _) ha ?_ ?_
        · exact (gen_sub hg ha (fun i _ r => by
            rw [b_orp, b_pow] at r
            rcases r with rfl | rfl
            · exact h1
            · exact q.1)).1
        · have k1 := (gen_mono hg (r := 2 ^ x) (s := 2 ^ x ||| 2 ^ y) (fun i _ r => (b_orp _ _ _).mpr (Or.inl r)))
          have k2 := (gen_sub hg (s := 2 ^ x ||| 2 ^ y) ha (fun i _ r => by
            rw [b_orp, b_pow] at r
            rcases r with rfl | rfl
            · exact h1
            · exact q.1)).2
          rw [hgx] at k1
          exact Nat.dvd_antisymm k2 k1.2
    · have h2 := zc_out g1.1
      have h3 := z_hdiv m (by omega) (zc n (gen n t (2 ^ x))) (by have := zc_le n (gen n t (2 ^ x)); omega) (by rw [← hc]; exact g1.2) hq
      refine Nat.le_trans ?_ (zcn_mono (p := fun y => a.testBit y = true ∧ ¬ (gen n t (2 ^ x)).testBit y = true) n (fun y hy q => ⟨⟨h0, fun e => q.2 (by rw [e]; exact (gen_SG hg _).z), fun e => q.2 (by rw [e]; exact gen_has hg hx ((b_pow x x).mpr rfl))⟩, ?_⟩))
      · omega
      · have k2 := gen_sub hg (s := 2 ^ x ||| 2 ^ y) ha (fun i _ r => by
            rw [b_orp, b_pow] at r
            rcases r with rfl | rfl
            · exact h1
            · exact q.1)
        have k1 := gen_mono hg (r := 2 ^ x) (s := 2 ^ x ||| 2 ^ y) (fun i _ r => (b_orp _ _ _).mpr (Or.inl r))
        have k3 := gen_new hg hy (by have := q.2; rw [Bool.not_eq_true] at this; exact this)
        rw [hc] at k2
        have k4 := Nat.le_of_dvd (by omega) k2.2
        refine sg_eq hg (gen_SG hg _) ha k2.1 ?_
        rw [hc]
        exact z_pdiv m hm (zc n (gen n t (2 ^ x))) _ (by omega) (by omega) k1.2 k2.2 g2 k3
  have e1 := zcn_ge (P := fun x y => U2 x y ∧ gen n t (2 ^ x ||| 2 ^ y) = a) (n := n) n e0
  have e2 := zcn_sub (p := fun y => a.testBit y = true) (q := fun y => y = 0) (T := n) (fun z _ e => by rw [e]; exact ha.z)
  rw [zcn_eq1 n hg.pos, ← zc_zcn, hc] at e2
  have e3 : zcn (fun x => a.testBit x = true ∧ x ≠ 0) n = m - 1 := by
    show zcn (fun z => a.testBit z = true ∧ ¬ z = 0) n = _
    omega
  rw [e3] at e1
  omega
theorem cnt_two (hg : Grp n t iv) : zcn (fun a => SG n t a ∧ (zc n a = 4 ∨ zc n a = 5 ∨ zc n a = 6 ∨ zc n a = 7 ∨ zc n a = 9 ∨ zc n a = 10)) (2 ^ n) * 6 ≤ (n - 2) * (n - 1) := by
  refine Nat.le_trans ?_ (cnt_U2 hg.pos)
  exact dcount (R := fun a z => U2 (z / n) (z % n) ∧ gen n t (2 ^ (z / n) ||| 2 ^ (z % n)) = a) (2 ^ n) (fun a ha q => good2 hg q.1 rfl q.2) (fun a ha b hb q1 q2 z hz r1 r2 => by rw [← r1.2, r2.2]) (fun a ha q z hz r => r.1)
end B

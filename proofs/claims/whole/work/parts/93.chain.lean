/-! THE CLASS: symmetries counted, orbits joined -/
def PT (n : Nat) (ob : Nat → Nat) : Prop := (∀ u, u < n → ob u < 2 ^ n ∧ (ob u).testBit u = true) ∧ ∀ u v, u < n → v < n → (ob u).testBit v = true → ob v = ob u
theorem PT.sym {n : Nat} {ob : Nat → Nat} (h : PT n ob) {u v : Nat} (hu : u < n) (hv : v < n) (q : (ob u).testBit v = true) : (ob v).testBit u = true := by
  rw [h.2 u v hu hv q]; exact (h.1 u hu).2
theorem PT.tr {n : Nat} {ob : Nat → Nat} (h : PT n ob) {u v w : Nat} (hu : u < n) (hv : v < n) (q : (ob u).testBit v = true) (r : (ob v).testBit w = true) : (ob u).testBit w = true := by
  rw [← h.2 u v hu hv q]; exact r
/-- the finer joined by a map -/
def Jnd (n : Nat) (ob ob' ψ : Nat → Nat) (b : Nat) : Prop := (∀ u v, u < n → v < n → (ob u).testBit v = true → (ob' u).testBit v = true) ∧ (∀ x, x < b → (ob' x).testBit (ψ x) = true) ∧ ∀ R : Nat → Nat → Prop, (∀ u v, u < n → v < n → (ob u).testBit v = true → R u v) → (∀ x, x < b → R x (ψ x)) → (∀ u v, u < n → v < n → R u v → R v u) → (∀ u v w, u < n → v < n → w < n → R u v → R v w → R u w) → ∀ u v, u < n → v < n → (ob' u).testBit v = true → R u v
section C20
variable {d p o n : Nat} {MM : Nat → Nat → Nat → Nat → Prop} {S : zS} {I I0 I1 : zI} {J : zJ}
theorem jnd_step {ob ob' ψ : Nat → Nat} {x : Nat} (hx : x < n) (hψ : ψ x < n) (hP : PT n ob') (hJ : Jnd n ob ob' ψ x) : PT n (fun y => if (ob' x ||| ob' (ψ x)).testBit y = true then ob' x ||| ob' (ψ x) else ob' y) ∧ Jnd n ob (fun y => if (ob' x ||| ob' (ψ x)).testBit y = true then ob' x ||| ob' (ψ x) else ob' y) ψ (x + 1) := by
  obtain ⟨W, hW⟩ : ∃ W, W = ob' x ||| ob' (ψ x) := ⟨_, rfl⟩
  rw [← hW]
  have wl : W < 2 ^ n := by rw [hW]; exact z_or_lt (hP.1 x hx).1 (hP.1 _ hψ).1
  have wb : ∀ y, W.testBit y = true ↔ (ob' x).testBit y = true ∨ (ob' (ψ x)).testBit y = true := fun y => by rw [hW, Nat.testBit_or, Bool.or_eq_true]
  -- the class of a member lies within
  have cls : ∀ u v, u < n → v < n → (ob' u).testBit v = true → (W.testBit u = true ↔ W.testBit v = true) := by
    have one : ∀ u v, u < n → v < n → (ob' u).testBit v = true → W.testBit u = true → W.testBit v = true := fun u v hu hv q r => by
      rw [wb] at r ⊢
      rcases r with r | r
      · exact Or.inl (hP.tr hx hu r q)
      · exact Or.inr (hP.tr hψ hu r q)
    exact fun u v hu hv q => ⟨one u v hu hv q, one v u hv hu (hP.sym hu hv q)⟩
  have gt : ∀ y, W.testBit y = true → (if W.testBit y = true then W else ob' y) = W := fun y q => if_pos q
  have gf : ∀ y, ¬ W.testBit y = true → (if W.testBit y = true then W else ob' y) = ob' y := fun y q => if_neg q
  refine ⟨⟨fun u hu => ?_, fun u v hu hv q => ?_⟩, fun u v hu hv q => ?_, fun y hy => ?_, fun R r1 r2 r3 r4 u v hu hv q => ?_⟩
  · by_cases e : W.testBit u = true
    · simp only [gt u e]; exact ⟨wl, e⟩
    · simp only [gf u e]; exact hP.1 u hu
  · by_cases e : W.testBit u = true
    · simp only [gt u e] at q ⊢
      simp only [gt v q]
    · simp only [gf u e] at q ⊢
      rw [gf v (fun w => e ((cls u v hu hv q).mpr w))]
      exact hP.2 u v hu hv q
  · have q' := hJ.1 u v hu hv q
    by_cases e : W.testBit u = true
    · simp only [gt u e]; exact (cls u v hu hv q').mp e
    · simp only [gf u e]; exact q'
  · by_cases ey : y = x
    · rw [ey]
      have e : W.testBit x = true := (wb x).mpr (Or.inl (hP.1 x hx).2)
      simp only [gt x e]
      exact (wb _).mpr (Or.inr (hP.1 _ hψ).2)
    · have q := hJ.2.1 y (by omega)
      by_cases e : W.testBit y = true
      · simp only [gt y e]
        rcases Nat.lt_or_ge (ψ y) n with h1 | h1
        · exact (cls y (ψ y) (by omega) h1 q).mp e
        · have := z_tb_big (hP.1 y (by omega)).1 h1
          rw [this] at q; cases q
      · simp only [gf y e]; exact q
  · have old := hJ.2.2 R r1 (fun y hy => r2 y (by omega)) r3 r4
    by_cases e : W.testBit u = true
    · simp only [gt u e] at q
      have hx2 := r2 x (by omega)
      -- both lead to x
      have tox : ∀ w, w < n → W.testBit w = true → R x w := fun w hw r => by
        rcases (wb w).mp r with r | r
        · exact old x w hx hw r
        · exact r4 x (ψ x) w hx hψ hw hx2 (old (ψ x) w hψ hw r)
      exact r4 u x v hu hx hv (r3 x u hx hu (tox u hu e)) (tox v hv q)
    · simp only [gf u e] at q
      exact old u v hu hv q
theorem c_joinOrbits {ob ψ : Nat → Nat} (hd : 0 < d) (hM : ML S p) (hn : n ≤ 20) (h2 : I0 p 2 = nI n) (ho1 : z_kd S o = 100) (ho2 : z_ln S o = 20) (hop : o < p ∨ p + 3 < o) (hψ : ∀ x, x < n → I0 (p + 3) x = nI (ψ x) ∧ ψ x < n) (hob : ∀ x, x < n → I0 o x = nI (ob x)) (hP : PT n ob) : ∃ I' ob', z_ev d i_X7_joinOrbits [.ref p, .ref o] S I0 J none S I' J ∧ (∀ a, a ≠ o → I' a = I0 a) ∧ (∀ x, x < n → I' o x = nI (ob' x)) ∧ PT n ob' ∧ Jnd n ob ob' ψ n := by
  obtain ⟨d, rfl⟩ := z_dep hd
  obtain ⟨hk, a4, a5, a6⟩ := hM
  suffices hw : z_wp (d + 1) i_X7_joinOrbits [.ref p, .ref o] S I0 J (fun v S' I' J' => v = none ∧ S' = S ∧ J' = J ∧ ∃ ob', (∀ a, a ≠ o → I' a = I0 a) ∧ (∀ x, x < n → I' o x = nI (ob' x)) ∧ PT n ob' ∧ Jnd n ob ob' ψ n) by
    obtain ⟨v, S', I', J', x1, rfl, rfl, rfl, ob', x2⟩ := hw
    exact ⟨I', ob', x1, x2⟩
  refine w_X7_joinOrbits (b_X7_joinOrbits_0 ?_)
  suffices H : ∀ x, x ≤ n → ∀ I ob' x2 v3 v4, (∀ a, a ≠ o → I a = I0 a) → (∀ x, x < n → I o x = nI (ob' x)) → PT n ob' → Jnd n ob ob' ψ x → x2 = nI x → Go d i_X7_joinOrbits 2 [.ref p, .ref o, .int x2, v3, v4] [] S I J (fun v S' I' J' => v = none ∧ S' = S ∧ J' = J ∧ ∃ ob', (∀ a, a ≠ o → I' a = I0 a) ∧ (∀ x, x < n → I' o x = nI (ob' x)) ∧ PT n ob' ∧ Jnd n ob ob' ψ n) from H 0 (by omega) I0 ob _ _ _ (fun _ _ => rfl) hob hP ⟨fun u v _ _ q => q, fun x hx => by omega, fun R r1 _ _ _ u v hu hv q => r1 u v hu hv q⟩ rfl
  have rd : ∀ x, x < n → z_isI (z_kd S o) = true ∧ vp_in (nI x) (z_ln S o) := fun x hx => ⟨by rw [ho1]; rfl, by rw [ho2]; exact vp_in_nI (by omega) (by decide)⟩
  refine z_up_to n ?_ ?_
  · rintro I ob' x2 v3 v4 f1 f2 f3 f4 rfl
    exact b_X7_joinOrbits_2 hk (fun _ => b_X7_joinOrbits_61 ⟨rfl, rfl, rfl, ob', f1, f2, f3, f4⟩) (fun q => absurd (by rw [f1 p (by omega), h2]; exact nI_le (Nat.le_refl _) (by omega)) q)
  · rintro x hx ih I ob' x2 v3 v4 f1 f2 f3 f4 rfl
    obtain ⟨p1, p2⟩ := hψ x hx
    have e6 : I (z_rv S p 6) (nI x).toNatClampNeg = nI (ψ x) := by rw [a6.1, nI_clamp (by omega), f1 _ (by omega)]; exact p1
    refine b_X7_joinOrbits_2 hk (fun q => absurd q (by rw [f1 p (by omega), h2]; exact nI_ge hx (by omega))) (fun _ => ?_)
    refine b_X7_joinOrbits_10 (rd x hx) hk (a6.rd (by omega) (by decide)) (by rw [e6]; exact rd _ p2) ?_
    rw [e6, nI_clamp (by omega), nI_clamp (by omega), f2 x hx, f2 _ p2, z_or]
    obtain ⟨W, hW⟩ : ∃ W, W = ob' x ||| ob' (ψ x) := ⟨_, rfl⟩
    have wl : W < 2 ^ n := by rw [hW]; exact z_or_lt (f3.1 x hx).1 (f3.1 _ p2).1
    have hst := jnd_step hx p2 f3 f4
    rw [← hW] at hst ⊢
    suffices H2 : ∀ y, y ≤ n → ∀ I' x4, (∀ a, a ≠ o → I' a = I a) → (∀ z, z < n → I' o z = nI (if z < y ∧ W.testBit z = true then W else ob' z)) → x4 = nI y → Go d i_X7_joinOrbits 26 [.ref p, .ref o, .int (nI x), .int (nI W), .int x4] [] S I' J (fun v S' I' J' => v = none ∧ S' = S ∧ J' = J ∧ ∃ ob', (∀ a, a ≠ o → I' a = I0 a) ∧ (∀ x, x < n → I' o x = nI (ob' x)) ∧ PT n ob' ∧ Jnd n ob ob' ψ n) from H2 0 (by omega) I _ (fun _ _ => rfl) (fun z hz => by rw [if_neg (by omega)]; exact f2 z hz) rfl
    refine z_up_to n ?_ ?_
    · rintro I' x4 g1 g2 rfl
      refine b_X7_joinOrbits_26 hk (fun _ => b_X7_joinOrbits_55 (ih I' (fun y => if W.testBit y = true then W else ob' y) _ _ _ (fun a ha => by rw [g1 a ha]; exact f1 a ha) (fun z hz => ?_) hst.1 hst.2 (nI_1 x))) (fun q => absurd (by rw [g1 p (by omega), f1 p (by omega), h2]; exact nI_le (Nat.le_refl _) (by omega)) q)
      rw [g2 z hz]
      by_cases e : W.testBit z = true
      · rw [if_pos ⟨hz, e⟩, if_pos e]
      · rw [if_neg (fun q => e q.2), if_neg e]
    · rintro y hy ih2 I' x4 g1 g2 rfl
      refine b_X7_joinOrbits_26 hk (fun q => absurd q (by rw [g1 p (by omega), f1 p (by omega), h2]; exact nI_ge hy (by omega))) (fun _ => ?_)
      refine b_X7_joinOrbits_35 (fun q => b_X7_joinOrbits_49 (ih2 I' _ g1 (fun z hz => ?_) (nI_1 y))) (fun q => b_X7_joinOrbits_44 ⟨ho1, (rd y hy).2⟩ (ih2 _ _ (fun a ha => by rw [z_u2_row ha]; exact g1 a ha) (fun z hz => ?_) (nI_1 y)))
      · rw [z_bit0 (z_lt31 hn wl) (by omega)] at q
        rw [g2 z hz]
        by_cases e : z = y
        · rw [e, if_neg (by omega), if_neg (fun w => by rw [q] at w; cases w.2)]
        · by_cases e2 : z < y ∧ W.testBit z = true
          · rw [if_pos e2, if_pos ⟨by omega, e2.2⟩]
          · rw [if_neg e2, if_neg (fun w => e2 ⟨by omega, w.2⟩)]
      · rw [z_bit0 (z_lt31 hn wl) (by omega), Bool.not_eq_false] at q
        rw [nI_clamp (by omega)]
        by_cases e : z = y
        · rw [e, z_u2_same, if_pos ⟨by omega, q⟩]
        · rw [z_u2_nk e, g2 z hz]
          by_cases e2 : z < y ∧ W.testBit z = true
          · rw [if_pos e2, if_pos ⟨by omega, e2.2⟩]
          · rw [if_neg e2, if_neg (fun w => e2 ⟨by omega, w.2⟩)]
theorem NX.fr2 (h : NX S I0 p n MM) (e1 : I p = I0 p) (e2 : I (p + 1) = I0 (p + 1)) (e3 : z_rv S (z_rv S p 0) 6 < p + 2 ∨ p + 3 < z_rv S (z_rv S p 0) 6 → I (z_rv S (z_rv S p 0) 6) = I0 (z_rv S (z_rv S p 0) 6)) (e4 : z_rv S (z_rv S p 1) 7 < p + 2 ∨ p + 3 < z_rv S (z_rv S p 1) 7 → I (z_rv S (z_rv S p 1) 7) = I0 (z_rv S (z_rv S p 1) 7)) : NX S I p n MM := by
  obtain ⟨h1, h2, h3, h4, h5, h6, h7, h8, h9, h10, pa, pb, h11, h12⟩ := h
  refine ⟨h1, h2, h3, by rw [e1]; exact h4, by rw [e1]; exact h5, h6, h7, h8, h9, h10, pa, pb, fun x z hx hz => ?_, fun x z y hx hz hy => by rw [e4 (by omega)]; exact h12 x z y hx hz hy⟩
  rw [e3 (by omega), e2]
  exact h11 x z hx hz
/-- maps that have the done points stay -/
def GD (n : Nat) (MM : Nat → Nat → Nat → Nat → Prop) (dn : Nat) (ψ : Nat → Nat) : Prop := CPm n MM ψ ∧ Ex n (fun a => dn.testBit a = true) (fun x => x) ψ
theorem gd_pg (hA : PG n (CPm n MM)) (dn : Nat) : PG n (GD n MM dn) := by
  obtain ⟨h1, h2, h3⟩ := hA
  refine ⟨fun φ h => h1 φ h.1, fun φ ψ h h' => ⟨h2 φ ψ h.1 h'.1, fun x hx hD => ?_⟩, fun φ h => ⟨h3 φ h.1, fun x hx hD => ?_⟩⟩
  · rw [cmp_in hx, h.2 x hx hD]; exact h'.2 x hx hD
  · obtain ⟨_, g2, g3⟩ := h1 φ h.1
    have := bck_of g2 g3 hx
    rw [h.2 x hx hD] at this
    exact this
theorem gd_or {dn x : Nat} (hx : x < n) (ψ : Nat → Nat) : GD n MM (dn ||| 2 ^ x) ψ ↔ GD n MM dn ψ ∧ ψ x = x := by
  constructor
  · rintro ⟨h1, h2⟩
    exact ⟨⟨h1, fun a ha hD => h2 a ha ((b_orp _ _ _).mpr (Or.inl hD))⟩, h2 x hx ((b_orp _ _ _).mpr (Or.inr rfl))⟩
  · rintro ⟨⟨h1, h2⟩, h3⟩
    refine ⟨h1, fun a ha hD => ?_⟩
    rcases (b_orp _ _ _).mp hD with q | q
    · exact h2 a ha q
    · rw [q]; exact h3
def chQ (S : zS) (I0 : zI) (J : zJ) (p o n : Nat) (MM : Nat → Nat → Nat → Nat → Prop) (b dn : Nat) : zQ := fun v S' I' J' => ∃ K, v = some (.long (lN K)) ∧ S' = S ∧ J' = J ∧ Crd (GD n MM dn) K ∧ (∀ a, a < p + 2 ∨ p + 3 < a → a ≠ o → I' a = I0 a) ∧ (∀ j, j < b + 20 → I' (p + 2) j = I0 (p + 2) j) ∧ (∀ x, x < n → dn.testBit x = true → I' (p + 3) x = I0 (p + 3) x) ∧ ∃ ob, (∀ x, x < n → I' o x = nI (ob x)) ∧ PT n ob ∧ ∀ u v, u < n → v < n → ((ob u).testBit v = true ↔ ∃ ψ, GD n MM dn ψ ∧ ψ u = v)
theorem c_chain (hdg : ∀ x y y', x < n → y < n → y' < n → MM x x y y' → y = y') (hA : PG n (CPm n MM)) (hid : CPm n MM (rowm n (fun x => x))) (ho1 : z_kd S o = 100) (ho2 : z_ln S o = 20) (hop : o < p ∨ p + 3 < o) : ∀ c d dp dn I, n ≤ dp + c → 2 * c + 25 < d → dp ≤ zc n dn → dn < 2 ^ n → NX S I p n MM → (o ≠ z_rv S (z_rv S p 0) 6 ∧ o ≠ z_rv S (z_rv S p 1) 7) → (∀ z, z < n → I (p + 2) (20 * dp + z) = nI (alw n MM (fun a => dn.testBit a = true) (fun x => x) z)) → (∀ x, x < n → dn.testBit x = true → I (p + 3) x = nI x) → (∀ x, x < n → I o x = nI (2 ^ x)) → I p 7 = 0 → z_wp d i_X7_chain [.ref p, .int (nI dp), .int (nI dn), .ref o] S I J (chQ S I J p o n MM (20 * dp) dn) := by
  -- nothing more to choose
  have last : ∀ d dp dn I, 0 < d → dn < 2 ^ n → NX S I p n MM → (∀ x, x < n → dn.testBit x = true) → (∀ x, x < n → I o x = nI (2 ^ x)) → z_wp d i_X7_chain [.ref p, .int (nI dp), .int (nI dn), .ref o] S I J (chQ S I J p o n MM (20 * dp) dn) := by
    intro d dp dn I hd hdn hX hall hob
    obtain ⟨d, rfl⟩ := z_dep hd
    obtain ⟨⟨hk, _⟩, hn, h3, h4, h5, _⟩ := hX
    have edn : dn = 2 ^ n - 1 := z_ext hdn (by have := Nat.two_pow_pos n; omega) (fun i hi => by rw [hall i hi, Nat.testBit_two_pow_sub_one]; exact (decide_eq_true hi).symm)
    have uq : ∀ ψ, GD n MM dn ψ → ψ = rowm n (fun x => x) := fun ψ h => by
      funext x
      by_cases hx : x < n
      · rw [rowm_in hx]; exact h.2 x hx (hall x hx)
      · rw [h.1.1 x (by omega)]; exact (if_neg hx).symm
    have gid : GD n MM dn (rowm n (fun x => x)) := ⟨hid, fun x hx _ => rowm_in hx⟩
    refine w_X7_chain (b_X7_chain_0 hk (fun _ => b_X7_chain_14 ⟨1, rfl, rfl, rfl, Crd.one gid uq, fun _ _ _ => rfl, fun _ _ => rfl, fun _ _ _ => rfl, fun x => 2 ^ x, hob, ⟨fun u hu => ⟨z_pw hu, (b_pow _ _).mpr rfl⟩, fun u v _ _ q => by rw [(b_pow _ _).mp q]⟩, fun u v hu hv => ?_⟩) (fun q => absurd (by rw [h5, edn]) q))
    rw [b_pow]
    exact ⟨fun e => ⟨_, gid, by rw [rowm_in hu, e]⟩, fun ⟨ψ, w1, w2⟩ => by rw [← w2, uq ψ w1, rowm_in hu]⟩
  intro c
  induction c with
  | zero =>
    intro d dp dn I h1 hd hz hdn hX hoc hal him hob h7
    refine last d dp dn I (by omega) hdn hX (fun x hx => ?_) hob
    cases hb : dn.testBit x with
    | true => rfl
    | false =>
      exfalso
      have e := zc_lt (n := n) (a := dn) (b := 2 ^ n - 1) (x := x) (fun i hi _ => by rw [Nat.testBit_two_pow_sub_one]; exact decide_eq_true hi) hx (by rw [Nat.testBit_two_pow_sub_one]; exact decide_eq_true hx) hb
      have := zc_le n (2 ^ n - 1)
      omega
  | succ c ihc =>
    intro d dp dn I h1 hd hz hdn hX hoc hal him hob h7
    by_cases hfull : ∀ x, x < n → dn.testBit x = true
    · exact last d dp dn I (by omega) hdn hX hfull hob
    obtain ⟨d, rfl⟩ := z_dep (d := d) (by omega)
    have hX' := hX
    obtain ⟨hM, hn, h3, h4, h5, _⟩ := hX'
    obtain ⟨hk, a4, a5, a6⟩ := hM
    have hM : ML S p := ⟨hk, a4, a5, a6⟩
    have hex : ∃ x, x < n ∧ dn.testBit x = false := by
      rcases Classical.em (∃ x, x < n ∧ dn.testBit x = false) with q | q
      · exact q
      · refine absurd (fun x hx => ?_) hfull
        cases hb : dn.testBit x with
        | true => rfl
        | false => exact absurd ⟨x, hx, hb⟩ q
    have hlt : zc n dn < n := by
      obtain ⟨x, x1, x2⟩ := hex
      have e := zc_lt (n := n) (a := dn) (b := 2 ^ n - 1) (x := x) (fun i hi _ => by rw [Nat.testBit_two_pow_sub_one]; exact decide_eq_true hi) x1 (by rw [Nat.testBit_two_pow_sub_one]; exact decide_eq_true x1) x2
      have := zc_le n (2 ^ n - 1)
      omega
    have hp2 := Nat.two_pow_pos n
    have hall31 : 2 ^ n - 1 < 2 ^ 31 := z_lt31 hn (by omega)
    obtain ⟨AL, hAL⟩ : ∃ AL : Nat → Nat, AL = alw n MM (fun a => dn.testBit a = true) (fun x => x) := ⟨_, rfl⟩
    have all' : ∀ z, AL z < 2 ^ n := fun z => by rw [hAL]; exact zset_lt _ _
    rw [← hAL] at hal
    have hPX : PX n MM (fun a => dn.testBit a = true) (fun x => x) := ⟨fun x hx _ => hx, fun x z hx hz _ _ => by
      have := hid.2.2 x z hx hz
      rw [rowm_in hx, rowm_in hz] at this
      exact this⟩
    obtain ⟨x, x1, x2, x3, _⟩ := c_pick (d := d) (J := J) (by omega) hX (by omega) hdn (fun z hz => ⟨hal z hz, all' z⟩) hex
    have hxD : ¬ dn.testBit x = true := by rw [x3]; decide
    have e20 : nI dp * 20 + nI x = nI (20 * dp + x) := by rw [z_lit 20, pk_mul, nI_add, Nat.mul_comm]
    have gidD : GD n MM dn (rowm n (fun x => x)) := ⟨hid, fun x hx _ => rowm_in hx⟩
    refine w_X7_chain (b_X7_chain_0 hk (fun q => ?_) (fun _ => b_X7_chain_8 (fun _ => ?_) (fun q => absurd (nI_lt (a := dp) (b := 20) (by omega) (by decide)) q)))
    · rw [h5, nI_eq (z_lt31 hn hdn) hall31] at q
      refine absurd (fun x hx => ?_) hfull
      rw [q, Nat.testBit_two_pow_sub_one]
      exact decide_eq_true hx
    refine b_X7_chain_16 hk ⟨_, _, _, _, x1, ?_⟩
    refine b_X7_chain_22 hk (by rw [e20]; exact a5.rd (by omega) (by decide)) hk ?_
    rw [e20, a5.1, nI_clamp (by omega), hal x x2]
    have hle := c_lead (d := d) (J := J) (dp := dp) (x := x) (y := x) (al := AL) (by omega) hX (by omega) x2 x2 (fun z hz => ⟨hal z hz, all' z⟩)
    refine hle.mono ?_
    rintro v S1 I2 J1 ⟨r, rfl, rfl, rfl, g1, g2, g3, g4, g5, g6⟩
    -- each point is left to itself
    have self : ∀ z, z < n → (AL z &&& zset n (fun z' => MM x z x z')).testBit z = true := fun z hz => by
      have i1 := hid.2.2 x z x2 hz
      rw [rowm_in x2, rowm_in hz] at i1
      have i2 := gidD.1.alw gidD.2 hz
      rw [rowm_in hz, ← hAL] at i2
      rw [Nat.testBit_and, i2, (zset_bit _ _ _).mpr ⟨hz, i1⟩]; rfl
    cases r with
    | false =>
      obtain ⟨z, z1, z2⟩ := g6 rfl
      have := self z z1
      rw [z2, Nat.zero_testBit] at this; cases this
    | true =>
      refine b_X7_chain_50 (fun q => absurd q (by decide)) (fun _ => b_X7_chain_53 hk ?_)
      have g5' := g5 rfl
      have eD : (fun a => (dn ||| 2 ^ x).testBit a = true) = (fun a => dn.testBit a = true ∨ a = x) := by
        funext a
        exact propext (b_orp _ _ _)
      have hdn' : dn ||| 2 ^ x < 2 ^ n := z_or_lt hdn (z_pw x2)
      have hzc : dp + 1 ≤ zc n (dn ||| 2 ^ x) := by
        have := zc_lt (n := n) (a := dn) (b := dn ||| 2 ^ x) (x := x) (fun i _ hi => (b_orp _ _ _).mpr (Or.inl hi)) x2 ((b_orp _ _ _).mpr (Or.inr rfl)) x3
        omega
      have zid : zput (fun x => x) x x = (fun x => x) := by
        funext a
        by_cases e : a = x
        · rw [e, zput_s]
        · rw [zput_n e]
      have fo : ∀ a, a < p + 2 ∨ p + 3 < a → I2 a = I a := g1
      have hrec := ihc d (dp + 1) (dn ||| 2 ^ x) I2 (by omega) (by omega) hzc hdn' (hX.fr fo) hoc (fun z hz => by
        have := alw_put (MM := MM) (D := fun a => dn.testBit a = true) (f := fun x => x) (y := x) x2 hxD z
        rw [zid] at this
        rw [eD, this, ← hAL, Nat.mul_add, Nat.mul_one]
        exact (g5' z hz).1) (fun x' hx' hD => by
        by_cases e : x' = x
        · rw [e]; exact g4
        · rw [g3 x' e]; exact him x' hx' (((b_orp _ _ _).mp hD).resolve_right e)) (fun x' hx' => by rw [fo o (by omega)]; exact hob x' hx') (by rw [fo p (by omega)]; exact h7)
      rw [nI_1, z_shl1 (by omega), z_or]
      refine hrec.mono ?_
      rintro v S2 I3 J2 ⟨K1, rfl, rfl, rfl, k1, k2, k3, k4, ob1, k5, k6, k7⟩
      refine b_X7_chain_67 ?_
      have f3 : ∀ a, a < p + 2 ∨ p + 3 < a → a ≠ o → I3 a = I a := fun a h1 h2 => by rw [k2 a h1 h2]; exact fo a h1
      have r3 : ∀ j, j < 20 * dp + 20 → I3 (p + 2) j = I (p + 2) j := fun j hj => by rw [k3 j (by omega)]; exact g2 j hj
      have i3 : ∀ x', x' < n → dn.testBit x' = true → I3 (p + 3) x' = I (p + 3) x' := fun x' h1 h2 => by
        rw [k4 x' h1 ((b_orp _ _ _).mpr (Or.inl h2)), g3 x' (fun e => by rw [e, x3] at h2; cases h2)]
      have hPGD := gd_pg hA dn
      have ALx : AL x < 2 ^ 31 := z_lt31 hn (all' x)
      rw [z_shl1 (by omega)]
      -- what holds while points are tried
      suffices H : ∀ y, y ≤ n → ∀ I' ob tr x8 x9 v7, (∀ a, a < p + 2 ∨ p + 3 < a → a ≠ o → I' a = I a) → (∀ j, j < 20 * dp + 20 → I' (p + 2) j = I (p + 2) j) → (∀ x', x' < n → dn.testBit x' = true → I' (p + 3) x' = I (p + 3) x') → (∀ x, x < n → I' o x = nI (ob x)) → PT n ob → (∀ u v, u < n → v < n → (ob u).testBit v = true → ∃ h, GD n MM dn h ∧ (∀ z, z < n → (ob z).testBit (h z) = true) ∧ h u = v) → (∀ u v, u < n → v < n → (∃ ψ, GD n MM (dn ||| 2 ^ x) ψ ∧ ψ u = v) → (ob u).testBit v = true) → tr < 2 ^ n → (∀ u, u < n → tr.testBit u = true → (ob x).testBit u = true ∨ ∀ ψ, GD n MM dn ψ → ψ x ≠ u) → (∀ y', y' < y → (∃ ψ, GD n MM dn ψ ∧ ψ x = y') → (ob x).testBit y' = true) → tr.testBit x = true → x8 = nI tr → x9 = nI y → Go d i_X7_chain 78 [.ref p, .int (nI dp), .int (nI dn), .ref o, .int (nI x), .int (nI (AL x)), .long (lN K1), v7, .int x8, .int x9] [] S2 I' J2 (chQ S2 I J2 p o n MM (20 * dp) dn) by
        refine H 0 (by omega) I3 ob1 (2 ^ x) _ _ _ f3 r3 i3 k5 k6 (fun u v hu hv q => ?_) (fun u v hu hv q => (k7 u v hu hv).mpr q) (z_pw x2) (fun u hu q => Or.inl (by rw [(b_pow _ _).mp q]; exact (k6.1 x x2).2)) (fun y' hy' => by omega) ((b_pow _ _).mpr rfl) rfl rfl
        obtain ⟨ψ, w1, w2⟩ := (k7 u v hu hv).mp q
        exact ⟨ψ, ((gd_or x2 ψ).mp w1).1, fun z hz => (k7 z (ψ z) hz (w1.1.2.1 z hz)).mpr ⟨ψ, w1, rfl⟩, w2⟩
      have rdo : ∀ y, y < n → z_isI (z_kd S2 o) = true ∧ vp_in (nI y) (z_ln S2 o) := fun y hy => ⟨by rw [ho1]; rfl, by rw [ho2]; exact vp_in_nI (by omega) (by decide)⟩
      refine z_up_to n ?_ ?_
      · rintro I' ob tr x8 x9 v7 q1 q2 q3 q4 q5 q6 q7 q8 q9 q10 q11 rfl rfl
        refine b_X7_chain_78 hk (fun _ => ?_) (fun q => absurd (by rw [q1 p (by omega) (by omega), h4]; exact nI_le (Nat.le_refl _) (by omega)) q)
        have ro : ∀ u v, u < n → v < n → ((ob u).testBit v = true ↔ ∃ ψ, GD n MM dn ψ ∧ ψ u = v) := by
          intro u v hu hv
          constructor
          · intro w
            obtain ⟨h, w1, _, w3⟩ := q6 u v hu hv w
            exact ⟨h, w1, w3⟩
          · rintro ⟨g, w1, rfl⟩
            have gx := w1.1.2.1 x x2
            obtain ⟨h, e1, e2, e3⟩ := q6 x (g x) x2 gx (q10 (g x) gx ⟨g, w1, rfl⟩)
            obtain ⟨_, hb2, hb3⟩ := hPGD.1 h e1
            have kk : GD n MM dn (cmp n g (bck n h)) := hPGD.2.1 g _ w1 (hPGD.2.2 h e1)
            have kx : cmp n g (bck n h) x = x := by rw [cmp_in x2, ← e3, bck_of hb2 hb3 x2]
            have gu := w1.1.2.1 u hu
            have ku : cmp n g (bck n h) u = bck n h (g u) := cmp_in hu
            have bs := bck_spec hb2 hb3 gu
            have s1 := q7 u (bck n h (g u)) hu bs.1 ⟨_, (gd_or x2 _).mpr ⟨kk, kx⟩, ku⟩
            have s2 := e2 (bck n h (g u)) bs.1
            rw [bs.2] at s2
            exact q5.tr hu bs.1 s1 s2
        refine b_X7_chain_155 (rdo x x2) ⟨_, _, _, _, by rw [nI_clamp (by omega), q4 x x2]; exact ev_bitCount (by omega) (z_lt24 hn (q5.1 x x2).1), ?_⟩
        rw [zc24 hn (q5.1 x x2).1]
        have zl := zc_le n (ob x)
        have hcr := hPGD.orb x2 (k1.cg (fun ψ => gd_or x2 ψ))
        have ez : zcn (fun y => ∃ φ, GD n MM dn φ ∧ φ x = y) n = zc n (ob x) := by
          rw [zc_zcn]
          exact zcn_congr (fun y hy => (ro x y x2 hy).symm)
        rw [ez] at hcr
        refine b_X7_chain_164 ⟨zc n (ob x) * K1, ?_, rfl, rfl, hcr, q1, q2, q3, ob, q4, q5, ro⟩
        rw [nI_l (by omega), lN_mm, Nat.mul_comm]
      · rintro y hy ih I' ob tr x8 x9 v7 q1 q2 q3 q4 q5 q6 q7 q8 q9 q10 q11 rfl rfl
        refine b_X7_chain_78 hk (fun q => absurd q (by rw [q1 p (by omega) (by omega), h4]; exact nI_ge hy (by omega))) (fun _ => ?_)
        have none_ : (∀ ψ, GD n MM dn ψ → ψ x = y → (ob x).testBit y = true) → ∀ y', y' < y + 1 → (∃ ψ, GD n MM dn ψ ∧ ψ x = y') → (ob x).testBit y' = true := fun hh y' hy' ⟨ψ, w1, w2⟩ => by
          by_cases e : y' = y
          · rw [e]; exact hh ψ w1 (by rw [w2, e])
          · exact q10 y' (by omega) ⟨ψ, w1, w2⟩
        refine b_X7_chain_87 (fun q => b_X7_chain_149 (ih I' ob tr _ _ _ q1 q2 q3 q4 q5 q6 q7 q8 q9 (none_ (fun ψ w1 w2 => ?_)) q11 rfl (nI_1 y))) (fun q => ?_)
        · rw [z_bit0 ALx (by omega)] at q
          have := w1.1.alw w1.2 x2
          rw [w2, ← hAL, q] at this; cases this
        rw [z_bit0 ALx (by omega), Bool.not_eq_false] at q
        have hand : ob y &&& tr < 2 ^ n := Nat.and_lt_two_pow _ q8
        refine b_X7_chain_97 (rdo y hy) (fun w => b_X7_chain_149 (ih I' ob tr _ _ _ q1 q2 q3 q4 q5 q6 q7 q8 q9 (none_ (fun ψ w1 w2 => ?_)) q11 rfl (nI_1 y))) (fun w => ?_)
        · rw [nI_clamp (by omega), q4 y hy, z_and, z_eq0 (z_lt31 hn hand)] at w
          obtain ⟨u, u1, u2⟩ := z_ne_bit hand w
          rw [Nat.testBit_and, Bool.and_eq_true] at u2
          rcases q9 u u1 u2.2 with r | r
          · exact q5.tr x2 u1 r (q5.sym hy u1 u2.1)
          · obtain ⟨h, e1, _, e3⟩ := q6 y u hy u1 u2.1
            exact absurd (by rw [cmp_in x2, w2, e3]) (r _ (hPGD.2.1 ψ h w1 e1))
        have hXI : NX S2 I' p n MM := hX.fr2 (q1 p (by omega) (by omega)) (q1 _ (by omega) (by omega)) (fun hh => q1 _ hh (fun e => hoc.1 e.symm)) (fun hh => q1 _ hh (fun e => hoc.2 e.symm))
        rw [nI_clamp (by omega), q4 y hy, z_and, z_eq0 (z_lt31 hn hand)] at w
        have hle2 := c_lead (d := d) (J := J2) (dp := dp) (x := x) (y := y) (al := AL) (by omega) hXI (by omega) x2 hy (fun z hz => ⟨by rw [q2 _ (by omega)]; exact hal z hz, all' z⟩)
        refine b_X7_chain_107 hk (hle2.mono ?_)
        rintro v S3 I4 J3 ⟨r, rfl, rfl, rfl, l1, l2, l3, l4, l5, l6⟩
        rw [z_shl1 (by omega), z_or]
        have tr' : tr ||| 2 ^ y < 2 ^ n := z_or_lt q8 (z_pw hy)
        -- none leads x to y
        have bad : ∀ I5 : zI, (∀ a, a < p + 2 ∨ p + 3 < a → I5 a = I' a) → (∀ j, j < 20 * dp + 20 → I5 (p + 2) j = I' (p + 2) j) → (∀ x', x' < n → dn.testBit x' = true → I5 (p + 3) x' = I' (p + 3) x') → (∀ ψ, GD n MM dn ψ → ψ x ≠ y) → ∀ v7, Go d i_X7_chain 149 [.ref p, .int (nI dp), .int (nI dn), .ref o, .int (nI x), .int (nI (AL x)), .long (lN K1), v7, .int (nI (tr ||| 2 ^ y)), .int (nI y)] [] S3 I5 J3 (chQ S3 I J3 p o n MM (20 * dp) dn) := by
          intro I5 m1 m2 m3 hno v7
          refine b_X7_chain_149 (ih I5 ob (tr ||| 2 ^ y) _ _ _ (fun a h1 h2 => by rw [m1 a h1]; exact q1 a h1 h2) (fun j hj => by rw [m2 j hj]; exact q2 j hj) (fun x' h1 h2 => by rw [m3 x' h1 h2]; exact q3 x' h1 h2) (fun x' hx' => by rw [m1 o (by omega)]; exact q4 x' hx') q5 q6 q7 tr' (fun u hu hb => ?_) (none_ (fun ψ w1 w2 => absurd w2 (hno ψ w1))) ((b_orp _ _ _).mpr (Or.inl q11)) rfl (nI_1 y))
          rcases (b_orp _ _ _).mp hb with e | e
          · exact q9 u hu e
          · rw [e]; exact Or.inr hno
        have m3l : ∀ x', x' < n → dn.testBit x' = true → I4 (p + 3) x' = I' (p + 3) x' := fun x' _ h2 => l3 x' (fun e => by rw [e, x3] at h2; cases h2)
        cases r with
        | false =>
          refine b_X7_chain_125 (fun _ => bad I4 l1 l2 m3l (fun ψ w1 w2 => ?_) _) (fun q => absurd rfl q)
          obtain ⟨z, z1, z2⟩ := l6 rfl
          have e1 := w1.1.alw w1.2 z1
          rw [← hAL] at e1
          have e2 : (AL z &&& zset n (fun z' => MM x z y z')).testBit (ψ z) = true := by
            rw [Nat.testBit_and, e1, (zset_bit _ _ _).mpr ⟨w1.1.2.1 z z1, by rw [← w2]; exact w1.1.2.2 x z x2 z1⟩]; rfl
          rw [z2, Nat.zero_testBit] at e2; cases e2
        | true =>
          refine b_X7_chain_125 (fun q => absurd q (by decide)) (fun _ => b_X7_chain_128 hk ?_)
          have l5' := l5 rfl
          have hP' := hPX.add hdg x2 hxD hy (by rw [← hAL]; exact q) (fun z hz => by rw [← hAL]; exact (l5' z hz).2)
          have hrec2 := c_ncomplete (S := S3) (J := J3) hdg n d (dp + 1) (dn ||| 2 ^ x) (zput (fun x => x) x y) I4 (by omega) (by omega) hzc hdn' (hXI.fr l1) (by rw [eD]; exact hP') (fun z hz => by
            rw [eD, alw_put x2 hxD, ← hAL, Nat.mul_add, Nat.mul_one]
            exact (l5' z hz).1) (fun x' hx' hD => by
            by_cases e : x' = x
            · rw [e, zput_s]; exact l4
            · have hD' := ((b_orp _ _ _).mp hD).resolve_right e
              rw [zput_n e, l3 x' e, q3 x' hx' hD']; exact him x' hx' hD')
          rw [nI_1, z_shl1 (by omega), z_or]
          refine hrec2.mono ?_
          rintro v S4 I5 J4 ⟨r, rfl, rfl, rfl, u1, u2, u3, u4, u5⟩
          have exD : ∀ ψ, CPm n MM ψ → (Ex n (fun a => (dn ||| 2 ^ x).testBit a = true) (zput (fun x => x) x y) ψ ↔ GD n MM dn ψ ∧ ψ x = y) := fun ψ hc => by
            constructor
            · intro e
              refine ⟨⟨hc, fun a ha hD => ?_⟩, by rw [e x x2 ((b_orp _ _ _).mpr (Or.inr rfl)), zput_s]⟩
              rw [e a ha ((b_orp _ _ _).mpr (Or.inl hD)), zput_n (fun e => hxD (by rw [← e]; exact hD))]
            · rintro ⟨e1, e2⟩ a ha hD
              by_cases e : a = x
              · rw [e, zput_s, e2]
              · rw [zput_n e]; exact e1.2 a ha (((b_orp _ _ _).mp hD).resolve_right e)
          have m1 : ∀ a, a < p + 2 ∨ p + 3 < a → I5 a = I' a := fun a ha => by rw [u1 a ha]; exact l1 a ha
          have m2 : ∀ j, j < 20 * dp + 20 → I5 (p + 2) j = I' (p + 2) j := fun j hj => by rw [u2 j (by omega)]; exact l2 j hj
          have m3 : ∀ x', x' < n → dn.testBit x' = true → I5 (p + 3) x' = I' (p + 3) x' := fun x' h1 h2 => by rw [u3 x' h1 ((b_orp _ _ _).mpr (Or.inl h2))]; exact m3l x' h1 h2
          cases r with
          | false => exact b_X7_chain_141 (fun _ => bad I5 m1 m2 m3 (fun ψ w1 w2 => u5 rfl ψ w1.1 ((exD ψ w1.1).mpr ⟨w1, w2⟩)) _) (fun q => absurd rfl q)
          | true =>
            obtain ⟨ψ, c1, c2, _, c4⟩ := u4 rfl
            obtain ⟨c5, c6⟩ := (exD ψ c1).mp c2
            obtain ⟨I6, ob', j1, j2, j3, j4, j5⟩ := c_joinOrbits (d := d) (J := J4) (S := S4) (ob := ob) (ψ := ψ) (by omega) hM hn (by rw [m1 p (by omega), q1 p (by omega) (by omega)]; exact h4) ho1 ho2 hop (fun x' hx' => ⟨c4 x' hx', c1.2.1 x' hx'⟩) (fun x' hx' => by rw [m1 o (by omega)]; exact q4 x' hx') q5
            refine b_X7_chain_141 (fun q => absurd q (by decide)) (fun _ => b_X7_chain_144 hk ⟨_, _, _, _, j1, b_X7_chain_149 (ih I6 ob' (tr ||| 2 ^ y) _ _ _ (fun a h1 h2 => by rw [j2 a h2, m1 a h1]; exact q1 a h1 h2) (fun j hj => by rw [j2 (p + 2) (by omega), m2 j hj]; exact q2 j hj) (fun x' h1 h2 => by rw [j2 (p + 3) (by omega), m3 x' h1 h2]; exact q3 x' h1 h2) j3 j4 (fun u v hu hv e => ?_) (fun u v hu hv e => j5.1 u v hu hv (q7 u v hu hv e)) tr' (fun u hu hb => ?_) (fun y' hy' e => ?_) ((b_orp _ _ _).mpr (Or.inl q11)) rfl (nI_1 y))⟩)
            · have := j5.2.2 (fun u v => ∃ h, GD n MM dn h ∧ (∀ z, z < n → (ob' z).testBit (h z) = true) ∧ h u = v) (fun u v hu hv e => by
                obtain ⟨h, e1, e2, e3⟩ := q6 u v hu hv e
                exact ⟨h, e1, fun z hz => j5.1 z (h z) hz (e1.1.2.1 z hz) (e2 z hz), e3⟩) (fun x' hx' => ⟨ψ, c5, fun z hz => j5.2.1 z hz, rfl⟩) (fun u v hu hv ⟨h, e1, e2, e3⟩ => by
                obtain ⟨_, hb2, hb3⟩ := hPGD.1 h e1
                refine ⟨bck n h, hPGD.2.2 h e1, fun z hz => ?_, by rw [← e3, bck_of hb2 hb3 hu]⟩
                have bs := bck_spec hb2 hb3 hz
                have := e2 _ bs.1
                rw [bs.2] at this
                exact j4.sym bs.1 hz this) (fun u v w' hu hv hw' ⟨h, e1, e2, e3⟩ ⟨h', e4, e5, e6⟩ => by
                refine ⟨cmp n h h', hPGD.2.1 h h' e1 e4, fun z hz => ?_, by rw [cmp_in hu, e3, e6]⟩
                rw [cmp_in hz]
                exact j4.tr hz (e1.1.2.1 z hz) (e2 z hz) (e5 _ (e1.1.2.1 z hz)))
              exact this u v hu hv e
            · have xy : (ob' x).testBit y = true := by
                have := j5.2.1 x x2
                rw [c6] at this
                exact this
              rcases (b_orp _ _ _).mp hb with e | e
              · rcases q9 u hu e with r | r
                · exact Or.inl (j5.1 x u x2 hu r)
                · exact Or.inr r
              · rw [e]; exact Or.inl xy
            · by_cases ey : y' = y
              · rw [ey]
                have := j5.2.1 x x2
                rw [c6] at this
                exact this
              · exact j5.1 x y' x2 (by omega) (q10 y' (by omega) e)
end C20

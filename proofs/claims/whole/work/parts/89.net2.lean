/-! THE CLASS: the matcher of networks -/
/-- what the search reads -/
def NX (S : zS) (I : zI) (p n : Nat) (MM : Nat → Nat → Nat → Nat → Prop) : Prop := ML S p ∧ n ≤ 20 ∧ 0 < n ∧ I p 2 = nI n ∧ I p 3 = nI (2 ^ n - 1) ∧ (z_kd S (z_rv S p 0) = 1 ∧ z_kd S (z_rv S p 1) = 1) ∧ (z_kd S (z_rv S (z_rv S p 0) 6) = 100 ∧ z_ln S (z_rv S (z_rv S p 0) 6) = 400) ∧ (z_kd S (z_rv S (z_rv S p 1) 7) = 100 ∧ z_ln S (z_rv S (z_rv S p 1) 7) = 400) ∧ (z_rv S (z_rv S p 0) 6 < p ∨ p + 3 < z_rv S (z_rv S p 0) 6) ∧ (z_rv S (z_rv S p 1) 7 < p ∨ p + 3 < z_rv S (z_rv S p 1) 7) ∧ ∃ pa pb : Nat → Nat → Nat, (∀ x z, x < n → z < n → I (z_rv S (z_rv S p 0) 6) (x * 20 + z) = nI (pa x z) ∧ pa x z < 20 ∧ I (p + 1) (pa x z) = nI (pb x z) ∧ pb x z < 20) ∧ ∀ x z y, x < n → z < n → y < n → I (z_rv S (z_rv S p 1) 7) (pb x z * 20 + y) = nI (zset n (fun z' => MM x z y z'))
/-- maps that keep the colours -/
def CPm (n : Nat) (MM : Nat → Nat → Nat → Nat → Prop) (ψ : Nat → Nat) : Prop := (∀ x, n ≤ x → ψ x = 0) ∧ (∀ x, x < n → ψ x < n) ∧ ∀ x z, x < n → z < n → MM x z (ψ x) (ψ z)
/-- what is left for a point -/
noncomputable def alw (n : Nat) (MM : Nat → Nat → Nat → Nat → Prop) (D : Nat → Prop) (f : Nat → Nat) (z : Nat) : Nat := zset n (fun z' => ∀ x, x < n → D x → MM x z (f x) z')
section C17
variable {d p n : Nat} {MM : Nat → Nat → Nat → Nat → Prop} {D : Nat → Prop} {f : Nat → Nat} {S : zS} {I I0 I1 : zI} {J : zJ}
theorem NX.fr (h : NX S I0 p n MM) (hF : ∀ a, a < p + 2 ∨ p + 3 < a → I a = I0 a) : NX S I p n MM := by
  obtain ⟨h1, h2, h3, h4, h5, h6, h7, h8, h9, h10, pa, pb, h11, h12⟩ := h
  refine ⟨h1, h2, h3, by rw [hF p (by omega)]; exact h4, by rw [hF p (by omega)]; exact h5, h6, h7, h8, h9, h10, pa, pb, fun x z hx hz => ?_, fun x z y hx hz hy => by rw [hF _ (by omega)]; exact h12 x z y hx hz hy⟩
  rw [hF _ (by omega), hF (p + 1) (by omega)]
  exact h11 x z hx hz
theorem alw_put {x y : Nat} (hx : x < n) (hxD : ¬ D x) (z : Nat) : alw n MM (fun a => D a ∨ a = x) (zput f x y) z = alw n MM D f z &&& zset n (fun z' => MM x z y z') := by
  symm
  refine zset_eq (Nat.and_lt_two_pow _ (zset_lt _ _)) (fun i hi => ?_)
  unfold alw
  rw [Nat.testBit_and, Bool.and_eq_true, zset_bit, zset_bit]
  constructor
  · rintro ⟨⟨_, h1⟩, _, h2⟩ a ha hD
    by_cases e : a = x
    · rw [e, zput_s]; exact h2
    · rw [zput_n e]; exact h1 a ha (hD.resolve_right e)
  · intro h1
    refine ⟨⟨hi, fun a ha hD => ?_⟩, hi, ?_⟩
    · have := h1 a ha (Or.inl hD)
      rw [zput_n (fun e => hxD (by rw [← e]; exact hD))] at this
      exact this
    · have := h1 x hx (Or.inr rfl)
      rw [zput_s] at this
      exact this
def leQ (S : zS) (I0 : zI) (J : zJ) (p n : Nat) (MM : Nat → Nat → Nat → Nat → Prop) (b x y : Nat) (al : Nat → Nat) : zQ := fun v S' I' J' => ∃ r : Bool, v = some (.int (nI r.toNat)) ∧ S' = S ∧ J' = J ∧ (∀ a, a < p + 2 ∨ p + 3 < a → I' a = I0 a) ∧ (∀ j, j < b + 20 → I' (p + 2) j = I0 (p + 2) j) ∧ (∀ j, j ≠ x → I' (p + 3) j = I0 (p + 3) j) ∧ I' (p + 3) x = nI y ∧ (r = true → ∀ z, z < n → I' (p + 2) (b + 20 + z) = nI (al z &&& zset n (fun z' => MM x z y z')) ∧ al z &&& zset n (fun z' => MM x z y z') ≠ 0) ∧ (r = false → ∃ z, z < n ∧ al z &&& zset n (fun z' => MM x z y z') = 0)
theorem c_lead {dp x y : Nat} {al : Nat → Nat} (hd : 0 < d) (hX : NX S I0 p n MM) (hdp : dp < 20) (hx : x < n) (hy : y < n) (hal : ∀ z, z < n → I0 (p + 2) (20 * dp + z) = nI (al z) ∧ al z < 2 ^ n) : z_wp d i_X7_lead [.ref p, .int (nI dp), .int (nI x), .int (nI y)] S I0 J (leQ S I0 J p n MM (20 * dp) x y al) := by
  obtain ⟨d, rfl⟩ := z_dep hd
  have hX' := hX
  obtain ⟨⟨hk, a4, a5, a6⟩, hn, h3, h4, h5, h6, h7, h8, h9, h10, pa, pb, h11, h12⟩ := hX'
  have ed : nI dp * 20 = nI (20 * dp) := by rw [z_lit 20, pk_mul, Nat.mul_comm]
  have ed2 : nI (20 * dp) + 20 = nI (20 * dp + 20) := nI_add _ 20
  refine w_X7_lead (b_X7_lead_0 hk (a6.wr (by omega) (by decide)) ?_)
  rw [a6.1, nI_clamp (by omega), ed, ed2]
  suffices H : ∀ z, z ≤ n → ∀ I x6 v7, (∀ a, a < p + 2 ∨ p + 3 < a → I a = I0 a) → (∀ j, j < 20 * dp + 20 → I (p + 2) j = I0 (p + 2) j) → (∀ j, j ≠ x → I (p + 3) j = I0 (p + 3) j) → I (p + 3) x = nI y → (∀ z', z' < z → I (p + 2) (20 * dp + 20 + z') = nI (al z' &&& zset n (fun w => MM x z' y w)) ∧ al z' &&& zset n (fun w => MM x z' y w) ≠ 0) → x6 = nI z → Go d i_X7_lead 23 [.ref p, .int (nI dp), .int (nI x), .int (nI y), .int (nI (20 * dp)), .int (nI (20 * dp + 20)), .int x6, v7] [] S I J (leQ S I0 J p n MM (20 * dp) x y al) from H 0 (by omega) _ _ _ (fun a ha => by rw [z_u2_row (by omega)]) (fun j hj => by rw [z_u2_row (by omega)]) (fun j hj => by rw [z_u2_nk hj]) z_u2_same (fun z' hz' => by omega) rfl
  refine z_up_to n ?_ ?_
  · rintro I x6 v7 f1 f2 f3 f4 f5 rfl
    exact b_X7_lead_23 hk (fun _ => b_X7_lead_103 z_fit1 ⟨true, rfl, rfl, rfl, f1, f2, f3, f4, fun _ => f5, fun w => (by cases w)⟩) (fun q => absurd (by rw [f1 p (by omega), h4]; exact nI_le (Nat.le_refl _) (by omega)) q)
  · rintro z hz ih I x6 v7 f1 f2 f3 f4 f5 rfl
    refine b_X7_lead_23 hk (fun q => absurd q (by rw [f1 p (by omega), h4]; exact nI_ge hz (by omega))) (fun _ => ?_)
    obtain ⟨p1, p2, p3, p4⟩ := h11 x z hx hz
    have p5 := h12 x z y hx hz hy
    obtain ⟨l1, l2⟩ := hal z hz
    have e1 : nI x * 20 + nI z = nI (x * 20 + z) := by rw [z_lit 20, pk_mul, nI_add]
    have v1 : I (z_rv S (z_rv S p 0) 6) (Int32.toNatClampNeg (nI x * 20 + nI z)) = nI (pa x z) := by rw [e1, nI_clamp (by omega), f1 _ (by omega)]; exact p1
    have v2 : I (z_rv S p 4) (Int32.toNatClampNeg (nI (pa x z))) = nI (pb x z) := by rw [a4.1, nI_clamp (by omega), f1 _ (by omega)]; exact p3
    have e2 : nI (pb x z) * 20 + nI y = nI (pb x z * 20 + y) := by rw [z_lit 20, pk_mul, nI_add]
    have v3 : I (z_rv S (z_rv S p 1) 7) (Int32.toNatClampNeg (nI (pb x z * 20 + y))) = nI (zset n (fun z' => MM x z y z')) := by rw [nI_clamp (by omega), f1 _ (by omega)]; exact p5
    have e3 : nI (20 * dp) + nI z = nI (20 * dp + z) := nI_add _ _
    have v4 : I (z_rv S p 5) (Int32.toNatClampNeg (nI (20 * dp) + nI z)) = nI (al z) := by rw [e3, a5.1, nI_clamp (by omega), f2 _ (by omega)]; exact l1
    have hlt : al z &&& zset n (fun z' => MM x z y z') < 2 ^ n := Nat.and_lt_two_pow _ (zset_lt _ _)
    have l31 := z_lt31 hn hlt
    refine b_X7_lead_32 hk (by rw [e3]; exact a5.rd (by omega) (by decide)) hk h6.2 hk hk h6.1 ⟨by rw [h7.1]; rfl, by rw [h7.2, e1]; exact vp_in_nI (by omega) (by decide)⟩ (by rw [v1]; exact a4.rd (by omega) (by decide)) ⟨by rw [h8.1]; rfl, by rw [h8.2, v1, v2, e2]; exact vp_in_nI (by omega) (by decide)⟩ rfl (fun q => ?_) (fun q => b_X7_lead_83 z_fit0 ⟨false, rfl, rfl, rfl, f1, f2, f3, f4, fun w => (by cases w), fun _ => ⟨z, hz, ?_⟩⟩)
    · rw [v1, v2, e2, v3, v4, z_and] at q ⊢
      rw [z_eq0 l31] at q
      refine b_X7_lead_85 hk (by rw [nI_add]; exact a5.wr (by omega) (by decide)) (ih _ _ _ (fun a ha => ?_) (fun j hj => ?_) (fun j hj => ?_) ?_ (fun z' hz' => ?_) (nI_1 z))
      · rw [a5.1, z_u2_row (by omega)]; exact f1 a ha
      · rw [a5.1, nI_add, nI_clamp (by omega), z_u2_nk (by omega)]; exact f2 j hj
      · rw [a5.1, z_u2_row (by omega)]; exact f3 j hj
      · rw [a5.1, z_u2_row (by omega)]; exact f4
      · rw [a5.1, nI_add, nI_clamp (by omega)]
        by_cases e : z' = z
        · rw [e, z_u2_same]; exact ⟨rfl, q⟩
        · rw [z_u2_nk (by omega)]; exact f5 z' (by omega)
    · rw [v1, v2, e2, v3, v4, z_and, z_eq0 l31] at q
      exact q
/-- the point whose turn it is -/
theorem c_pick {dp dn : Nat} {al : Nat → Nat} (hd : 1 < d) (hX : NX S I p n MM) (hdp : dp < 20) (hdn : dn < 2 ^ n) (hal : ∀ z, z < n → I (p + 2) (20 * dp + z) = nI (al z) ∧ al z < 2 ^ n) (hex : ∃ x, x < n ∧ dn.testBit x = false) : ∃ x, z_ev d i_X7_pick [.ref p, .int (nI dp), .int (nI dn)] S I J (some (.int (nI x))) S I J ∧ x < n ∧ dn.testBit x = false ∧ (I p 7 ≠ 0 → ∀ y, y < x → dn.testBit y = true) := by
  obtain ⟨d, rfl⟩ := z_dep (d := d) (by omega)
  obtain ⟨⟨hk, a4, a5, a6⟩, hn, h3, h4, h5, _⟩ := hX
  have hdn31 := z_lt31 hn hdn
  suffices hw : z_wp (d + 1) i_X7_pick [.ref p, .int (nI dp), .int (nI dn)] S I J (fun v S' I' J' => ∃ x, v = some (.int (nI x)) ∧ S' = S ∧ I' = I ∧ J' = J ∧ x < n ∧ dn.testBit x = false ∧ (I p 7 ≠ 0 → ∀ y, y < x → dn.testBit y = true)) by
    obtain ⟨v, S', I', J', x1, x, rfl, rfl, rfl, rfl, x2⟩ := hw
    exact ⟨x, x1, x2⟩
  refine w_X7_pick (b_X7_pick_0 ?_)
  suffices H : ∀ z, z ≤ n → ∀ x3 x4 x5 v6 bs fw, x3 = nI bs → x4 = nI fw → fw ≤ 21 → ((fw = 21 ∧ ∀ y, y < z → dn.testBit y = true) ∨ (bs < z ∧ dn.testBit bs = false ∧ (I p 7 ≠ 0 → fw = bs ∧ ∀ y, y < bs → dn.testBit y = true))) → x5 = nI z → Go d i_X7_pick 9 [.ref p, .int (nI dp), .int (nI dn), .int x3, .int x4, .int x5, v6] [] S I J (fun v S' I' J' => ∃ x, v = some (.int (nI x)) ∧ S' = S ∧ I' = I ∧ J' = J ∧ x < n ∧ dn.testBit x = false ∧ (I p 7 ≠ 0 → ∀ y, y < x → dn.testBit y = true)) from H 0 (by omega) _ _ _ _ 0 21 rfl rfl (Nat.le_refl _) (Or.inl ⟨rfl, fun y hy => by omega⟩) rfl
  refine z_up_to n ?_ ?_
  · rintro x3 x4 x5 v6 bs fw rfl rfl hfw hS rfl
    refine b_X7_pick_9 hk (fun _ => b_X7_pick_76 ⟨bs, rfl, rfl, rfl, rfl, ?_⟩) (fun q => absurd (by rw [h4]; exact nI_le (Nat.le_refl _) (by omega)) q)
    rcases hS with ⟨_, q⟩ | ⟨q1, q2, q3⟩
    · obtain ⟨x, x1, x2⟩ := hex
      rw [q x x1] at x2; cases x2
    · exact ⟨q1, q2, fun w => (q3 w).2⟩
  · rintro z hz ih x3 x4 x5 v6 bs fw rfl rfl hfw hS rfl
    refine b_X7_pick_9 hk (fun q => absurd q (by rw [h4]; exact nI_ge hz (by omega))) (fun _ => ?_)
    refine b_X7_pick_18 (fun q => b_X7_pick_70 (ih _ _ _ _ bs fw rfl rfl hfw ?_ (nI_1 z))) (fun q => ?_)
    · rw [z_bit0 hdn31 (by omega), Bool.not_eq_false] at q
      rcases hS with ⟨w1, w2⟩ | ⟨w1, w2, w3⟩
      · refine Or.inl ⟨w1, fun y hy => ?_⟩
        by_cases e : y = z
        · rw [e]; exact q
        · exact w2 y (by omega)
      · exact Or.inr ⟨by omega, w2, w3⟩
    · rw [z_bit0 hdn31 (by omega)] at q
      refine b_X7_pick_27 hk (fun q7 => ?_) (fun q7 => ?_)
      · have e3 : nI dp * 20 + nI z = nI (20 * dp + z) := by rw [z_lit 20, pk_mul, nI_add, Nat.mul_comm]
        have v4 : I (z_rv S p 5) (Int32.toNatClampNeg (nI dp * 20 + nI z)) = nI (al z) := by rw [e3, a5.1, nI_clamp (by omega)]; exact (hal z hz).1
        have zl := zc_le n (al z)
        refine b_X7_pick_39 hk (by rw [e3]; exact a5.rd (by omega) (by decide)) ⟨_, _, _, _, by rw [v4]; exact ev_bitCount (by omega) (z_lt24 hn (hal z hz).2), ?_⟩
        rw [zc24 hn (hal z hz).2]
        refine b_X7_pick_54 (fun w => b_X7_pick_70 (ih _ _ _ _ bs fw rfl rfl hfw ?_ (nI_1 z))) (fun w => b_X7_pick_63 (ih _ _ _ _ z (zc n (al z)) rfl rfl (by omega) (Or.inr ⟨by omega, q, fun w7 => absurd q7 w7⟩) (nI_1 z)))
        rw [nI_leI (by omega) (by omega)] at w
        rcases hS with ⟨w1, w2⟩ | ⟨w1, w2, w3⟩
        · omega
        · exact Or.inr ⟨by omega, w2, w3⟩
      · refine b_X7_pick_34 (fun w => b_X7_pick_70 (ih _ _ _ _ bs fw rfl rfl hfw ?_ (nI_1 z))) (fun w => b_X7_pick_63 (ih _ _ _ _ z z rfl rfl (by omega) (Or.inr ⟨by omega, q, fun _ => ⟨rfl, fun y hy => ?_⟩⟩) (nI_1 z)))
        · rw [nI_leI (by omega) (by omega)] at w
          rcases hS with ⟨w1, w2⟩ | ⟨w1, w2, w3⟩
          · omega
          · exact Or.inr ⟨by omega, w2, w3⟩
        · rw [nI_leI (by omega) (by omega)] at w
          rcases hS with ⟨w1, w2⟩ | ⟨w1, w2, w3⟩
          · exact w2 y hy
          · have := (w3 q7).1
            omega
/-- a part of a map that keeps colours -/
def PX (n : Nat) (MM : Nat → Nat → Nat → Nat → Prop) (D : Nat → Prop) (f : Nat → Nat) : Prop := (∀ x, x < n → D x → f x < n) ∧ ∀ x z, x < n → z < n → D x → D z → MM x z (f x) (f z)
theorem PX.add {x y : Nat} (hdg : ∀ x y y', x < n → y < n → y' < n → MM x x y y' → y = y') (hP : PX n MM D f) (hx : x < n) (hxD : ¬ D x) (hy : y < n) (hyl : (alw n MM D f x).testBit y = true) (hne : ∀ z, z < n → alw n MM D f z &&& zset n (fun z' => MM x z y z') ≠ 0) : PX n MM (fun a => D a ∨ a = x) (zput f x y) := by
  refine ⟨fun a ha hD => ?_, fun a z ha hz hDa hDz => ?_⟩
  · by_cases e : a = x
    · rw [e, zput_s]; exact hy
    · rw [zput_n e]; exact hP.1 a ha (hD.resolve_right e)
  · have wit : ∀ z, z < n → ∃ z', z' < n ∧ (∀ x, x < n → D x → MM x z (f x) z') ∧ MM x z y z' := fun z hz => by
      obtain ⟨i, i1, i2⟩ := z_ne_bit (n := n) (Nat.and_lt_two_pow _ (zset_lt _ _)) (hne z hz)
      rw [Nat.testBit_and, Bool.and_eq_true] at i2
      exact ⟨i, i1, ((zset_bit _ _ _).mp i2.1).2, ((zset_bit _ _ _).mp i2.2).2⟩
    by_cases ea : a = x
    · by_cases ez : z = x
      · rw [ea, ez, zput_s]
        obtain ⟨z', w1, _, w3⟩ := wit x hx
        have := hdg x y z' hx hy w1 w3
        rw [← this] at w3
        exact w3
      · rw [ea, zput_s, zput_n ez]
        have hDz' := hDz.resolve_right ez
        obtain ⟨z', w1, w2, w3⟩ := wit z hz
        have := hdg z (f z) z' hz (hP.1 z hz hDz') w1 (w2 z hz hDz')
        rw [← this] at w3
        exact w3
    · have hDa' := hDa.resolve_right ea
      by_cases ez : z = x
      · rw [ez, zput_s, zput_n ea]
        exact ((zset_bit _ _ _).mp hyl).2 a ha hDa'
      · rw [zput_n ea, zput_n ez]
        exact hP.2 a z ha hz hDa' (hDz.resolve_right ez)
theorem CPm.alw {ψ : Nat → Nat} (h : CPm n MM ψ) (he : Ex n D f ψ) {z : Nat} (hz : z < n) : (alw n MM D f z).testBit (ψ z) = true := (zset_bit _ _ _).mpr ⟨h.2.1 z hz, fun x hx hD => by rw [← he x hx hD]; exact h.2.2 x z hx hz⟩
def coQ (S : zS) (I0 : zI) (J : zJ) (p n : Nat) (MM : Nat → Nat → Nat → Nat → Prop) (b : Nat) (D : Nat → Prop) (f : Nat → Nat) : zQ := fun v S' I' J' => ∃ r : Bool, v = some (.int (nI r.toNat)) ∧ S' = S ∧ J' = J ∧ (∀ a, a < p + 2 ∨ p + 3 < a → I' a = I0 a) ∧ (∀ j, j < b + 20 → I' (p + 2) j = I0 (p + 2) j) ∧ (∀ x, x < n → D x → I' (p + 3) x = I0 (p + 3) x) ∧ (r = true → ∃ ψ, CPm n MM ψ ∧ Ex n D f ψ ∧ (I0 p 7 ≠ 0 → LexMin n (fun ψ => CPm n MM ψ ∧ Ex n D f ψ) ψ) ∧ ∀ x, x < n → I' (p + 3) x = nI (ψ x)) ∧ (r = false → ∀ ψ, CPm n MM ψ → Ex n D f ψ → False)
theorem c_ncomplete (hdg : ∀ x y y', x < n → y < n → y' < n → MM x x y y' → y = y') : ∀ c d dp dn f I, n ≤ dp + c → c + 2 < d → dp ≤ zc n dn → dn < 2 ^ n → NX S I p n MM → PX n MM (fun a => dn.testBit a = true) f → (∀ z, z < n → I (p + 2) (20 * dp + z) = nI (alw n MM (fun a => dn.testBit a = true) f z)) → (∀ x, x < n → dn.testBit x = true → I (p + 3) x = nI (f x)) → z_wp d i_X7_complete [.ref p, .int (nI dp), .int (nI dn)] S I J (coQ S I J p n MM (20 * dp) (fun a => dn.testBit a = true) f) := by
  intro c
  induction c with
  | zero =>
    intro d dp dn f I h1 hd hz hdn hX hP hal him
    obtain ⟨d, rfl⟩ := z_dep (d := d) (by omega)
    have hX' := hX
    obtain ⟨⟨hk, a4, a5, a6⟩, hn, h3, h4, h5, _⟩ := hX'
    have hall : ∀ x, x < n → dn.testBit x = true := fun x hx => by
      cases hb : dn.testBit x with
      | true => rfl
      | false =>
        exfalso
        have e := zc_lt (n := n) (a := dn) (b := 2 ^ n - 1) (x := x) (fun i hi _ => by rw [Nat.testBit_two_pow_sub_one]; exact decide_eq_true hi) hx (by rw [Nat.testBit_two_pow_sub_one]; exact decide_eq_true hx) hb
        have := zc_le n (2 ^ n - 1)
        omega
    have edn : dn = 2 ^ n - 1 := z_ext hdn (by have := Nat.two_pow_pos n; omega) (fun i hi => by rw [hall i hi, Nat.testBit_two_pow_sub_one]; exact (decide_eq_true hi).symm)
    refine w_X7_complete (b_X7_complete_0 hk (fun q => absurd (by rw [h5, edn]) q) (fun _ => b_X7_complete_8 z_fit1 ⟨true, rfl, rfl, rfl, fun _ _ => rfl, fun _ _ => rfl, fun _ _ _ => rfl, fun _ => ⟨rowm n f, ⟨fun x hx => if_neg (by omega), fun x hx => by rw [rowm_in hx]; exact hP.1 x hx (hall x hx), fun x z hx hz => by rw [rowm_in hx, rowm_in hz]; exact hP.2 x z hx hz (hall x hx) (hall z hz)⟩, fun x hx _ => rowm_in hx, fun _ => ?_, fun x hx => by rw [rowm_in hx]; exact him x hx (hall x hx)⟩, fun w => (by cases w)⟩))
    exact ⟨⟨⟨fun x hx => if_neg (by omega), fun x hx => by rw [rowm_in hx]; exact hP.1 x hx (hall x hx), fun x z hx hz => by rw [rowm_in hx, rowm_in hz]; exact hP.2 x z hx hz (hall x hx) (hall z hz)⟩, fun x hx _ => rowm_in hx⟩, fun ψ hψ => Or.inl (fun x hx => by rw [rowm_in hx]; exact (hψ.2 x hx (hall x hx)).symm)⟩
  | succ c ihc =>
    intro d dp dn f I h1 hd hz hdn hX hP hal him
    by_cases hfull : ∀ x, x < n → dn.testBit x = true
    · have e : zc n dn = n := by
        rw [zc_zcn]
        exact zcn_all n (fun i hi => hfull i hi)
      have := ihc
      -- as at the end
      exact (fun hh => hh) (by
        obtain ⟨d, rfl⟩ := z_dep (d := d) (by omega)
        have hX' := hX
        obtain ⟨⟨hk, a4, a5, a6⟩, hn, h3, h4, h5, _⟩ := hX'
        have edn : dn = 2 ^ n - 1 := z_ext hdn (by have := Nat.two_pow_pos n; omega) (fun i hi => by rw [hfull i hi, Nat.testBit_two_pow_sub_one]; exact (decide_eq_true hi).symm)
        have hcp : CPm n MM (rowm n f) := ⟨fun x hx => if_neg (by omega), fun x hx => by rw [rowm_in hx]; exact hP.1 x hx (hfull x hx), fun x z hx hz => by rw [rowm_in hx, rowm_in hz]; exact hP.2 x z hx hz (hfull x hx) (hfull z hz)⟩
        exact w_X7_complete (b_X7_complete_0 hk (fun q => absurd (by rw [h5, edn]) q) (fun _ => b_X7_complete_8 z_fit1 ⟨true, rfl, rfl, rfl, fun _ _ => rfl, fun _ _ => rfl, fun _ _ _ => rfl, fun _ => ⟨rowm n f, hcp, fun x hx _ => rowm_in hx, fun _ => ⟨⟨hcp, fun x hx _ => rowm_in hx⟩, fun ψ hψ => Or.inl (fun x hx => by rw [rowm_in hx]; exact (hψ.2 x hx (hfull x hx)).symm)⟩, fun x hx => by rw [rowm_in hx]; exact him x hx (hfull x hx)⟩, fun w => (by cases w)⟩)))
    obtain ⟨d, rfl⟩ := z_dep (d := d) (by omega)
    have hX' := hX
    obtain ⟨⟨hk, a4, a5, a6⟩, hn, h3, h4, h5, _⟩ := hX'
    have hex : ∃ x, x < n ∧ dn.testBit x = false := by
      rcases Classical.em (∃ x, x < n ∧ dn.testBit x = false) with q | q
      · exact q
      · refine absurd (fun x hx => ?_) hfull
        cases hb : dn.testBit x with
        | true => rfl
        | false => exact absurd ⟨x, hx, hb⟩ q
    have hlt : zc n dn < n := by
      obtain ⟨x, x1, x2⟩ := hex
      have e := zc_lt (n := n) (a := dn) (b := 2 ^ n - 1) (x := x) (fun i hi _ => by rw [Nat.testBit_two_pow_sub_one]; exact decide_eq_true hi) x1 (by rw [Nat.testBit_two_pow_sub_one]; exact decide_eq_true x1) x2
      have := zc_le n (2 ^ n - 1)
      omega
    have hp2 := Nat.two_pow_pos n
    have hall31 : 2 ^ n - 1 < 2 ^ 31 := z_lt31 hn (by omega)
    refine w_X7_complete (b_X7_complete_0 hk (fun _ => b_X7_complete_10 (fun _ => ?_) (fun q => absurd (nI_lt (a := dp) (b := 20) (by omega) (by decide)) q)) (fun q => ?_))
    · have hal' : ∀ z, z < n → I (p + 2) (20 * dp + z) = nI (alw n MM (fun a => dn.testBit a = true) f z) ∧ alw n MM (fun a => dn.testBit a = true) f z < 2 ^ n := fun z hz => ⟨hal z hz, zset_lt _ _⟩
      obtain ⟨x, x1, x2, x3, x4⟩ := c_pick (d := d) (J := J) (by omega) hX (by omega) hdn hal' hex
      have hxD : ¬ dn.testBit x = true := by rw [x3]; decide
      have e20 : nI dp * 20 + nI x = nI (20 * dp + x) := by rw [z_lit 20, pk_mul, nI_add, Nat.mul_comm]
      refine b_X7_complete_18 hk ⟨_, _, _, _, x1, b_X7_complete_24 hk (by rw [e20]; exact a5.rd (by omega) (by decide)) ?_⟩
      rw [e20, a5.1, nI_clamp (by omega), hal x x2]
      have hol : alw n MM (fun a => dn.testBit a = true) f x < 2 ^ 31 := z_lt31 hn (zset_lt _ _)
      suffices H : ∀ y, y ≤ n → ∀ I' x5, (∀ a, a < p + 2 ∨ p + 3 < a → I' a = I a) → (∀ j, j < 20 * dp + 20 → I' (p + 2) j = I (p + 2) j) → (∀ x, x < n → dn.testBit x = true → I' (p + 3) x = I (p + 3) x) → (∀ ψ, CPm n MM ψ → Ex n (fun a => dn.testBit a = true) f ψ → ψ x < y → False) → x5 = nI y → Go d i_X7_complete 41 [.ref p, .int (nI dp), .int (nI dn), .int (nI x), .int (nI (alw n MM (fun a => dn.testBit a = true) f x)), .int x5] [] S I' J (coQ S I J p n MM (20 * dp) (fun a => dn.testBit a = true) f) from H 0 (by omega) I _ (fun _ _ => rfl) (fun _ _ => rfl) (fun _ _ _ => rfl) (fun ψ _ _ w => by omega) rfl
      refine z_up_to n ?_ ?_
      · rintro I' x5 f1 f2 f3 hno rfl
        exact b_X7_complete_41 hk (fun _ => b_X7_complete_94 z_fit0 ⟨false, rfl, rfl, rfl, f1, f2, f3, fun w => (by cases w), fun _ ψ p1 p2 => hno ψ p1 p2 (p1.2.1 x x2)⟩) (fun q => absurd (by rw [f1 p (by omega), h4]; exact nI_le (Nat.le_refl _) (by omega)) q)
      · rintro y hy ih I' x5 f1 f2 f3 hno rfl
        have skip : (∀ ψ, CPm n MM ψ → Ex n (fun a => dn.testBit a = true) f ψ → ψ x = y → False) → ∀ ψ, CPm n MM ψ → Ex n (fun a => dn.testBit a = true) f ψ → ψ x < y + 1 → False := fun hh ψ p1 p2 p3 => by
          by_cases e : ψ x = y
          · exact hh ψ p1 p2 e
          · exact hno ψ p1 p2 (by omega)
        refine b_X7_complete_41 hk (fun q => absurd q (by rw [f1 p (by omega), h4]; exact nI_ge hy (by omega))) (fun _ => ?_)
        refine b_X7_complete_50 (fun q => b_X7_complete_88 (ih I' _ f1 f2 f3 (skip (fun ψ p1 p2 p3 => ?_)) (nI_1 y))) (fun q => ?_)
        · rw [z_bit0 hol (by omega)] at q
          have := p1.alw p2 x2
          rw [p3] at this
          rw [q] at this; cases this
        · rw [z_bit0 hol (by omega), Bool.not_eq_false] at q
          have hXI : NX S I' p n MM := hX.fr f1
          have hle := c_lead (d := d) (J := J) (dp := dp) (x := x) (y := y) (al := alw n MM (fun a => dn.testBit a = true) f) (by omega) hXI (by omega) x2 hy (fun z hz => ⟨by rw [f2 _ (by omega)]; exact hal z hz, zset_lt _ _⟩)
          refine b_X7_complete_60 hk (hle.mono ?_)
          rintro v S1 I2 J1 ⟨r, rfl, rfl, rfl, g1, g2, g3, g4, g5, g6⟩
          have F1 : ∀ a, a < p + 2 ∨ p + 3 < a → I2 a = I a := fun a ha => by rw [g1 a ha]; exact f1 a ha
          have F2 : ∀ j, j < 20 * dp + 20 → I2 (p + 2) j = I (p + 2) j := fun j hj => by rw [g2 j hj]; exact f2 j hj
          have F3 : ∀ x', x' < n → dn.testBit x' = true → I2 (p + 3) x' = I (p + 3) x' := fun x' h1 h2 => by rw [g3 x' (fun e => by rw [e, x3] at h2; cases h2)]; exact f3 x' h1 h2
          cases r with
          | false =>
            refine b_X7_complete_68 (fun _ => b_X7_complete_88 (ih I2 _ F1 F2 F3 (skip (fun ψ p1 p2 p3 => ?_)) (nI_1 y))) (fun c => absurd rfl c)
            obtain ⟨z, z1, z2⟩ := g6 rfl
            have w1 := p1.alw p2 z1
            have w2 : (alw n MM (fun a => dn.testBit a = true) f z &&& zset n (fun z' => MM x z y z')).testBit (ψ z) = true := by
              rw [Nat.testBit_and, w1, (zset_bit _ _ _).mpr ⟨p1.2.1 z z1, by rw [← p3]; exact p1.2.2 x z x2 z1⟩]; rfl
            rw [z2, Nat.zero_testBit] at w2; cases w2
          | true =>
            refine b_X7_complete_68 (fun c => absurd c (by decide)) (fun _ => b_X7_complete_71 hk ?_)
            have g5' := g5 rfl
            have hP' := hP.add hdg x2 hxD hy q (fun z hz => (g5' z hz).2)
            have eD : (fun a => (dn ||| 2 ^ x).testBit a = true) = (fun a => dn.testBit a = true ∨ a = x) := by
              funext a
              exact propext (b_orp _ _ _)
            have hdn' : dn ||| 2 ^ x < 2 ^ n := z_or_lt hdn (z_pw x2)
            have hzc : dp + 1 ≤ zc n (dn ||| 2 ^ x) := by
              have := zc_lt (n := n) (a := dn) (b := dn ||| 2 ^ x) (x := x) (fun i _ hi => (b_orp _ _ _).mpr (Or.inl hi)) x2 ((b_orp _ _ _).mpr (Or.inr rfl)) x3
              omega
            have hrec := ihc d (dp + 1) (dn ||| 2 ^ x) (zput f x y) I2 (by omega) (by omega) hzc hdn' (hX.fr F1) (by rw [eD]; exact hP') (fun z hz => by
              rw [eD, alw_put x2 hxD, Nat.mul_add, Nat.mul_one]
              exact (g5' z hz).1) (fun x' hx' hD => by
              by_cases e : x' = x
              · rw [e, zput_s]; exact g4
              · rw [zput_n e, F3 x' hx' (((b_orp _ _ _).mp hD).resolve_right e)]
                exact him x' hx' (((b_orp _ _ _).mp hD).resolve_right e))
            rw [nI_1, z_shl1 (by omega), z_or]
            refine hrec.mono ?_
            rintro v S2 I3 J2 ⟨r, rfl, rfl, rfl, u1, u2, u3, u4, u5⟩
            have exD : ∀ ψ, Ex n (fun a => (dn ||| 2 ^ x).testBit a = true) (zput f x y) ψ ↔ Ex n (fun a => dn.testBit a = true) f ψ ∧ ψ x = y := fun ψ => by
              constructor
              · intro w
                refine ⟨fun a ha hD => ?_, by rw [w x x2 ((b_orp _ _ _).mpr (Or.inr rfl)), zput_s]⟩
                rw [w a ha ((b_orp _ _ _).mpr (Or.inl hD)), zput_n (fun e => hxD (by rw [← e]; exact hD))]
              · rintro ⟨w1, w2⟩ a ha hD
                by_cases e : a = x
                · rw [e, zput_s, w2]
                · rw [zput_n e]; exact w1 a ha (((b_orp _ _ _).mp hD).resolve_right e)
            have G1 : ∀ a, a < p + 2 ∨ p + 3 < a → I3 a = I a := fun a ha => by rw [u1 a ha]; exact F1 a ha
            have G2 : ∀ j, j < 20 * dp + 20 → I3 (p + 2) j = I (p + 2) j := fun j hj => by rw [u2 j (by omega)]; exact F2 j hj
            have G3 : ∀ x', x' < n → dn.testBit x' = true → I3 (p + 3) x' = I (p + 3) x' := fun x' h1 h2 => by rw [u3 x' h1 ((b_orp _ _ _).mpr (Or.inl h2))]; exact F3 x' h1 h2
            cases r with
            | false => exact b_X7_complete_83 (fun _ => b_X7_complete_88 (ih I3 _ G1 G2 G3 (skip (fun ψ p1 p2 p3 => u5 rfl ψ p1 ((exD ψ).mpr ⟨p2, p3⟩))) (nI_1 y))) (fun c => absurd rfl c)
            | true =>
              obtain ⟨ψ, w1, w2, w3, w4⟩ := u4 rfl
              refine b_X7_complete_83 (fun c => absurd c (by decide)) (fun _ => b_X7_complete_86 z_fit1 ⟨true, rfl, rfl, rfl, G1, G2, G3, fun _ => ⟨ψ, w1, ((exD ψ).mp w2).1, fun h7 => ?_, w4⟩, fun w => (by cases w)⟩)
              have w5 := w3 (by rw [F1 p (by omega)]; exact h7)
              refine ⟨⟨w1, ((exD ψ).mp w2).1⟩, fun χ hχ => ?_⟩
              rcases Nat.lt_trichotomy (χ x) y with r | r | r
              · exact absurd (hno χ hχ.1 hχ.2 r) id
              · exact w5.2 χ ⟨hχ.1, (exD χ).mpr ⟨hχ.2, r⟩⟩
              · refine Or.inr ⟨x, x2, fun a ha => ?_, by rw [((exD ψ).mp w2).2]; exact r⟩
                have hDa := x4 h7 a ha
                rw [((exD ψ).mp w2).1 a (by omega) hDa, hχ.2 a (by omega) hDa]
    · rw [h5, nI_eq (z_lt31 hn hdn) hall31] at q
      refine absurd (fun x hx => ?_) hfull
      rw [q, Nat.testBit_two_pow_sub_one]
      exact decide_eq_true hx
end C17

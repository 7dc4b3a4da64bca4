/-! THE CLASS: sets, the centre, classes, the derived subgroup, the exponent -/
section C2a
variable {d : Nat} {S : zS} {I : zI} {J : zJ}
/-- a truth as a number -/
noncomputable def zb (p : Prop) : Nat := @ite _ p (Classical.propDecidable _) 1 0
theorem zb_t {p : Prop} (h : p) : zb p = 1 := if_pos h
theorem zb_f {p : Prop} (h : ¬ p) : zb p = 0 := if_neg h
theorem zb_0 {p : Prop} : nI (zb p) = 0 ↔ ¬ p := by
  by_cases h : p
  · rw [zb_t h]; exact ⟨fun c => absurd c (by decide), fun c => absurd h c⟩
  · rw [zb_f h]; exact ⟨fun _ => h, fun _ => rfl⟩
theorem zb_1 {p : Prop} : ¬ nI (zb p) = 0 ↔ p := by rw [zb_0, Classical.not_not]
theorem zb_congr {p q : Prop} (h : p ↔ q) : zb p = zb q := by rw [propext h]
theorem z_fit0 : z_fit 3 (0 : Int32) := z_fitb false
theorem z_fit1 : z_fit 3 (1 : Int32) := z_fitb true
theorem z_some {a b : Nat} (h : a = b) : (some (Value.int (nI a))) = some (Value.int (nI b)) := by rw [h]
theorem ev_max {a b : Nat} (hd : 0 < d) (ha : a < 2 ^ 31) (hb : b < 2 ^ 31) : z_ev d i_J9_max_7cf53 [.int (nI a), .int (nI b)] S I J (some (.int (nI (max a b)))) S I J := by
  obtain ⟨d, rfl⟩ := z_dep hd
  refine e_J9_max_7cf53 (b_J9_max_7cf53_0 (fun c => b_J9_max_7cf53_9 ⟨?_, rfl, rfl, rfl⟩) (fun c => b_J9_max_7cf53_5 ⟨?_, rfl, rfl, rfl⟩))
  · rw [nI_ltI ha hb] at c; exact z_some (by omega)
  · rw [nI_ltI ha hb] at c; exact z_some (by omega)
theorem ev_min {a b : Nat} (hd : 0 < d) (ha : a < 2 ^ 31) (hb : b < 2 ^ 31) : z_ev d i_J9_min_7cf53 [.int (nI a), .int (nI b)] S I J (some (.int (nI (min a b)))) S I J := by
  obtain ⟨d, rfl⟩ := z_dep hd
  refine e_J9_min_7cf53 (b_J9_min_7cf53_0 (fun c => b_J9_min_7cf53_9 ⟨?_, rfl, rfl, rfl⟩) (fun c => b_J9_min_7cf53_5 ⟨?_, rfl, rfl, rfl⟩))
  · rw [nI_ltI hb ha] at c; exact z_some (by omega)
  · rw [nI_ltI hb ha] at c; exact z_some (by omega)
end C2a
section C2
variable {d g n : Nat} {t : Nat → Nat → Nat} {iv : Nat → Nat} {S : zS} {I : zI} {J : zJ}
/-- any number: is it a set of n places -/
theorem z_set (x : Int32) (hn : n ≤ 20) : (x < 0 ∧ ∀ a, a < 2 ^ n → x ≠ nI a) ∨ (¬ x < 0 ∧ ¬ x >>> (nI n &&& 31) = 0 ∧ ∀ a, a < 2 ^ n → x ≠ nI a) ∨ (¬ x < 0 ∧ x >>> (nI n &&& 31) = 0 ∧ ∃ a, a < 2 ^ n ∧ x = nI a) := by
  by_cases h : x < 0
  · exact Or.inl ⟨h, fun a ha e => by rw [e] at h; exact nI_pos (z_lt31 hn ha) h⟩
  · obtain ⟨j, hj, rfl⟩ := nI_of h
    right
    rw [z_shr hj (by omega)]
    have hl : j / 2 ^ n < 2 ^ 31 := Nat.lt_of_le_of_lt (Nat.div_le_self _ _) hj
    rw [z_eq0 hl]
    by_cases hq : j < 2 ^ n
    · exact Or.inr ⟨h, Nat.div_eq_of_lt hq, j, hq, rfl⟩
    · refine Or.inl ⟨h, ?_, fun a ha e => ?_⟩
      · have := Nat.div_pos (Nat.le_of_not_lt hq) (Nat.two_pow_pos n)
        omega
      · rw [nI_eq hj (z_lt31 hn ha)] at e
        omega
theorem c_isSet (x : Int32) (hd : 0 < d) (h : CT S I g n t) : z_ev d i_X1_isSet [.ref g, .int x] S I J (some (.int (nI (zb (∃ a, a < 2 ^ n ∧ x = nI a))))) S I J := by
  obtain ⟨d, rfl⟩ := z_dep hd
  have h0 := h.2.1
  rcases z_set x h.le with ⟨q1, q2⟩ | ⟨q1, q2, q3⟩ | ⟨q1, q2, q3⟩
  · refine e_X1_isSet (b_X1_isSet_0 (fun _ => b_X1_isSet_17 z_fit0 ⟨?_, rfl, rfl, rfl⟩) (fun c => absurd q1 c))
    rw [zb_f (fun ⟨a, ha, e⟩ => q2 a ha e)]; rfl
  · refine e_X1_isSet (b_X1_isSet_0 (fun c => absurd c q1) (fun _ => b_X1_isSet_4 h.1 (fun _ => b_X1_isSet_17 z_fit0 ⟨?_, rfl, rfl, rfl⟩) (fun c => absurd (by rw [h0] at c; exact c) q2)))
    rw [zb_f (fun ⟨a, ha, e⟩ => q3 a ha e)]; rfl
  · refine e_X1_isSet (b_X1_isSet_0 (fun c => absurd c q1) (fun _ => b_X1_isSet_4 h.1 (fun c => absurd (by rw [h0]; exact q2) c) (fun _ => b_X1_isSet_13 z_fit1 ⟨?_, rfl, rfl, rfl⟩)))
    rw [zb_t q3]; rfl
theorem c_isClosed {a : Nat} (hd : 3 < d) (h : CT S I g n t) (ha : a < 2 ^ n) : z_ev d i_X1_isClosed [.ref g, .int (nI a)] S I J (some (.int (nI (zb (gen n t a = a))))) S I J := by
  obtain ⟨d, rfl⟩ := z_dep (d := d) (by omega)
  have e := nI_eq (z_lt31 h.le (gen_lt n t a)) (z_lt31 h.le ha)
  refine e_X1_isClosed (b_X1_isClosed_0 h.1 ⟨_, _, _, _, c_span (by omega) h ha, ?_⟩)
  refine b_X1_isClosed_5 (fun c => b_X1_isClosed_13 z_fit0 ⟨?_, rfl, rfl, rfl⟩) (fun c => b_X1_isClosed_9 z_fit1 ⟨?_, rfl, rfl, rfl⟩)
  · rw [e] at c; rw [zb_f c]; rfl
  · rw [e] at c; rw [zb_t c]; rfl
theorem c_isOfWholeClasses {a : Nat} (hd : 0 < d) (h : CT S I g n t) (hg : Grp n t iv) (hc : CR S I g 4 n (cls n t iv)) (ha : a < 2 ^ n) : z_ev d i_X1_isOfWholeClasses [.ref g, .int (nI a)] S I J (some (.int (nI (zb (∀ x, x < n → a.testBit x = true → zd (cls n t iv x) a = 0))))) S I J := by
  obtain ⟨d, rfl⟩ := z_dep hd
  have hn := h.le
  have ha31 := z_lt31 hn ha
  refine e_X1_isOfWholeClasses (b_X1_isOfWholeClasses_0 ?_)
  suffices H : ∀ k, k ≤ n → (∀ x, x < k → a.testBit x = true → zd (cls n t iv x) a = 0) → ∀ x2, x2 = nI k → Go d i_X1_isOfWholeClasses 2 [.ref g, .int (nI a), .int x2] [] S I J (z_eq (some (.int (nI (zb (∀ x, x < n → a.testBit x = true → zd (cls n t iv x) a = 0))))) S I J) from H 0 (by omega) (fun x hx => by omega) _ rfl
  refine z_up_to n ?_ ?_
  · rintro hall x2 rfl
    refine b_X1_isOfWholeClasses_2 h.1 (fun _ => b_X1_isOfWholeClasses_39 z_fit1 ⟨?_, rfl, rfl, rfl⟩) (fun c => absurd h.ge c)
    rw [zb_t hall]; rfl
  · rintro k hk ih hall x2 rfl
    refine b_X1_isOfWholeClasses_2 h.1 (fun c => absurd c (h.nge hk)) (fun _ => ?_)
    obtain ⟨k1, k2⟩ := hc.at hk (by omega)
    have hz := zd_lt (b := a) (cls_lt hg hk)
    refine b_X1_isOfWholeClasses_10 (fun c2 => b_X1_isOfWholeClasses_33 (ih (fun x hx q => ?_) _ (nI_1 k))) (fun c2 => b_X1_isOfWholeClasses_18 h.1 k1 (fun c3 => b_X1_isOfWholeClasses_33 (ih (fun x hx q => ?_) _ (nI_1 k))) (fun c3 => b_X1_isOfWholeClasses_31 z_fit0 ⟨?_, rfl, rfl, rfl⟩))
    · rw [z_bit0 ha31 (by omega)] at c2
      by_cases hxk : x = k
      · subst hxk; rw [c2] at q; cases q
      · exact hall x (by omega) q
    · rw [k2, z_andn, z_eq0 (z_lt31 hn hz)] at c3
      by_cases hxk : x = k
      · subst hxk; exact c3
      · exact hall x (by omega) q
    · rw [k2, z_andn, z_eq0 (z_lt31 hn hz)] at c3
      rw [z_bit0 ha31 (by omega), Bool.not_eq_false] at c2
      rw [zb_f (fun q => c3 (q k hk c2))]; rfl
theorem knd_zb (a : Nat) : knd n t iv a = 0 ∧ ¬ gen n t a = a ∨ knd n t iv a = 1 ∧ gen n t a = a ∧ ¬ (∀ x, x < n → a.testBit x = true → zd (cls n t iv x) a = 0) ∨ knd n t iv a = 2 ∧ gen n t a = a ∧ (∀ x, x < n → a.testBit x = true → zd (cls n t iv x) a = 0) := by
  unfold knd
  by_cases h1 : gen n t a = a
  · rw [if_pos h1]
    by_cases h2 : ∀ x, x < n → a.testBit x = true → zd (cls n t iv x) a = 0
    · rw [if_pos h2]; exact Or.inr (Or.inr ⟨rfl, h1, h2⟩)
    · rw [if_neg h2]; exact Or.inr (Or.inl ⟨rfl, h1, h2⟩)
  · rw [if_neg h1]; exact Or.inl ⟨rfl, h1⟩
theorem c_withInverses {a : Nat} (hd : 0 < d) (h : CT S I g n t) (hg : Grp n t iv) (hi : CR S I g 2 n iv) (ha : a < 2 ^ n) : z_ev d i_X1_withInverses [.ref g, .int (nI a)] S I J (some (.int (nI (a ||| zim (fun i => a.testBit i) iv n)))) S I J := by
  obtain ⟨d, rfl⟩ := z_dep hd
  have hn := h.le
  have ha31 := z_lt31 hn ha
  refine e_X1_withInverses (b_X1_withInverses_0 ?_)
  suffices H : ∀ k, k ≤ n → ∀ x2 x3, x2 = nI (a ||| zim (fun i => a.testBit i) iv k) → x3 = nI k → Go d i_X1_withInverses 4 [.ref g, .int (nI a), .int x2, .int x3] [] S I J (z_eq (some (.int (nI (a ||| zim (fun i => a.testBit i) iv n)))) S I J) by
    refine H 0 (by omega) _ _ ?_ rfl
    show nI a = nI (a ||| 0)
    rw [Nat.or_zero]
  refine z_up_to n ?_ ?_
  · rintro x2 x3 rfl rfl
    exact b_X1_withInverses_4 h.1 (fun _ => b_X1_withInverses_37 ⟨rfl, rfl, rfl, rfl⟩) (fun c => absurd h.ge c)
  · rintro k hk ih x2 x3 rfl rfl
    refine b_X1_withInverses_4 h.1 (fun c => absurd c (h.nge hk)) (fun _ => ?_)
    obtain ⟨k1, k2⟩ := hi.at hk (by omega)
    refine b_X1_withInverses_12 (fun c => b_X1_withInverses_31 (ih _ _ ?_ (nI_1 k))) (fun c => b_X1_withInverses_20 h.1 k1 (ih _ _ ?_ (nI_1 k)))
    · rw [z_bit0 ha31 (by omega)] at c
      rw [zim_f c]
    · rw [z_bit0 ha31 (by omega), Bool.not_eq_false] at c
      have := hg.il hk
      rw [k2, z_shl1 (by omega), z_or, zim_t c, Nat.or_assoc]
theorem c_centreOrder (hd : 0 < d) (h : CT S I g n t) (hg : Grp n t iv) (hc : CR S I g 4 n (cls n t iv)) : z_ev d i_X1_centreOrder [.ref g] S I J (some (.int (nI (ctr n t iv)))) S I J := by
  obtain ⟨d, rfl⟩ := z_dep hd
  have hn := h.le
  refine e_X1_centreOrder (b_X1_centreOrder_0 ?_)
  suffices H : ∀ k, k ≤ n → ∀ x1 x2, x1 = nI (zcn (fun x => cls n t iv x = 2 ^ x) k) → x2 = nI k → Go d i_X1_centreOrder 4 [.ref g, .int x1, .int x2] [] S I J (z_eq (some (.int (nI (ctr n t iv)))) S I J) from H 0 (by omega) _ _ rfl rfl
  refine z_up_to n ?_ ?_
  · rintro x1 x2 rfl rfl
    exact b_X1_centreOrder_4 h.1 (fun _ => b_X1_centreOrder_33 ⟨rfl, rfl, rfl, rfl⟩) (fun c => absurd h.ge c)
  · rintro k hk ih x1 x2 rfl rfl
    refine b_X1_centreOrder_4 h.1 (fun c => absurd c (h.nge hk)) (fun _ => ?_)
    obtain ⟨k1, k2⟩ := hc.at hk (by omega)
    have e : I (z_rv S g 4) (nI k).toNatClampNeg = 1 <<< (nI k &&& 31) ↔ cls n t iv k = 2 ^ k := by
      rw [k2, z_shl1 (by omega), nI_eq (z_lt31 hn (cls_lt hg hk)) (z_lt31 hn (z_pw hk))]
    refine b_X1_centreOrder_12 h.1 k1 (fun c => b_X1_centreOrder_27 (ih _ _ ?_ (nI_1 k))) (fun c => b_X1_centreOrder_24 (ih _ _ ?_ (nI_1 k)))
    · rw [e] at c; rw [zcn_f (p := fun x => cls n t iv x = 2 ^ x) c]
    · rw [e] at c; rw [zcn_t (p := fun x => cls n t iv x = 2 ^ x) c]; exact nI_1 _
theorem c_countClasses (hd : 0 < d) (h : CT S I g n t) (hg : Grp n t iv) (hc : CR S I g 4 n (cls n t iv)) : z_ev d i_X1_countClasses [.ref g] S I J (some (.int (nI (ncl n t iv)))) S I J := by
  obtain ⟨d, rfl⟩ := z_dep hd
  have hn := h.le
  refine e_X1_countClasses (b_X1_countClasses_0 ?_)
  suffices H : ∀ k, k ≤ n → ∀ x1 x2 v3, x1 = nI (zcn (fun x => cls n t iv x &&& (2 ^ x - 1) = 0) k) → x2 = nI k → Go d i_X1_countClasses 4 [.ref g, .int x1, .int x2, v3] [] S I J (z_eq (some (.int (nI (ncl n t iv)))) S I J) from H 0 (by omega) _ _ _ rfl rfl
  refine z_up_to n ?_ ?_
  · rintro x1 x2 v3 rfl rfl
    exact b_X1_countClasses_4 h.1 (fun _ => b_X1_countClasses_38 ⟨rfl, rfl, rfl, rfl⟩) (fun c => absurd h.ge c)
  · rintro k hk ih x1 x2 v3 rfl rfl
    refine b_X1_countClasses_4 h.1 (fun c => absurd c (h.nge hk)) (fun _ => ?_)
    obtain ⟨k1, k2⟩ := hc.at hk (by omega)
    have hp := Nat.two_pow_pos k
    have hl : cls n t iv k &&& (2 ^ k - 1) < 2 ^ 31 := Nat.lt_of_le_of_lt Nat.and_le_left (z_lt31 hn (cls_lt hg hk))
    have e : (I (z_rv S g 4) (nI k).toNatClampNeg) &&& ((1 <<< (nI k &&& 31)) - 1) = 0 ↔ cls n t iv k &&& (2 ^ k - 1) = 0 := by
      rw [k2, z_shl1 (by omega), z_lit 1, pk_sub (by omega), z_and, z_eq0 hl]
    refine b_X1_countClasses_12 h.1 k1 (fun c => b_X1_countClasses_32 (ih _ _ _ ?_ (nI_1 k))) (fun c => b_X1_countClasses_29 (ih _ _ _ ?_ (nI_1 k)))
    · rw [e] at c; rw [zcn_f (p := fun x => cls n t iv x &&& (2 ^ x - 1) = 0) c]
    · rw [e] at c; rw [zcn_t (p := fun x => cls n t iv x &&& (2 ^ x - 1) = 0) c]; exact nI_1 _
theorem c_derived (hd : 3 < d) (h : CT S I g n t) (hg : Grp n t iv) (hi : CR S I g 2 n iv) : z_ev d i_X1_derived [.ref g] S I J (some (.int (nI (gen n t (dset n t iv))))) S I J := by
  obtain ⟨d, rfl⟩ := z_dep (d := d) (by omega)
  have hn := h.le
  refine e_X1_derived (b_X1_derived_0 ?_)
  suffices H : ∀ k, k ≤ n → ∀ x1 x2 v3, x1 = nI (zset n (fun j => ∃ x y, x < n ∧ y < n ∧ t (t (iv x) (iv y)) (t x y) = j ∧ x < k)) → x2 = nI k → Go d i_X1_derived 4 [.ref g, .int x1, .int x2, v3] [] S I J (z_eq (some (.int (nI (gen n t (dset n t iv))))) S I J) by
    refine H 0 (by omega) _ _ _ ?_ rfl
    rw [zset_none (fun i _ ⟨x, y, _, _, _, h⟩ => by omega)]
    rfl
  refine z_up_to n ?_ ?_
  · rintro x1 x2 v3 rfl rfl
    refine b_X1_derived_4 h.1 (fun _ => ?_) (fun c => absurd h.ge c)
    have e2 : zset n (fun j => ∃ x y, x < n ∧ y < n ∧ t (t (iv x) (iv y)) (t x y) = j ∧ x < n) = dset n t iv := zset_congr (fun i _ => ⟨fun ⟨x, y, h1, h2, h3, _⟩ => ⟨x, y, h1, h2, h3⟩, fun ⟨x, y, h1, h2, h3⟩ => ⟨x, y, h1, h2, h3, h1⟩⟩)
    rw [e2]
    exact b_X1_derived_65 h.1 ⟨_, _, _, _, c_span (by omega) h (zset_lt _ _), b_X1_derived_70 ⟨rfl, rfl, rfl, rfl⟩⟩
  · rintro k hk ih x1 x2 v3 rfl rfl
    refine b_X1_derived_4 h.1 (fun c => absurd c (h.nge hk)) (fun _ => b_X1_derived_12 ?_)
    suffices H2 : ∀ l, l ≤ n → ∀ x1 x3, x1 = nI (zset n (fun j => ∃ x y, x < n ∧ y < n ∧ t (t (iv x) (iv y)) (t x y) = j ∧ (x < k ∨ (x = k ∧ y < l)))) → x3 = nI l → Go d i_X1_derived 14 [.ref g, .int x1, .int (nI k), .int x3] [] S I J (z_eq (some (.int (nI (gen n t (dset n t iv))))) S I J) by
      refine H2 0 (by omega) _ _ ?_ rfl
      exact congrArg nI (zset_congr (fun i _ => ⟨fun ⟨x, y, h1, h2, h3, h4⟩ => ⟨x, y, h1, h2, h3, Or.inl h4⟩, fun ⟨x, y, h1, h2, h3, h4⟩ => ⟨x, y, h1, h2, h3, by omega⟩⟩))
    refine z_up_to n ?_ ?_
    · rintro x1 x3 rfl rfl
      refine b_X1_derived_14 h.1 (fun _ => b_X1_derived_59 (ih _ _ _ ?_ (nI_1 k))) (fun c => absurd h.ge c)
      exact congrArg nI (zset_congr (fun i _ => ⟨fun ⟨x, y, h1, h2, h3, h4⟩ => ⟨x, y, h1, h2, h3, by omega⟩, fun ⟨x, y, h1, h2, h3, h4⟩ => ⟨x, y, h1, h2, h3, by omega⟩⟩))
    · rintro l hl ih2 x1 x3 rfl rfl
      refine b_X1_derived_14 h.1 (fun c => absurd c (h.nge hl)) (fun _ => ?_)
      obtain ⟨k1, k2⟩ := hi.at hk (by omega)
      obtain ⟨l1, l2⟩ := hi.at hl (by omega)
      have hik := hg.il hk
      have hil := hg.il hl
      have h1 := hg.lt hik hil
      have h2 := hg.lt hk hl
      have h3 := hg.lt h1 h2
      refine b_X1_derived_22 h.1 k1 h.1 l1 h.1 ⟨_, _, _, _, by rw [k2, l2]; exact c_times (by omega) h hik hil, ?_⟩
      refine b_X1_derived_41 h.1 ⟨_, _, _, _, c_times (by omega) h hk hl, ?_⟩
      refine b_X1_derived_47 h.1 ⟨_, _, _, _, c_times (by omega) h h1 h2, ?_⟩
      refine b_X1_derived_50 (ih2 _ _ ?_ (nI_1 l))
      rw [z_shl1 (by omega), z_or]
      refine congrArg nI (zset_add h3 (fun i _ => ⟨?_, ?_⟩)).symm
      · rintro ⟨x, y, q1, q2, q3, q4⟩
        by_cases hxy : x = k ∧ y = l
        · obtain ⟨rfl, rfl⟩ := hxy
          exact Or.inr q3.symm
        · exact Or.inl ⟨x, y, q1, q2, q3, by omega⟩
      · rintro (⟨x, y, q1, q2, q3, q4⟩ | rfl)
        · exact ⟨x, y, q1, q2, q3, by omega⟩
        · exact ⟨k, l, hk, hl, rfl, Or.inr ⟨rfl, by omega⟩⟩
end C2

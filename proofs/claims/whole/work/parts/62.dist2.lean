/-! PURE: spheres, one after another -/
/-- reached in fewer than k -/
noncomputable def sn (n : Nat) (E : Nat → Nat → Prop) (a k : Nat) : Nat := zset n (fun x => ∃ j, j < k ∧ rch n E a j x)
/-- reached in k, and in no fewer -/
noncomputable def op (n : Nat) (E : Nat → Nat → Prop) (a k : Nat) : Nat := zset n (fun x => rch n E a k x ∧ ∀ j, j < k → ¬ rch n E a j x)
/-- all to which arcs lead from a set -/
noncomputable def alo (n : Nat) (f : Nat → Nat) (a : Nat) : Nat := zset n (fun z => ∃ x, x < n ∧ a.testBit x = true ∧ (f x).testBit z = true)
noncomputable def dv (n : Nat) (E : Nat → Nat → Prop) (a k x : Nat) : Int32 := @ite _ (∃ j, j < k ∧ rch n E a j x) (Classical.propDecidable _) (fr n E a x) (-1)
section D2
variable {n : Nat} {E : Nat → Nat → Prop} {a : Nat}
theorem sn_lt (k : Nat) : sn n E a k < 2 ^ n := zset_lt _ _
theorem op_lt (k : Nat) : op n E a k < 2 ^ n := zset_lt _ _
theorem sn_0 : sn n E a 0 = 0 := zset_none (fun i _ ⟨j, h, _⟩ => by omega)
theorem op_0 (ha : a < n) : op n E a 0 = 2 ^ a := (zset_eq (z_pw ha) (fun i hi => by
  rw [b_pow]
  exact ⟨fun h => ⟨h, fun j hj => by omega⟩, fun h => h.1⟩)).symm
theorem sn_s (k : Nat) : sn n E a (k + 1) = sn n E a k ||| op n E a k := (zset_eq (z_or_lt (sn_lt k) (op_lt k)) (fun i hi => by
  rw [Nat.testBit_or, Bool.or_eq_true]
  unfold sn op
  rw [zset_bit, zset_bit]
  constructor
  · rintro (⟨_, j, h1, h2⟩ | ⟨_, h1, _⟩)
    · exact ⟨j, by omega, h2⟩
    · exact ⟨k, by omega, h1⟩
  · rintro ⟨j, h1, h2⟩
    rcases Classical.em (∃ j, j < k ∧ rch n E a j i) with q | q
    · exact Or.inl ⟨hi, q⟩
    · refine Or.inr ⟨hi, ?_, fun j' hj' r => q ⟨j', hj', r⟩⟩
      by_cases e : j = k
      · rw [← e]; exact h2
      · exact absurd ⟨j, by omega, h2⟩ q)).symm
theorem op_nx {f : Nat → Nat} (k : Nat) (hf : ∀ y, y < n → (op n E a k).testBit y = true → ∀ z, z < n → ((f y).testBit z = true ↔ E y z)) : zd (alo n f (op n E a k)) (sn n E a k ||| op n E a k) = op n E a (k + 1) := by
  refine zset_eq (zd_lt (zset_lt _ _)) (fun i hi => ?_)
  rw [zd_bit, Bool.and_eq_true, ← sn_s]
  unfold alo
  rw [zset_bit]
  constructor
  · rintro ⟨⟨_, y, h1, h2, h3⟩, h4⟩
    have h5 := (zset_bit _ _ _).mp h2
    refine ⟨⟨hi, y, h1, h5.2.1, (hf y h1 h2 i hi).mp h3⟩, fun j hj r => ?_⟩
    have h6 : (sn n E a (k + 1)).testBit i = true := (zset_bit _ _ _).mpr ⟨hi, j, hj, r⟩
    rw [h6] at h4
    cases h4
  · rintro ⟨⟨_, y, h1, h2, h3⟩, h4⟩
    have h5 : (op n E a k).testBit y = true := (zset_bit _ _ _).mpr ⟨h1, h2, fun j hj r => h4 (j + 1) (by omega) ⟨hi, y, h1, r, h3⟩⟩
    refine ⟨⟨hi, y, h1, h5, (hf y h1 h5 i hi).mpr h3⟩, ?_⟩
    cases h6 : (sn n E a (k + 1)).testBit i with
    | false => rfl
    | true =>
      obtain ⟨_, j, q1, q2⟩ := (zset_bit _ _ _).mp h6
      exact absurd q2 (h4 j q1)
theorem dv_0 {x : Nat} : dv n E a 0 x = -1 := if_neg (fun ⟨j, h, _⟩ => by omega)
theorem dv_t {k x : Nat} (h : (op n E a k).testBit x = true) : dv n E a (k + 1) x = nI k := by
  obtain ⟨_, h1, h2⟩ := (zset_bit _ _ _).mp h
  unfold dv
  rw [if_pos ⟨k, by omega, h1⟩]
  exact (fr_at h1 h2).1
theorem dv_f {k x : Nat} (hx : x < n) (h : (op n E a k).testBit x = false) : dv n E a (k + 1) x = dv n E a k x := by
  unfold dv
  by_cases q : ∃ j, j < k ∧ rch n E a j x
  · obtain ⟨j, q1, q2⟩ := q
    rw [if_pos ⟨j, by omega, q2⟩, if_pos ⟨j, q1, q2⟩]
  · rw [if_neg q, if_neg]
    rintro ⟨j, q1, q2⟩
    by_cases e : j = k
    · have : (op n E a k).testBit x = true := (zset_bit _ _ _).mpr ⟨hx, by rw [← e]; exact q2, fun j' hj' r => q ⟨j', hj', r⟩⟩
      rw [this] at h
      cases h
    · exact q ⟨j, by omega, q2⟩
theorem op_n (ha : a < n) : op n E a n = 0 := zset_none (fun i _ ⟨h1, h2⟩ => by
  have := rch_bound ha h1 h2
  omega)
theorem z_ne_bit {m n : Nat} (hm : m < 2 ^ n) (h : m ≠ 0) : ∃ i, i < n ∧ m.testBit i = true := by
  rcases Classical.em (∃ i, i < n ∧ m.testBit i = true) with q | q
  · exact q
  · exact absurd (z_ext hm (Nat.two_pow_pos n) (fun i hi => by
      rw [Nat.zero_testBit]
      cases hb : m.testBit i with
      | false => rfl
      | true => exact absurd ⟨i, hi, hb⟩ q)) h
theorem op_end (ha : a < n) {k : Nat} (h : op n E a k = 0) {m x : Nat} (hm : rch n E a m x) (hl : ∀ j, j < m → ¬ rch n E a j x) : m < k := by
  rcases Nat.lt_or_ge m k with q | q
  · exact q
  · obtain ⟨y, h1, h2⟩ := rch_way m x hm hl k q
    have : (op n E a k).testBit y = true := (zset_bit _ _ _).mpr ⟨rch_lt ha k y h1, h1, h2⟩
    rw [h, Nat.zero_testBit] at this
    cases this
theorem dv_end (ha : a < n) {k : Nat} (h : op n E a k = 0) (x : Nat) : dv n E a k x = fr n E a x := by
  rcases fr_ex (E := E) ha x with ⟨h1, h2⟩ | ⟨m, h1, h2, h3, h4⟩
  · rw [h1]
    exact if_neg (fun ⟨j, _, q⟩ => h2 ⟨j, q⟩)
  · exact if_pos ⟨m, op_end ha h h3 h4, h3⟩
end D2
/-! THE CLASS: how far it is from 0 -/
/-- a network's cells -/
def NK (S : zS) (w : Nat) : Prop := z_kd S w = 9 ∧ z_kd S (z_rv S w 5) = 100 ∧ z_ln S (z_rv S w 5) = 20 ∧ z_kd S (z_rv S w 6) = 100 ∧ z_ln S (z_rv S w 6) = 20 ∧ z_rv S w 5 ≠ z_rv S w 6
/-- a group's rows are none of a network's -/
def NG (S : zS) (w g : Nat) : Prop := z_rv S g 1 ≠ z_rv S w 5 ∧ z_rv S g 1 ≠ z_rv S w 6 ∧ z_rv S g 2 ≠ z_rv S w 5 ∧ z_rv S g 2 ≠ z_rv S w 6
/-- what may change when a network is measured -/
def NF (S : zS) (I0 I : zI) (w : Nat) : Prop := (∀ h, h ≠ w → h ≠ z_rv S w 5 → h ≠ z_rv S w 6 → I h = I0 h) ∧ ∀ k, k ≠ 7 → k ≠ 8 → I w k = I0 w k
def Msd (S : zS) (I : zI) (w n : Nat) (t : Nat → Nat → Nat) (st : Nat) : Prop := I w 8 = 1 ∧ (∀ x, x < n → I (z_rv S w 5) x = nI (zim (fun i => st.testBit i) (t x) n)) ∧ (∀ x, x < n → I (z_rv S w 6) x = fr n (arc n t st) 0 x) ∧ ∃ e, e < n ∧ I w 7 = nI e ∧ (∃ x, x < n ∧ fr n (arc n t st) 0 x = nI e) ∧ ∀ x, x < n → fr n (arc n t st) 0 x = -1 ∨ ∃ j, j ≤ e ∧ fr n (arc n t st) 0 x = nI j
section C10
variable {d w n st : Nat} {t : Nat → Nat → Nat} {iv : Nat → Nat} {S : zS} {I I0 : zI} {J : zJ}
theorem NK.d5 (h : NK S w) : w ≠ z_rv S w 5 := fun e => by have := h.2.1; rw [← e, h.1] at this; cases this
theorem NK.d6 (h : NK S w) : w ≠ z_rv S w 6 := fun e => by have := h.2.2.2.1; rw [← e, h.1] at this; cases this
theorem NF.refl : NF S I0 I0 w := ⟨fun _ _ _ _ => rfl, fun _ _ _ => rfl⟩
theorem NF.w5 {k : Nat} {v : Int32} (h : NF S I0 I w) (hN : NK S w) : NF S I0 (z_u2 I (z_rv S w 5) k v) w := ⟨fun a h1 h2 h3 => by rw [z_u2_row h2]; exact h.1 a h1 h2 h3, fun j h1 h2 => by rw [z_u2_row hN.d5]; exact h.2 j h1 h2⟩
theorem NF.w6 {k : Nat} {v : Int32} (h : NF S I0 I w) (hN : NK S w) : NF S I0 (z_u2 I (z_rv S w 6) k v) w := ⟨fun a h1 h2 h3 => by rw [z_u2_row h3]; exact h.1 a h1 h2 h3, fun j h1 h2 => by rw [z_u2_row hN.d6]; exact h.2 j h1 h2⟩
theorem NF.f {k : Nat} {v : Int32} (h : NF S I0 I w) (hk : k = 7 ∨ k = 8) : NF S I0 (z_u2 I w k v) w := ⟨fun a h1 h2 h3 => by rw [z_u2_row h1]; exact h.1 a h1 h2 h3, fun j h1 h2 => by rw [z_u2_nk (by omega)]; exact h.2 j h1 h2⟩
theorem NF.trans {I1 : zI} (h : NF S I0 I w) (h' : NF S I I1 w) : NF S I0 I1 w := ⟨fun a h1 h2 h3 => by rw [h'.1 a h1 h2 h3]; exact h.1 a h1 h2 h3, fun j h1 h2 => by rw [h'.2 j h1 h2]; exact h.2 j h1 h2⟩
theorem NF.ct {g : Nat} (h : NF S I0 I w) (hN : NK S w) (hG : NG S w g) (hC : CT S I0 g n t) : CT S I g n t := by
  have k1 := hC.1
  have k2 := hC.2.2.2.1
  refine hC.fr ?_ ?_
  · rw [h.1 g (fun e => by rw [e, hN.1] at k1; cases k1) (fun e => by rw [e, hN.2.1] at k1; cases k1) (fun e => by rw [e, hN.2.2.2.1] at k1; cases k1)]
  · exact h.1 _ (fun e => by rw [e, hN.1] at k2; cases k2) hG.1 hG.2.1
theorem c_along {a : Nat} {f : Nat → Nat} (hd : 0 < d) (hN : NK S w) (hC : CT S I (z_rv S w 0) n t) (ha : a < 2 ^ n) (hf : ∀ x, x < n → I (z_rv S w 5) x = nI (f x)) (hl : ∀ x, x < n → f x < 2 ^ n) : z_ev d i_X8_along [.ref w, .int (nI a)] S I J (some (.int (nI (alo n f a)))) S I J := by
  obtain ⟨d, rfl⟩ := z_dep hd
  have hn := hC.le
  have ha31 := z_lt31 hn ha
  refine e_X8_along (b_X8_along_0 ?_)
  suffices H : ∀ k, k ≤ n → ∀ x2 x3, x2 = nI (zset n (fun z => ∃ x, x < k ∧ a.testBit x = true ∧ (f x).testBit z = true)) → x3 = nI k → Go d i_X8_along 4 [.ref w, .int (nI a), .int x2, .int x3] [] S I J (z_eq (some (.int (nI (alo n f a)))) S I J) by
    refine H 0 (by omega) _ _ ?_ rfl
    rw [zset_none (fun i _ ⟨x, h, _⟩ => by omega)]
    rfl
  refine z_up_to n ?_ ?_
  · rintro x2 x3 rfl rfl
    exact b_X8_along_4 hN.1 hC.1 (fun _ => b_X8_along_38 ⟨rfl, rfl, rfl, rfl⟩) (fun c => absurd hC.ge c)
  · rintro k hk ih x2 x3 rfl rfl
    refine b_X8_along_4 hN.1 hC.1 (fun c => absurd c (hC.nge hk)) (fun _ => ?_)
    refine b_X8_along_15 (fun c => b_X8_along_32 (ih _ _ ?_ (nI_1 k))) (fun c => b_X8_along_23 hN.1 ⟨by rw [hN.2.1]; rfl, by rw [hN.2.2.1]; exact vp_in_nI (by omega) (by decide)⟩ (ih _ _ ?_ (nI_1 k)))
    · rw [z_bit0 ha31 (by omega)] at c
      refine congrArg nI (zset_congr (fun i _ => ⟨fun ⟨x, h1, h2⟩ => ⟨x, by omega, h2⟩, fun ⟨x, h1, h2⟩ => ⟨x, ?_, h2⟩⟩))
      by_cases e : x = k
      · rw [e, c] at h2; cases h2.1
      · omega
    · rw [z_bit0 ha31 (by omega), Bool.not_eq_false] at c
      rw [nI_clamp (by omega), hf k hk, z_or]
      refine congrArg nI (zset_eq (z_or_lt (zset_lt _ _) (hl k hk)) (fun i hi => ?_))
      rw [Nat.testBit_or, Bool.or_eq_true, zset_bit]
      constructor
      · rintro (⟨_, x, h1, h2⟩ | h)
        · exact ⟨x, by omega, h2⟩
        · exact ⟨k, by omega, c, h⟩
      · rintro ⟨x, h1, h2, h3⟩
        by_cases e : x = k
        · rw [e] at h3; exact Or.inr h3
        · exact Or.inl ⟨hi, x, by omega, h2, h3⟩
theorem arc_out (h0 : st.testBit 0 = false) {x z : Nat} : (zim (fun i => st.testBit i) (t x) n).testBit z = true ↔ arc n t st x z := by
  rw [zim_bit]
  constructor
  · rintro ⟨s, h1, h2, h3⟩
    refine ⟨s, h1, fun e => ?_, h2, h3⟩
    rw [e, h0] at h2; cases h2
  · rintro ⟨s, h1, _, h2, h3⟩
    exact ⟨s, h1, h2, h3⟩
def msQ (S : zS) (I0 : zI) (J : zJ) (w n : Nat) (t : Nat → Nat → Nat) (st : Nat) : zQ := fun v S' I' J' => v = none ∧ S' = S ∧ J' = J ∧ NF S I0 I' w ∧ Msd S I' w n t st
theorem c_measure0 (hd : 1 < d) (hN : NK S w) (hG : NG S w (z_rv S w 0)) (hC : CT S I0 (z_rv S w 0) n t) (hg : Grp n t iv) (hs : I0 w 1 = nI st) (hst : st < 2 ^ n) (h0 : st.testBit 0 = false) (hz : I0 w 8 = 0) : ∃ I', z_ev d i_X8_measure [.ref w] S I0 J none S I' J ∧ NF S I0 I' w ∧ Msd S I' w n t st := by
  obtain ⟨d, rfl⟩ := z_dep (d := d) (by omega)
  have hn := hC.le
  have hn0 := hg.pos
  have q5 : z_isI (z_kd S (z_rv S w 5)) = true := by rw [hN.2.1]; rfl
  have q6 : z_isI (z_kd S (z_rv S w 6)) = true := by rw [hN.2.2.2.1]; rfl
  suffices hw : z_wp (d + 1) i_X8_measure [.ref w] S I0 J (msQ S I0 J w n t st) by
    obtain ⟨v, S', I', J', x1, rfl, rfl, rfl, x2, x3⟩ := hw
    exact ⟨I', x1, x2, x3⟩
  refine w_X8_measure (b_X8_measure_0 hN.1 (fun _ => b_X8_measure_8 ?_) (fun c => absurd hz c))
  suffices H : ∀ k, k ≤ n → ∀ I x1 v2 v3 v4, NF S I0 I w → (∀ x, x < k → I (z_rv S w 5) x = nI (zim (fun i => st.testBit i) (t x) n)) → (∀ x, x < k → I (z_rv S w 6) x = -1) → x1 = nI k → Go d i_X8_measure 10 [.ref w, .int x1, v2, v3, v4] [] S I J (msQ S I0 J w n t st) from H 0 (by omega) I0 _ _ _ _ NF.refl (fun x hx => by omega) (fun x hx => by omega) rfl
  refine z_up_to n ?_ ?_
  · rintro I x1 v2 v3 v4 hF h5 h6 rfl
    refine b_X8_measure_10 hN.1 (hF.ct hN hG hC).1 (fun _ => b_X8_measure_52 ?_) (fun c => absurd (hF.ct hN hG hC).ge c)
    have fin : ∀ k, k ≤ n → op n (arc n t st) 0 k = 0 → ∀ I x1 x2 x3 v4, NF S I0 I w → (∀ x, x < n → I (z_rv S w 5) x = nI (zim (fun i => st.testBit i) (t x) n)) → (∀ x, x < n → I (z_rv S w 6) x = dv n (arc n t st) 0 k x) → (0 < k → I w 7 = nI (k - 1) ∧ op n (arc n t st) 0 (k - 1) ≠ 0) → Go d i_X8_measure 136 [.ref w, .int x1, .int x2, .int x3, v4] [] S I J (msQ S I0 J w n t st) := by
      intro k hk ho I x1 x2 x3 v4 hF h5 h6 h7
      have hk0 : 0 < k := by
        rcases Nat.eq_zero_or_pos k with e | e
        · rw [e, op_0 hn0] at ho
          cases ho
        · exact e
      obtain ⟨h7, h8⟩ := h7 hk0
      refine b_X8_measure_136 ⟨hN.1, Or.inr rfl⟩ ⟨rfl, rfl, rfl, hF.f (Or.inr rfl), z_u2_same, fun x hx => by rw [z_u2_row (fun e => hN.d5 e.symm)]; exact h5 x hx, fun x hx => by rw [z_u2_row (fun e => hN.d6 e.symm), h6 x hx]; exact dv_end hn0 ho x, k - 1, by omega, by rw [z_u2_nk (by decide)]; exact h7, ?_, fun x hx => ?_⟩
      · obtain ⟨y, y1, y2⟩ := z_ne_bit (op_lt _) h8
        obtain ⟨_, y3, y4⟩ := (zset_bit _ _ _).mp y2
        exact ⟨y, y1, (fr_at y3 y4).1⟩
      · rcases fr_ex (E := arc n t st) hn0 x with ⟨q1, _⟩ | ⟨m, q1, q2, q3, q4⟩
        · exact Or.inl q1
        · have := op_end hn0 ho q3 q4
          exact Or.inr ⟨m, by omega, q2⟩
    suffices H2 : ∀ k, k ≤ n → ∀ I x1 x2 x3 v4, NF S I0 I w → (∀ x, x < n → I (z_rv S w 5) x = nI (zim (fun i => st.testBit i) (t x) n)) → (∀ x, x < n → I (z_rv S w 6) x = dv n (arc n t st) 0 k x) → (0 < k → I w 7 = nI (k - 1) ∧ op n (arc n t st) 0 (k - 1) ≠ 0) → x1 = nI (sn n (arc n t st) 0 k) → x2 = nI (op n (arc n t st) 0 k) → x3 = nI k → Go d i_X8_measure 58 [.ref w, .int x1, .int x2, .int x3, v4] [] S I J (msQ S I0 J w n t st) by
      refine H2 0 (by omega) I _ _ _ _ hF h5 (fun x hx => by rw [dv_0]; exact h6 x hx) (fun q => by omega) (by rw [sn_0]; rfl) (by rw [op_0 hn0]; rfl) rfl
    refine z_up_to n ?_ ?_
    · rintro I x1 x2 x3 v4 hF h5 h6 h7 rfl rfl rfl
      exact b_X8_measure_58 hN.1 hC.1 (fun _ => fin n (Nat.le_refl _) (op_n hn0) I _ _ _ _ hF h5 h6 h7) (fun c => absurd (hF.ct hN hG hC).ge c)
    · rintro k hk ih I x1 x2 x3 v4 hF h5 h6 h7 rfl rfl rfl
      refine b_X8_measure_58 hN.1 hC.1 (fun c => absurd c ((hF.ct hN hG hC).nge hk)) (fun _ => ?_)
      have hol := z_lt31 hn (op_lt (n := n) (E := arc n t st) (a := 0) k)
      refine b_X8_measure_69 (fun c => fin k (by omega) ((z_eq0 hol).mp c) I _ _ _ _ hF h5 h6 h7) (fun c => b_X8_measure_73 ?_)
      have hne : op n (arc n t st) 0 k ≠ 0 := fun e => c ((z_eq0 hol).mpr e)
      suffices H3 : ∀ l, l ≤ n → ∀ I x4, NF S I0 I w → (∀ x, x < n → I (z_rv S w 5) x = nI (zim (fun i => st.testBit i) (t x) n)) → (∀ x, x < l → I (z_rv S w 6) x = dv n (arc n t st) 0 (k + 1) x) → (∀ x, l ≤ x → x < n → I (z_rv S w 6) x = dv n (arc n t st) 0 k x) → x4 = nI l → Go d i_X8_measure 76 [.ref w, .int (nI (sn n (arc n t st) 0 k)), .int (nI (op n (arc n t st) 0 k)), .int (nI k), .int x4] [] S I J (msQ S I0 J w n t st) from H3 0 (by omega) I _ hF h5 (fun x hx => by omega) (fun x _ hx => h6 x hx) rfl
      refine z_up_to n ?_ ?_
      · rintro I x4 hF h5 h6 _ rfl
        have hF1 : NF S I0 (z_u2 I w 7 (nI k)) w := hF.f (Or.inl rfl)
        have g5 : ∀ x, x < n → z_u2 I w 7 (nI k) (z_rv S w 5) x = nI (zim (fun i => st.testBit i) (t x) n) := fun x hx => by rw [z_u2_row (fun e => hN.d5 e.symm)]; exact h5 x hx
        refine b_X8_measure_76 hN.1 hC.1 (fun _ => b_X8_measure_111 hN.1 hN.1 ⟨_, _, _, _, c_along (by omega) hN (hF1.ct hN hG hC) (op_lt k) g5 (fun x hx => zim_lt (fun i hi _ => hg.lt hx hi)), b_X8_measure_125 (ih _ _ _ _ _ hF1 g5 (fun x hx => by rw [z_u2_row (fun e => hN.d6 e.symm)]; exact h6 x hx) (fun _ => ⟨z_u2_same, hne⟩) ?_ ?_ (nI_1 k))⟩) (fun c => absurd (hF.ct hN hG hC).ge c)
        · rw [z_or, sn_s]
        · rw [z_or, z_andn, op_nx k (fun y _ _ z _ => arc_out h0)]
      · rintro l hl ih3 I x4 hF h5 h6 h6' rfl
        refine b_X8_measure_76 hN.1 hC.1 (fun c => absurd c ((hF.ct hN hG hC).nge hl)) (fun _ => ?_)
        refine b_X8_measure_88 (fun c2 => b_X8_measure_105 (ih3 I _ hF h5 (fun x hx => ?_) (fun x hx => h6' x (by omega)) (nI_1 l))) (fun c2 => b_X8_measure_97 hN.1 (z_wr hN.2.2.2.1 hN.2.2.2.2.1 (by omega) (by decide)) (ih3 _ _ (hF.w6 hN) (fun x hx => by rw [z_u2_row hN.2.2.2.2.2]; exact h5 x hx) (fun x hx => ?_) (fun x hx hxn => ?_) (nI_1 l)))
        · rw [z_bit0 hol (by omega)] at c2
          by_cases e : x = l
          · rw [e, dv_f hl c2]; exact h6' l (Nat.le_refl _) hl
          · exact h6 x (by omega)
        · rw [z_bit0 hol (by omega), Bool.not_eq_false] at c2
          rw [nI_clamp (by omega)]
          by_cases e : x = l
          · rw [e, z_u2_same, dv_t c2]
          · rw [z_u2_nk e]; exact h6 x (by omega)
        · rw [nI_clamp (by omega), z_u2_nk (by omega)]
          exact h6' x (by omega) hxn
  · rintro k hk ih I x1 v2 v3 v4 hF h5 h6 rfl
    have hC' := hF.ct hN hG hC
    refine b_X8_measure_10 hN.1 hC.1 (fun c => absurd c (hC'.nge hk)) (fun _ => ?_)
    refine b_X8_measure_21 hN.1 hN.1 hN.1 hC.1 ⟨_, _, _, _, by rw [hF.2 1 (by decide) (by decide), hs]; exact c_shifted (by omega) hC' hk hst, ?_⟩
    refine b_X8_measure_38 (z_wr hN.2.1 hN.2.2.1 (by omega) (by decide)) hN.1 (z_wr hN.2.2.2.1 hN.2.2.2.2.1 (by omega) (by decide)) (ih _ _ _ _ _ ((hF.w5 hN).w6 hN) (fun x hx => ?_) (fun x hx => ?_) (nI_1 k))
    · rw [z_u2_row hN.2.2.2.2.2, nI_clamp (by omega)]
      by_cases e : x = k
      · rw [e, z_u2_same]
      · rw [z_u2_nk e]; exact h5 x (by omega)
    · rw [nI_clamp (by omega)]
      by_cases e : x = k
      · rw [e, z_u2_same]
      · rw [z_u2_nk e, z_u2_row (fun e => hN.2.2.2.2.2 e.symm)]; exact h6 x (by omega)
/-- measured already, or now -/
theorem c_measure (hd : 1 < d) (hN : NK S w) (hG : NG S w (z_rv S w 0)) (hC : CT S I0 (z_rv S w 0) n t) (hg : Grp n t iv) (hs : I0 w 1 = nI st) (hst : st < 2 ^ n) (h0 : st.testBit 0 = false) (hz : I0 w 8 = 0 ∨ Msd S I0 w n t st) : ∃ I', z_ev d i_X8_measure [.ref w] S I0 J none S I' J ∧ NF S I0 I' w ∧ Msd S I' w n t st := by
  rcases hz with hz | hz
  · exact c_measure0 hd hN hG hC hg hs hst h0 hz
  · obtain ⟨d, rfl⟩ := z_dep (d := d) (by omega)
    exact ⟨I0, e_X8_measure (b_X8_measure_0 hN.1 (fun c => absurd c (by rw [hz.1]; decide)) (fun _ => b_X8_measure_7 ⟨rfl, rfl, rfl, rfl⟩)), NF.refl, hz⟩
theorem c_distance {x y : Nat} (hd : 2 < d) (hN : NK S w) (hG : NG S w (z_rv S w 0)) (hC : CT S I0 (z_rv S w 0) n t) (hi : CR S I0 (z_rv S w 0) 2 n iv) (hg : Grp n t iv) (hs : I0 w 1 = nI st) (hst : st < 2 ^ n) (h0 : st.testBit 0 = false) (hz : I0 w 8 = 0 ∨ Msd S I0 w n t st) (hx : x < n) (hy : y < n) : ∃ I', z_ev d i_X8_distance [.ref w, .int (nI x), .int (nI y)] S I0 J (some (.int (fr n (arc n t st) 0 (t (iv x) y)))) S I' J ∧ NF S I0 I' w ∧ Msd S I' w n t st ∧ (Msd S I0 w n t st → I' = I0) := by
  obtain ⟨d, rfl⟩ := z_dep (d := d) (by omega)
  have hn := hC.le
  have key : ∃ I', z_ev d i_X8_measure [.ref w] S I0 J none S I' J ∧ NF S I0 I' w ∧ Msd S I' w n t st ∧ (Msd S I0 w n t st → I' = I0) := by
    by_cases hm : Msd S I0 w n t st
    · obtain ⟨d, rfl⟩ := z_dep (d := d) (by omega)
      exact ⟨I0, e_X8_measure (b_X8_measure_0 hN.1 (fun c => absurd c (by rw [hm.1]; decide)) (fun _ => b_X8_measure_7 ⟨rfl, rfl, rfl, rfl⟩)), NF.refl, hm, fun _ => rfl⟩
    · obtain ⟨I', a1, a2, a3⟩ := c_measure (d := d) (J := J) (by omega) hN hG hC hg hs hst h0 hz
      exact ⟨I', a1, a2, a3, fun q => absurd q hm⟩
  obtain ⟨I', a1, a2, a3, a4⟩ := key
  have hC' := a2.ct hN hG hC
  have ki := hi.1
  have hi' : CR S I' (z_rv S w 0) 2 n iv := hi.fr (a2.1 _ (fun e => by rw [e, hN.1] at ki; cases ki) hG.2.2.1 hG.2.2.2)
  obtain ⟨k1, k2⟩ := hi'.at hx (by omega)
  have ht := hg.lt (hg.il hx) hy
  refine ⟨I', e_X8_distance (b_X8_distance_0 hN.1 ⟨_, _, _, _, a1, ?_⟩), a2, a3, a4⟩
  refine b_X8_distance_4 hN.1 hN.1 hN.1 hC.1 k1 hC.1 ⟨_, _, _, _, by rw [k2]; exact c_times (by omega) hC' (hg.il hx) hy, ?_⟩
  refine b_X8_distance_25 ⟨by rw [hN.2.2.2.1]; rfl, by rw [hN.2.2.2.2.1]; exact vp_in_nI (by omega) (by decide)⟩ ⟨?_, rfl, rfl, rfl⟩
  rw [nI_clamp (by omega), a3.2.2.1 _ ht]
theorem c_deepest (hd : 2 < d) (hN : NK S w) (hG : NG S w (z_rv S w 0)) (hC : CT S I0 (z_rv S w 0) n t) (hg : Grp n t iv) (hs : I0 w 1 = nI st) (hst : st < 2 ^ n) (h0 : st.testBit 0 = false) (hz : I0 w 8 = 0 ∨ Msd S I0 w n t st) : ∃ I' e, z_ev d i_X8_deepest [.ref w] S I0 J (some (.int (nI e))) S I' J ∧ NF S I0 I' w ∧ Msd S I' w n t st ∧ e < n ∧ (∃ x, x < n ∧ fr n (arc n t st) 0 x = nI e) ∧ ∀ x, x < n → fr n (arc n t st) 0 x = -1 ∨ ∃ j, j ≤ e ∧ fr n (arc n t st) 0 x = nI j := by
  obtain ⟨d, rfl⟩ := z_dep (d := d) (by omega)
  obtain ⟨I', a1, a2, a3⟩ := c_measure (d := d) (J := J) (by omega) hN hG hC hg hs hst h0 hz
  obtain ⟨e, e1, e2, e3, e4⟩ := a3.2.2.2
  exact ⟨I', e, e_X8_deepest (b_X8_deepest_0 hN.1 ⟨_, _, _, _, a1, b_X8_deepest_4 hN.1 ⟨by rw [e2], rfl, rfl, rfl⟩⟩), a2, a3, e1, e3, e4⟩
theorem c_pointsAt {k : Int32} (hd : 2 < d) (hN : NK S w) (hG : NG S w (z_rv S w 0)) (hC : CT S I0 (z_rv S w 0) n t) (hg : Grp n t iv) (hs : I0 w 1 = nI st) (hst : st < 2 ^ n) (h0 : st.testBit 0 = false) (hz : I0 w 8 = 0 ∨ Msd S I0 w n t st) : ∃ I', z_ev d i_X8_pointsAt [.ref w, .int k] S I0 J (some (.int (nI (zcn (fun x => fr n (arc n t st) 0 x = k) n)))) S I' J ∧ NF S I0 I' w ∧ Msd S I' w n t st := by
  obtain ⟨d, rfl⟩ := z_dep (d := d) (by omega)
  have hn := hC.le
  obtain ⟨I', a1, a2, a3⟩ := c_measure (d := d) (J := J) (by omega) hN hG hC hg hs hst h0 hz
  have hC' := a2.ct hN hG hC
  refine ⟨I', e_X8_pointsAt (b_X8_pointsAt_0 hN.1 ⟨_, _, _, _, a1, b_X8_pointsAt_4 ?_⟩), a2, a3⟩
  suffices H : ∀ l, l ≤ n → ∀ x2 x3, x2 = nI (zcn (fun x => fr n (arc n t st) 0 x = k) l) → x3 = nI l → Go d i_X8_pointsAt 8 [.ref w, .int k, .int x2, .int x3] [] S I' J (z_eq (some (.int (nI (zcn (fun x => fr n (arc n t st) 0 x = k) n)))) S I' J) from H 0 (by omega) _ _ rfl rfl
  refine z_up_to n ?_ ?_
  · rintro x2 x3 rfl rfl
    exact b_X8_pointsAt_8 hN.1 hC.1 (fun _ => b_X8_pointsAt_38 ⟨rfl, rfl, rfl, rfl⟩) (fun c => absurd hC'.ge c)
  · rintro l hl ih x2 x3 rfl rfl
    refine b_X8_pointsAt_8 hN.1 hC.1 (fun c => absurd c (hC'.nge hl)) (fun _ => ?_)
    refine b_X8_pointsAt_19 hN.1 ⟨by rw [hN.2.2.2.1]; rfl, by rw [hN.2.2.2.2.1]; exact vp_in_nI (by omega) (by decide)⟩ (fun c => b_X8_pointsAt_32 (ih _ _ ?_ (nI_1 l))) (fun c => b_X8_pointsAt_29 (ih _ _ ?_ (nI_1 l)))
    · rw [nI_clamp (by omega), a3.2.2.1 l hl] at c
      rw [zcn_f (p := fun x => fr n (arc n t st) 0 x = k) c]
    · rw [nI_clamp (by omega), a3.2.2.1 l hl] at c
      rw [zcn_t (p := fun x => fr n (arc n t st) 0 x = k) c]
      exact nI_1 _
end C10

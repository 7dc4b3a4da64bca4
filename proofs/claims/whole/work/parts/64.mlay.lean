/-! THE MODEL: where its cells lie; what a call that only asks may change -/
def Ar (S : zS) (h k a kd ln : Nat) : Prop := z_rv S h k = a ∧ z_kd S a = kd ∧ z_ln S a = ln
def MLay (S : zS) (m : Nat) : Prop := z_kd S m = 13 ∧ Ar S m 0 (m + 1) 100 1995 ∧ Ar S m 2 (m + 2) 101 300 ∧ Ar S m 10 (m + 3) 100 12 ∧ Ar S m 12 (m + 4) 100 400 ∧ Ar S m 13 (m + 5) 100 1200 ∧ Ar S m 16 (m + 6) 100 8 ∧ Ar S m 18 (m + 7) 100 5328 ∧ Ar S m 20 (m + 8) 100 20 ∧ Ar S m 21 (m + 9) 100 20 ∧ Ar S m 22 (m + 10) 100 128 ∧ Ar S m 24 (m + 11) 100 400 ∧ Ar S m 25 (m + 12) 100 20 ∧ Ar S m 29 (m + 13) 100 40 ∧ Ar S m 30 (m + 14) 100 20 ∧ Ar S m 31 (m + 15) 100 20 ∧ Ar S m 32 (m + 16) 100 800
section L
variable {S : zS} {m : Nat}
theorem MLay.k (h : MLay S m) : z_kd S m = 13 := h.1
theorem MLay.a0 (h : MLay S m) : Ar S m 0 (m + 1) 100 1995 := h.2.1
theorem MLay.a2 (h : MLay S m) : Ar S m 2 (m + 2) 101 300 := h.2.2.1
theorem MLay.a10 (h : MLay S m) : Ar S m 10 (m + 3) 100 12 := h.2.2.2.1
theorem MLay.a12 (h : MLay S m) : Ar S m 12 (m + 4) 100 400 := h.2.2.2.2.1
theorem MLay.a13 (h : MLay S m) : Ar S m 13 (m + 5) 100 1200 := h.2.2.2.2.2.1
theorem MLay.a16 (h : MLay S m) : Ar S m 16 (m + 6) 100 8 := h.2.2.2.2.2.2.1
theorem MLay.a18 (h : MLay S m) : Ar S m 18 (m + 7) 100 5328 := h.2.2.2.2.2.2.2.1
theorem MLay.a20 (h : MLay S m) : Ar S m 20 (m + 8) 100 20 := h.2.2.2.2.2.2.2.2.1
theorem MLay.a21 (h : MLay S m) : Ar S m 21 (m + 9) 100 20 := h.2.2.2.2.2.2.2.2.2.1
theorem MLay.a22 (h : MLay S m) : Ar S m 22 (m + 10) 100 128 := h.2.2.2.2.2.2.2.2.2.2.1
theorem MLay.a24 (h : MLay S m) : Ar S m 24 (m + 11) 100 400 := h.2.2.2.2.2.2.2.2.2.2.2.1
theorem MLay.a25 (h : MLay S m) : Ar S m 25 (m + 12) 100 20 := h.2.2.2.2.2.2.2.2.2.2.2.2.1
theorem MLay.a29 (h : MLay S m) : Ar S m 29 (m + 13) 100 40 := h.2.2.2.2.2.2.2.2.2.2.2.2.2.1
theorem MLay.a30 (h : MLay S m) : Ar S m 30 (m + 14) 100 20 := h.2.2.2.2.2.2.2.2.2.2.2.2.2.2.1
theorem MLay.a31 (h : MLay S m) : Ar S m 31 (m + 15) 100 20 := h.2.2.2.2.2.2.2.2.2.2.2.2.2.2.2.1
theorem MLay.a32 (h : MLay S m) : Ar S m 32 (m + 16) 100 800 := h.2.2.2.2.2.2.2.2.2.2.2.2.2.2.2.2
theorem Ar.kd {h k a kd ln : Nat} (q : Ar S h k a kd ln) : z_kd S (z_rv S h k) = kd := by rw [q.1]; exact q.2.1
theorem Ar.ln {h k a kd l : Nat} (q : Ar S h k a kd l) : z_ln S (z_rv S h k) = l := by rw [q.1]; exact q.2.2
/-- reading, writing at a place -/
theorem Ar.rd {h k a l i : Nat} (q : Ar S h k a 100 l) (hi : i < l) (hl : l < 2 ^ 31) : z_isI (z_kd S (z_rv S h k)) = true ∧ vp_in (nI i) (z_ln S (z_rv S h k)) := ⟨by rw [q.kd]; rfl, by rw [q.ln]; exact vp_in_nI hi hl⟩
theorem Ar.wr {h k a l i : Nat} (q : Ar S h k a 100 l) (hi : i < l) (hl : l < 2 ^ 31) : z_kd S (z_rv S h k) = 100 ∧ vp_in (nI i) (z_ln S (z_rv S h k)) := ⟨q.kd, by rw [q.ln]; exact vp_in_nI hi hl⟩
theorem MLay.mk (h : MLay S m) : MK S m := ⟨h.k, h.a29.kd, h.a29.ln, h.a30.kd, h.a30.ln, by rw [h.a29.1, h.a30.1]; omega, by rw [h.a0.1, h.a29.1]; omega, by rw [h.a0.1, h.a30.1]; omega⟩
theorem MLay.ma (h : MLay S m) : MA S m := ⟨h.k, h.a0.kd, h.a0.ln⟩
end L
/-- a call that only asks -/
def MQy (I0 I : zI) (m : Nat) : Prop := (∀ h, h ≠ m → (h < m + 8 ∨ m + 16 < h) → I h = I0 h) ∧ ∀ k, k ≠ 1 → k < 20 → I m k = I0 m k
section Q
variable {S : zS} {I I0 I1 : zI} {m : Nat}
theorem MQy.refl : MQy I0 I0 m := ⟨fun _ _ _ => rfl, fun _ _ _ => rfl⟩
theorem MQy.trans (h : MQy I0 I m) (h' : MQy I I1 m) : MQy I0 I1 m := ⟨fun a h1 h2 => by rw [h'.1 a h1 h2]; exact h.1 a h1 h2, fun k h1 h2 => by rw [h'.2 k h1 h2]; exact h.2 k h1 h2⟩
theorem MQy.f {k : Nat} {v : Int32} (h : MQy I0 I m) (hk : k = 1 ∨ 20 ≤ k) : MQy I0 (z_u2 I m k v) m := ⟨fun a h1 h2 => by rw [z_u2_row h1]; exact h.1 a h1 h2, fun j h1 h2 => by rw [z_u2_nk (by omega)]; exact h.2 j h1 h2⟩
theorem MQy.w {a k : Nat} {v : Int32} (h : MQy I0 I m) (ha : m + 8 ≤ a) (ha2 : a ≤ m + 16) : MQy I0 (z_u2 I a k v) m := ⟨fun b h1 h2 => by rw [z_u2_row (by omega)]; exact h.1 b h1 h2, fun j h1 h2 => by rw [z_u2_row (by omega)]; exact h.2 j h1 h2⟩
theorem MQy.at0 (h : MQy I0 I m) (hL : MLay S m) : I (z_rv S m 0) = I0 (z_rv S m 0) := by rw [hL.a0.1]; exact h.1 _ (by omega) (by omega)
theorem MF.mq {b : Nat} (h : MF S I0 I m b) (hL : MLay S m) : MQy I0 I m := by
  have e1 := hL.a29.1
  have e2 := hL.a30.1
  refine ⟨fun a h1 h2 => h.1 a (by omega) (by omega), fun k _ _ => ?_⟩
  rw [h.1 m (by omega) (by omega)]
theorem MM.mq {N : Nat} {f : Nat → Nat} (h : MM S I0 I m N f) (hL : MLay S m) : MQy I0 I m := by
  have e1 := hL.a22.1
  exact ⟨fun a h1 h2 => h.1 a h1 (by omega), fun k _ h2 => h.2.1 k (by omega)⟩
end Q
/-- the two slots: how many, products, inverses, steps -/
def GS (N : Nat → Nat) (T : Nat → Nat → Nat → Nat) (V : Nat → Nat → Nat) (P : Nat → Nat) : Prop := ∀ s, s < 2 → Grp (N s) (T s) (V s) ∧ P s < 2 ^ N s ∧ (P s).testBit 0 = false
/-- the model holds them -/
def MSS (S : zS) (I : zI) (m : Nat) (N : Nat → Nat) (T : Nat → Nat → Nat → Nat) (P : Nat → Nat) : Prop := MLay S m ∧ ∀ s, s < 2 → MS S I m s (N s) (T s) ∧ I (z_rv S m 0) (665 * s + 1) = nI (P s)
theorem MSS.fr {S : zS} {I0 I : zI} {m : Nat} {N : Nat → Nat} {T : Nat → Nat → Nat → Nat} {P : Nat → Nat} (h : MSS S I0 m N T P) (hq : MQy I0 I m) : MSS S I m N T P := ⟨h.1, fun s hs => ⟨(h.2 s hs).1.fr (hq.at0 h.1), by rw [hq.at0 h.1]; exact (h.2 s hs).2⟩⟩
/-- one of n -/
def El (n : Nat) (x : Int32) : Prop := ∃ k, k < n ∧ x = nI k
theorem i64_le {x y : Int32} : x.toInt64 ≤ y.toInt64 ↔ x ≤ y := by
  rw [Int64.le_iff_toInt_le, Int32.toInt_toInt64, Int32.toInt_toInt64, Int32.le_iff_toInt_le]
theorem i64_lt {x y : Int32} : x.toInt64 < y.toInt64 ↔ x < y := by
  rw [Int64.lt_iff_toInt_lt, Int32.toInt_toInt64, Int32.toInt_toInt64, Int32.lt_iff_toInt_lt]
theorem El.iff {n : Nat} {x : Int32} (h0 : 0 < n) (hn : n < 2 ^ 31) : ((0 : Int32) ≤ x ∧ x ≤ nI (n - 1)) ↔ El n x := by
  constructor
  · rintro ⟨h1, h2⟩
    rw [Int32.le_iff_toInt_le] at h1 h2
    rw [nI_toInt (by omega)] at h2
    rcases pk_ix x hn with q | q | q
    · rw [Int32.lt_iff_toInt_lt] at q
      exact absurd h1 (by omega)
    · rw [Int32.le_iff_toInt_le, nI_toInt hn] at q
      omega
    · exact q
  · rintro ⟨k, h1, rfl⟩
    exact ⟨nI_pos' (by omega), nI_le (by omega) (by omega)⟩
theorem El.ge {n : Nat} {x : Int32} (hn : n < 2 ^ 31) : El n x ↔ ¬ x < 0 ∧ ¬ nI n ≤ x := by
  constructor
  · rintro ⟨k, h1, rfl⟩
    exact ⟨nI_pos (by omega), nI_ge h1 hn⟩
  · rintro ⟨h1, h2⟩
    rcases pk_ix x hn with q | q | q
    · exact absurd q h1
    · exact absurd q h2
    · exact q
section M7
variable {d m s : Nat} {N : Nat → Nat} {T : Nat → Nat → Nat → Nat} {V : Nat → Nat → Nat} {P : Nat → Nat} {S : zS} {I I0 : zI} {J : zJ}
theorem m_isIn {x a b : Int32} {w0 w1 w2 : Int64} (hd : 0 < d) (e0 : w0 = x.toInt64) (e1 : w1 = a.toInt64) (e2 : w2 = b.toInt64) : z_ev d i_X12_isIn [.long w0, .long w1, .long w2] S I J (some (.int (nI (zb (a ≤ x ∧ x ≤ b))))) S I J := by
  obtain ⟨d, rfl⟩ := z_dep hd
  subst e0 e1 e2
  refine e_X12_isIn (b_X12_isIn_0 (fun c => b_X12_isIn_17 z_fit0 ⟨?_, rfl, rfl, rfl⟩) (fun c => b_X12_isIn_6 (fun c2 => b_X12_isIn_17 z_fit0 ⟨?_, rfl, rfl, rfl⟩) (fun c2 => b_X12_isIn_13 z_fit1 ⟨?_, rfl, rfl, rfl⟩)))
  · rw [lg_cmp_lt, i64_lt, Int32.lt_iff_toInt_lt] at c
    rw [zb_f (fun ⟨h, _⟩ => by rw [Int32.le_iff_toInt_le] at h; omega)]; rfl
  · rw [lg_cmp_gt, i64_lt, Int32.lt_iff_toInt_lt] at c2
    rw [zb_f (fun ⟨_, h⟩ => by rw [Int32.le_iff_toInt_le] at h; omega)]; rfl
  · rw [lg_cmp_lt, i64_lt, Int32.lt_iff_toInt_lt] at c
    rw [lg_cmp_gt, i64_lt, Int32.lt_iff_toInt_lt] at c2
    rw [zb_t ⟨by rw [Int32.le_iff_toInt_le]; omega, by rw [Int32.le_iff_toInt_le]; omega⟩]; rfl
theorem z_fitz (p : Prop) : z_fit 3 (nI (zb p)) := by
  by_cases h : p
  · rw [zb_t h]; exact z_fit1
  · rw [zb_f h]; exact z_fit0
theorem m_isSlot (x : Int32) (hd : 1 < d) : z_ev d i_X12_isSlot [.int x] S I J (some (.int (nI (zb (El 2 x))))) S I J := by
  obtain ⟨d, rfl⟩ := z_dep (d := d) (by omega)
  refine e_X12_isSlot (b_X12_isSlot_0 ⟨_, _, _, _, m_isIn (x := x) (a := 0) (b := 1) (by omega) rfl rfl rfl, b_X12_isSlot_7 (z_fitz _) ⟨?_, rfl, rfl, rfl⟩⟩)
  exact z_some (zb_congr (El.iff (n := 2) (by decide) (by decide)))
theorem m_isElement (x1 x2 : Int32) (hd : 2 < d) (h : MSS S I m N T P) (hG : GS N T V P) : z_ev d i_X12_isElement [.ref m, .int x1, .int x2] S I J (some (.int (nI (zb (∃ s, s < 2 ∧ x1 = nI s ∧ El (N s) x2))))) S I J := by
  obtain ⟨d, rfl⟩ := z_dep (d := d) (by omega)
  refine e_X12_isElement (b_X12_isElement_0 ⟨_, _, _, _, m_isSlot x1 (by omega), ?_⟩)
  refine b_X12_isElement_4 (fun c => b_X12_isElement_28 z_fit0 ⟨?_, rfl, rfl, rfl⟩) (fun c => ?_)
  · rw [zb_0] at c
    rw [zb_f (fun ⟨s, h1, h2, _⟩ => c ⟨s, h1, h2⟩)]; rfl
  · rw [zb_1] at c
    obtain ⟨s, hs, rfl⟩ := c
    have hg := (hG s hs).1
    have hp := hg.pos
    have hn := hg.le
    refine b_X12_isElement_7 h.1.k ⟨_, _, _, _, m_many (by omega) (h.2 s hs).1, ?_⟩
    refine b_X12_isElement_15 ⟨_, _, _, _, m_isIn (x := x2) (a := 0) (b := nI (N s - 1)) (by omega) rfl rfl (by rw [z_lit 1, pk_sub (by omega)]), ?_⟩
    have e := El.iff (n := N s) (x := x2) hp (by omega)
    refine b_X12_isElement_21 (fun c => b_X12_isElement_28 z_fit0 ⟨?_, rfl, rfl, rfl⟩) (fun c => b_X12_isElement_24 z_fit1 ⟨?_, rfl, rfl, rfl⟩)
    · rw [zb_0, e] at c
      rw [zb_f]
      · rfl
      · rintro ⟨s', h1, h2, h3⟩
        rw [nI_eq (by omega) (by omega)] at h2
        subst h2
        exact c h3
    · rw [zb_1, e] at c
      rw [zb_t ⟨s, hs, rfl, c⟩]; rfl
theorem m_isSet (x : Int32) (hd : 1 < d) (h : MSS S I m N T P) (hG : GS N T V P) (hs : s < 2) : z_ev d i_X12_isSet [.ref m, .int (nI s), .int x] S I J (some (.int (nI (zb (El (2 ^ N s) x))))) S I J := by
  obtain ⟨d, rfl⟩ := z_dep (d := d) (by omega)
  have hn := (hG s hs).1.le
  have h2 : 2 ^ N s < 2 ^ 31 := Nat.pow_lt_pow_right (by decide) (by omega)
  have h3 := Nat.two_pow_pos (N s)
  refine e_X12_isSet (b_X12_isSet_0 h.1.k ⟨_, _, _, _, m_many (by omega) (h.2 s hs).1, ?_⟩)
  refine b_X12_isSet_9 ⟨_, _, _, _, m_isIn (x := x) (a := 0) (b := nI (2 ^ N s - 1)) (by omega) rfl rfl (by rw [z_shl1 (by omega), z_lit 1, pk_sub (by omega)]), b_X12_isSet_16 (z_fitz _) ⟨?_, rfl, rfl, rfl⟩⟩
  rw [zb_congr (El.iff h3 h2)]
end M7

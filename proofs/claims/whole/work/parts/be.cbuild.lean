/-! THE CLASS: products of all factors; names of a group that is built -/
section CB2
variable {d b i j k x y ln : Nat} {F : Nat → Nat × Nat} {S : zS} {I I0 I1 : zI} {J : zJ}
theorem tP_const : ∀ k i, (∀ j, j < i + k → FOk (F j).1 (F j).2) → nP F i = nP F (i + k) → ∀ x y, x < nP F i → y < nP F i → tP F (i + k) x y = tP F i x y := by
  intro k
  induction k with
  | zero => intro i _ _ x y _ _; rfl
  | succ k ih =>
    intro i hF he x y hx hy
    have m1 : nP F i ≤ nP F (i + k) := nP_mono (fun l hl => hF l (by omega)) (by omega)
    have m2 : nP F (i + k) ≤ nP F (i + (k + 1)) := nP_mono hF (by omega)
    have e : nP F i = nP F (i + k) := by omega
    have hg := fpr_gr (hF (i + k) (by omega))
    show tP F (i + k) (x % nP F (i + k)) (y % nP F (i + k)) + nP F (i + k) * fpr (F (i + k)).1 (F (i + k)).2 (x / nP F (i + k)) (y / nP F (i + k)) = _
    rw [← e, Nat.mod_eq_of_lt hx, Nat.mod_eq_of_lt hy, Nat.div_eq_of_lt hx, Nat.div_eq_of_lt hy, (hg.2.2.2.1 0 hg.1).1, Nat.mul_zero, Nat.add_zero]
    exact ih i (fun j hj => hF j (by omega)) e x y hx hy
theorem c_factorsProduct (hd : 3 < d) (hL : BL S b) (hE : EO S I) (h : BFs I b F ln) (hln : ln < 150) (hF : ∀ j, j < ln → FOk (F j).1 (F j).2) (hn : nP F ln ≤ 20) (hx : x < nP F ln) (hy : y < nP F ln) : z_ev d i_X2_factorsProduct [.ref b, .int (nI x), .int (nI y)] S I J (some (.int (nI (tP F ln x y)))) S I J := by
  obtain ⟨d, rfl⟩ := z_dep (d := d) (by omega)
  have l1 := hL.1
  have l4 := hL.2.2.2.1
  refine e_X2_factorsProduct (b_X2_factorsProduct_0 ?_)
  suffices H : ∀ i, i ≤ ln → ∀ v8, Go d i_X2_factorsProduct 14 [.ref b, .int (nI x), .int (nI y), .int (nI (x / nP F i)), .int (nI (y / nP F i)), .int (nI (nP F i)), .int (nI (tP F i (x % nP F i) (y % nP F i))), .int (nI i), v8] [] S I J (z_eq (some (.int (nI (tP F ln x y)))) S I J) by
    have := H 0 (by omega) (.retAddr 0)
    rw [show nP F 0 = 1 from rfl, Nat.div_one, Nat.div_one] at this
    exact this
  refine z_up_to ln ?_ ?_
  · intro v8
    refine b_X2_factorsProduct_14 l1 (fun _ => b_X2_factorsProduct_93 ⟨?_, rfl, rfl, rfl⟩) (fun z => absurd ?_ z)
    · rw [Nat.mod_eq_of_lt hx, Nat.mod_eq_of_lt hy]
    · rw [h.1]; exact nI_le (Nat.le_refl _) (by omega)
  · intro i hi ih v8
    have hFi := hF i hi
    obtain ⟨q1, q2, q3⟩ := h.2.2.2 i hi
    have hpos := (tP_gr (F := F) (i := i) (fun j hj => hF j (by omega))).1
    have hle : nP F i ≤ nP F ln := nP_mono hF (by omega)
    have hsz := fsz_le hFi
    have hs0 := fsz_pos hFi
    have hnx : nP F (i + 1) ≤ nP F ln := nP_mono hF (by omega)
    refine b_X2_factorsProduct_14 l1 (fun z => absurd z (by rw [h.1]; exact nI_ge hi (by omega))) (fun _ => b_X2_factorsProduct_23 l1 (fun z => b_X2_factorsProduct_93 ⟨?_, rfl, rfl, rfl⟩) (fun z => b_X2_factorsProduct_32 l1 (l4.rd (by omega) (by decide)) ?_))
    · rw [h.2.1, nI_leI (by omega) (by omega)] at z
      have e : nP F i = nP F ln := by omega
      obtain ⟨k, rfl⟩ := Nat.exists_eq_add_of_le (Nat.le_of_lt hi)
      rw [← e] at hx hy
      rw [Nat.mod_eq_of_lt hx, Nat.mod_eq_of_lt hy, tP_const k i hF e x y hx hy]
    · rw [l4.1, nI_clamp (by omega), q3]
      have hmx := j_max (d := d) (S := S) (I := I) (J := J) (a := 1) (b := fsz (F i).1 (F i).2) (by omega) (by decide) (by omega)
      rw [show max 1 (fsz (F i).1 (F i).2) = fsz (F i).1 (F i).2 from Nat.max_eq_right hs0] at hmx
      have n0 : ¬ nI (fsz (F i).1 (F i).2) = 0 := nI_ne0 hs0 (by omega)
      have hxd : x / nP F i ≤ x := Nat.div_le_self _ _
      have hyd : y / nP F i ≤ y := Nat.div_le_self _ _
      refine ⟨_, _, _, _, hmx, b_X2_factorsProduct_43 n0 n0 l1 ?_⟩
      rw [pk_rem (by omega) hs0 (by omega), pk_rem (by omega) hs0 (by omega)]
      refine ⟨_, _, _, _, c_factorProduct (by omega) hL hE h hi hln hFi (Nat.mod_lt _ hs0) (Nat.mod_lt _ hs0), b_X2_factorsProduct_64 n0 n0 ?_⟩
      rw [pk_div (by omega) hs0 (by omega), pk_div (by omega) hs0 (by omega), pk_mul, pk_mul, nI_add, nI_1, Nat.div_div_eq_div_mul, Nat.div_div_eq_div_mul]
      have := ih (.int (nI (fsz (F i).1 (F i).2)))
      have eN : nP F (i + 1) = nP F i * fsz (F i).1 (F i).2 := rfl
      have eT : tP F (i + 1) (x % nP F (i + 1)) (y % nP F (i + 1)) = tP F i (x % nP F i) (y % nP F i) + nP F i * fpr (F i).1 (F i).2 (x / nP F i % fsz (F i).1 (F i).2) (y / nP F i % fsz (F i).1 (F i).2) := by
        show tP F i (x % nP F (i + 1) % nP F i) (y % nP F (i + 1) % nP F i) + nP F i * fpr (F i).1 (F i).2 (x % nP F (i + 1) / nP F i) (y % nP F (i + 1) / nP F i) = _
        rw [eN, Nat.mod_mul_right_mod, Nat.mod_mul_right_mod, Nat.mod_mul_right_div_self, Nat.mod_mul_right_div_self]
      rw [eT, eN] at this
      exact this
end CB2
/-- one cell is made -/
theorem z_mk1 (S : zS) (kd l m : Nat) : ∃ S1, S1 = z_new S kd l m ∧ z_sz S1 = z_sz S + 1 ∧ z_ce S1 = z_ce S + 1 ∧ z_sl S1 = z_sl S + m ∧ (∀ y, y ≤ z_sz S → (z_kd S1 y = z_kd S y ∧ z_ln S1 y = z_ln S y) ∧ z_rv S1 y = z_rv S y) ∧ (z_kd S1 (z_sz S + 1) = kd ∧ z_ln S1 (z_sz S + 1) = l) ∧ ∀ j, z_rv S1 (z_sz S + 1) j = 0 := by
  refine ⟨_, rfl, rfl, rfl, rfl, fun y hy => ⟨⟨z_kd_nev (by omega), z_ln_nev (by omega)⟩, by funext j; exact z_rv_nev (by omega)⟩, ⟨z_kd_new, z_ln_new⟩, fun j => z_rv_new⟩
/-- what lies there already stays -/
def Old (S : zS) (I : zI) (J : zJ) (S' : zS) (I' : zI) (J' : zJ) : Prop := z_sz S ≤ z_sz S' ∧ ∀ y, y ≤ z_sz S → ((z_kd S' y = z_kd S y ∧ z_ln S' y = z_ln S y) ∧ z_rv S' y = z_rv S y) ∧ I' y = I y ∧ J' y = J y
section CB3
variable {d b : Nat} {S S1 S2 : zS} {I I1 I2 : zI} {J J1 J2 : zJ}
theorem Old.refl : Old S I J S I J := ⟨Nat.le_refl _, fun _ _ => ⟨⟨⟨rfl, rfl⟩, rfl⟩, rfl, rfl⟩⟩
theorem Old.trans (h : Old S I J S1 I1 J1) (h' : Old S1 I1 J1 S2 I2 J2) : Old S I J S2 I2 J2 := by
  refine ⟨Nat.le_trans h.1 h'.1, fun y hy => ?_⟩
  obtain ⟨⟨⟨a1, a2⟩, a3⟩, a4, a5⟩ := h.2 y hy
  obtain ⟨⟨⟨b1, b2⟩, b3⟩, b4, b5⟩ := h'.2 y (Nat.le_trans hy h.1)
  exact ⟨⟨⟨by rw [b1, a1], by rw [b2, a2]⟩, by rw [b3, a3]⟩, by rw [b4, a4], by rw [b5, a5]⟩
theorem Old.ar (h : Old S I J S1 I1 J1) {g k a kd l : Nat} (q : Ar S g k a kd l) (hg : g ≤ z_sz S) (ha : a ≤ z_sz S) : Ar S1 g k a kd l := ⟨by rw [(h.2 g hg).1.2]; exact q.1, by rw [(h.2 a ha).1.1.1]; exact q.2.1, by rw [(h.2 a ha).1.1.2]; exact q.2.2⟩
theorem BL.old (h : Old S I J S1 I1 J1) (q : BL S b) (hb : b + 5 ≤ z_sz S) : BL S1 b := ⟨by rw [(h.2 b (by omega)).1.1.1]; exact q.1, h.ar q.2.1 (by omega) (by omega), h.ar q.2.2.1 (by omega) (by omega), h.ar q.2.2.2.1 (by omega) (by omega), h.ar q.2.2.2.2.1 (by omega) (by omega), h.ar q.2.2.2.2.2 (by omega) (by omega)⟩
theorem EO.old (h : Old S I J S1 I1 J1) (q : EO S I) (h0 : z_rv S 0 20 ≤ z_sz S) : EO S1 I1 := by
  have e := (h.2 0 (by omega)).1.2
  unfold EO
  rw [e, (h.2 _ h0).1.1.1, (h.2 _ h0).1.1.2, (h.2 _ h0).2.1]; exact q
theorem BFs.old {F : Nat → Nat × Nat} {ln : Nat} (h : Old S I J S1 I1 J1) (q : BFs I b F ln) (hb : b + 5 ≤ z_sz S) : BFs I1 b F ln := by
  unfold BFs
  rw [(h.2 b (by omega)).2.1, (h.2 (b + 1) (by omega)).2.1, (h.2 (b + 2) (by omega)).2.1, (h.2 (b + 3) (by omega)).2.1]; exact q
theorem c_nminit {h r0 r1 : Nat} {dg : Int32} (hd : 0 < d) (h0 : h ≠ 0) (hk : z_kd S h = 7) : z_ev d i_X6_init [.ref h, .ref r0, .ref r1, .int dg] S I J none (z_setR (z_setR S h 0 r0) h 1 r1) (z_u2 I h 2 dg) J := by
  obtain ⟨d, rfl⟩ := z_dep hd
  exact e_X6_init (b_X6_init_0 h0 hk (b_X6_init_9 hk (b_X6_init_14 hk (b_X6_init_19 ⟨rfl, rfl, rfl, rfl⟩))))
/-- a row is copied, and names are made of it -/
theorem z_nmk {src len r0 r1 : Nat} {dg : Int32} (hs : src ≤ z_sz S) (hk : z_kd S src = 100) : ∃ S1 I1 J1, S1 = z_setR (z_setR (z_new (z_new S 100 len len) 7 0 3) (z_sz S + 2) 0 r0) (z_sz S + 2) 1 r1 ∧ I1 = z_u2 (z_ur (z_cp (z_ur I (z_sz S + 1) (fun _ => 0)) src (z_sz S + 1) 0 0 len) (z_sz S + 2) (fun _ => 0)) (z_sz S + 2) 2 dg ∧ J1 = z_ur J (z_sz S + 2) (fun _ => 0) ∧ Old S I J S1 I1 J1 ∧ z_sz S1 = z_sz S + 2 ∧ z_ce S1 = z_ce S + 2 ∧ z_sl S1 = z_sl S + len + 3 ∧ (z_kd S1 (z_sz S + 1) = 100 ∧ z_ln S1 (z_sz S + 1) = len ∧ ∀ i, i < len → I1 (z_sz S + 1) i = I src i) ∧ z_kd S1 (z_sz S + 2) = 7 ∧ z_rv S1 (z_sz S + 2) 0 = r0 ∧ z_rv S1 (z_sz S + 2) 1 = r1 ∧ I1 (z_sz S + 2) 2 = dg := by
  obtain ⟨S0, E0, a1, a2, a3, a4, a5, a6⟩ := z_mk1 S 100 len len
  obtain ⟨S2, E2, b1, b2, b3, b4, b5, b6⟩ := z_mk1 S0 7 0 3
  rw [← E0]
  rw [← E2]
  rw [a1] at b1 b4 b5 b6
  refine ⟨_, _, _, rfl, rfl, rfl, ⟨?_, fun y hy => ⟨⟨⟨?_, ?_⟩, ?_⟩, ?_, ?_⟩⟩, ?_, ?_, ?_, ⟨?_, ?_, fun i hi => ?_⟩, ?_, ?_, ?_, ?_⟩
  · show z_sz S ≤ z_sz S2; omega
  · show z_kd S2 y = _; rw [(b4 y (by omega)).1.1, (a4 y hy).1.1]
  · show z_ln S2 y = _; rw [(b4 y (by omega)).1.2, (a4 y hy).1.2]
  · rw [setR_ne (by omega), setR_ne (by omega), (b4 y (by omega)).2, (a4 y hy).2]
  · rw [z_u2_row (by omega), z_ur_row (by omega)]
    show z_ur _ (z_sz S + 1) _ y = _
    rw [z_ur_row (by omega), z_ur_row (by omega)]
  · rw [z_ur_row (by omega)]
  · show z_sz S2 = _; omega
  · show z_ce S2 = _; omega
  · show z_sl S2 = _; omega
  · show z_kd S2 _ = _; rw [(b4 _ (by omega)).1.1]; exact a5.1
  · show z_ln S2 _ = _; rw [(b4 _ (by omega)).1.2]; exact a5.2
  · rw [z_u2_row (by omega), z_ur_row (by omega)]
    show z_ur _ (z_sz S + 1) _ (z_sz S + 1) i = _
    rw [z_ur_same]
    show (if 0 ≤ i ∧ i < 0 + len then _ else _) = _
    rw [if_pos (by omega), show 0 + (i - 0) = i by omega, z_ur_row (by omega)]
  · show z_kd S2 _ = _; exact b5.1
  · rw [setR_nk (by decide), setR_at]
  · rw [setR_at]
  · rw [z_u2_same]
end CB3

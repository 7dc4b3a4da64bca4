/-! THE CLASS: rows are read, their products found -/
/-- the rows that are told -/
def BRs (I : zI) (b : Nat) (R : Nat → Nat → Nat) (cnt dg : Nat) : Prop := I b 6 = nI cnt ∧ (0 < cnt → I b 7 = nI dg) ∧ ∀ t, t < cnt → I (b + 4) t = nI (pck (R t) dg)
/-- the elements that are found -/
def BEs (I : zI) (b D : Nat) (s : Nat × (Nat → Nat → Nat)) : Prop := I b 4 = nI s.1 ∧ ∀ y, y < s.1 → I (b + 5) y = nI (pck (s.2 y) D)
section CW1
variable {d b L tp n q D T cnt dg x y : Nat} {B : Nat → Int32} {R : Nat → Nat → Nat} {r : Nat → Nat} {s : Nat × (Nat → Nat → Nat)} {S : zS} {I I0 I1 I2 : zI} {J : zJ}
theorem c_row (hd : 0 < d) (h : LXs S I L tp B n) (hq : LXq I L B n q) (hn2 : pts B n q = 2) : z_ev d i_X5_row [.ref L] S I J (some (.int (zq (RwOk B q (pte B n q)) (nI (pck (fun i => dvl B (q + i)) (pte B n q - q))) (-1)))) S I J := by
  obtain ⟨d, rfl⟩ := z_dep hd
  have hk := h.1
  have hn := h.2.2.1.2
  have c := pts_n.mp hn2
  have hgt := pte_gt (B := B) c.1
  have hle := pte_le (B := B) hq.1.1
  have hdg : ∀ j, q ≤ j → j < pte B n q → j < n ∧ Dgt (B j) := fun j h1 h2 => prn_in h1 (by rw [← pte_n c]; exact h2)
  obtain ⟨D, hD⟩ : ∃ D, D = pte B n q - q := ⟨_, rfl⟩
  obtain ⟨r, hr⟩ : ∃ r : Nat → Nat, r = fun i => dvl B (q + i) := ⟨_, rfl⟩
  have esub : I L 3 - I L 2 = nI D := by rw [hq.2.2.1, hq.2.1, pk_sub (by omega), hD]
  rw [← hD, ← hr]
  have no : ¬ RwOk B q (pte B n q) → ∀ {X : Int32}, zq (RwOk B q (pte B n q)) X (-1) = -1 := fun h {X} => zq_f h
  have end69 : ¬ RwOk B q (pte B n q) → ∀ x2 x3 x4 x5 : Int32, Go d i_X5_row 69 [.ref L, .int (nI D), .int x2, .int x3, .int x4, .int x5] [] S I J (z_eq (some (.int (zq (RwOk B q (pte B n q)) (nI (pck r D)) (-1)))) S I J) := fun h x2 x3 x4 x5 => b_X5_row_69 ⟨by rw [no h], rfl, rfl, rfl⟩
  refine e_X5_row (b_X5_row_0 hk hk (fun z => b_X5_row_21 ⟨?_, rfl, rfl, rfl⟩) (fun z => ?_))
  · rw [esub, z_lit 2, nI_ltI (by omega) (by decide)] at z
    rw [no (fun w => by have := w.1.1; omega)]
  · rw [esub, z_lit 2, nI_ltI (by omega) (by decide)] at z
    rw [esub]
    refine b_X5_row_15 (fun z2 => b_X5_row_23 hk ?_) (fun z2 => b_X5_row_21 ⟨?_, rfl, rfl, rfl⟩)
    · rw [z_lit 8, nI_leI (by omega) (by decide)] at z2
      rw [hq.2.1]
      suffices H : ∀ i, i ≤ D → (∀ j, j < i → r j < D) → (∀ j k, j < i → k < i → r j = r k → j = k) → ∀ v5 : Value, Go d i_X5_row 33 [.ref L, .int (nI D), .int (nI (pck r i)), .int (nI (zim (fun _ => true) r i)), .int (nI (q + i)), v5] [] S I J (z_eq (some (.int (zq (RwOk B q (pte B n q)) (nI (pck r D)) (-1)))) S I J) from H 0 (by omega) (fun j hj => by omega) (fun j k hj => by omega) _
      refine z_up_to D ?_ ?_
      · intro g1 g2 v5
        refine b_X5_row_33 hk (fun _ => b_X5_row_91 ⟨?_, rfl, rfl, rfl⟩) (fun w => absurd ?_ w)
        · have ok : RwOk B q (pte B n q) := ⟨by omega, by rw [← hD, ← hr]; exact ⟨g1, fun i j hi hj e => g2 i j hi hj e⟩⟩
          rw [zq_t ok]
        · rw [hq.2.2.1]; exact nI_le (by omega) (by omega)
      · intro i hi ih g1 g2 v5
        obtain ⟨s1, s2⟩ := hdg (q + i) (by omega) (by omega)
        obtain ⟨s3, s4⟩ := dvl_lt s2
        obtain ⟨r1, r2⟩ := h.rd (v := nI (q + i)) rfl s1
        have ri : r i < 10 := by rw [hr]; exact s3
        have ev : I (z_rv S L 0) (Int32.toNatClampNeg (nI (q + i))) - 48 = nI (r i) := by rw [r2, s4, z_lit 48, pk_sub (by omega), hr, show 48 + dvl B (q + i) - 48 = dvl B (q + i) by omega]
        have hz : zim (fun _ => true) r i < 2 ^ D := zim_lt (fun j hj _ => g1 j hj)
        have hp2 : 2 ^ D ≤ 2 ^ 8 := Nat.pow_le_pow_right (by decide) z2
        have hpk : pck r i < 8 ^ i := pck_lt i (fun j hj => by have := g1 j hj; omega)
        have h7 : (8 : Nat) ^ i ≤ 8 ^ 7 := Nat.pow_le_pow_right (by decide) (by omega)
        have h77 : (8 : Nat) ^ 7 = 2 ^ 21 := by decide
        refine b_X5_row_33 hk (fun w => ?_) (fun _ => b_X5_row_42 hk r1 (fun w => ?_) (fun w => ?_))
        · rw [hq.2.2.1, nI_leI (by omega) (by omega)] at w; omega
        · rw [ev, nI_leI (by omega) (by omega)] at w
          refine end69 (fun u => ?_) _ _ _ _
          have u2 := u.2
          rw [← hD, ← hr] at u2
          have := u2.1 i hi
          omega
        · rw [ev, nI_leI (by omega) (by omega)] at w
          rw [ev]
          refine b_X5_row_60 (fun u => b_X5_row_71 ?_) (fun u => ?_)
          · rw [z_bit0 (by omega) (by omega)] at u
            have e5 : nI (pck r i) <<< ((3 : Int32) &&& 31) = nI (pck r i * 2 ^ 3) := z_shl (x := 3) (by decide) (by omega)
            rw [e5, z_or, or8 (by omega), z_shl1 (by omega), z_or, nI_1]
            have nb : ∀ j, j < i → r j ≠ r i := fun j hj e => by
              have : (zim (fun _ => true) r i).testBit (r i) = true := by rw [zim_bit]; exact ⟨j, hj, rfl, e⟩
              rw [this] at u; cases u
            have := ih (fun j hj => by
              rcases (show j < i ∨ j = i by omega) with e | e
              · exact g1 j e
              · rw [e]; omega) (fun j k hj hk e => by
              rcases (show j < i ∨ j = i by omega) with e1 | e1
              · rcases (show k < i ∨ k = i by omega) with e2 | e2
                · exact g2 j k e1 e2 e
                · rw [e2] at e; exact absurd e (nb j e1)
              · rcases (show k < i ∨ k = i by omega) with e2 | e2
                · rw [e1] at e; exact absurd e.symm (nb k e2)
                · omega) (.int (nI (r i)))
            rw [zim_t (p := fun _ => true) rfl] at this
            exact this
          · rw [z_bit0 (by omega) (by omega), Bool.not_eq_false, zim_bit] at u
            obtain ⟨j, hj, _, e⟩ := u
            refine end69 (fun w2 => ?_) _ _ _ _
            have w3 := w2.2
            rw [← hD, ← hr] at w3
            have := w3.2 j i (by omega) hi e
            omega
    · rw [z_lit 8, nI_leI (by omega) (by decide)] at z2
      rw [no (fun w => by have := w.1.2; omega)]
theorem c_addRow (hd : 0 < d) (hL : BL S b) (h : BRs I0 b R cnt dg) (hc : cnt < 150) (hD : D ≤ 8) (hdg : 0 < cnt → dg ≤ 8) : ∃ I', z_ev d i_X2_addRow [.ref b, .int (nI (pck r D)), .int (nI D)] S I0 J (some (.int (nI (zb (cnt = 0 ∨ D = dg))))) S I' J ∧ (∀ h, h ≠ b → h ≠ b + 4 → I' h = I0 h) ∧ ((cnt = 0 ∨ D = dg) → BRs I' b (rup R cnt r) (cnt + 1) D) := by
  obtain ⟨d, rfl⟩ := z_dep hd
  obtain ⟨l1, l2, l3, l4, l5, l6⟩ := hL
  obtain ⟨h1, h2, h3⟩ := h
  -- the row is put
  have put : (cnt = 0 ∨ D = dg) → ∀ I1 : zI, (∀ y, y ≠ b → I1 y = I0 y) → I1 b 6 = nI cnt → I1 b 7 = nI D → ∃ I', Go d i_X2_addRow 20 [.ref b, .int (nI (pck r D)), .int (nI D)] [] S I1 J (z_eq (some (.int 1)) S I' J) ∧ (∀ h, h ≠ b → h ≠ b + 4 → I' h = I0 h) ∧ BRs I' b (rup R cnt r) (cnt + 1) D := fun hor I1 g1 g2 g3 => by
    refine ⟨z_u2 (z_u2 I1 (b + 4) cnt (nI (pck r D))) b 6 (nI (cnt + 1)), ?_, fun y a1 a2 => by rw [z_u2_row a1, z_u2_row a2]; exact g1 y a1, by rw [z_u2_same], fun _ => by rw [z_u2_nk (by decide), z_u2_row (by omega)]; exact g3, fun t ht => ?_⟩
    · refine b_X2_addRow_20 l1 l1 (by rw [l5.kd]; rfl) (fun _ => b_X2_addRow_34 l1 l1 (by rw [g2]; exact l5.wr hc (by decide)) l1 l1 rfl z_fit1 ⟨rfl, rfl, ?_, rfl⟩) (fun z => absurd ?_ z)
      · rw [g2, nI_clamp (by omega), l5.1, z_u2_ne (show b ≠ b + 4 by omega), g2, nI_1]
      · rw [l5.ln, g2]; exact nI_lt hc (by decide)
    · rw [z_u2_row (by omega)]
      unfold rup
      by_cases e : t = cnt
      · rw [if_pos e, e, z_u2_same]
      · rw [if_neg e, z_u2_nk e, g1 _ (by omega)]
        have : D = dg := by omega
        rw [this]; exact h3 t (by omega)
  by_cases c0 : cnt = 0
  · obtain ⟨I', p1, p2, p3⟩ := put (Or.inl c0) (z_u2 I0 b 7 (nI D)) (fun y hy => z_u2_row hy) (by rw [z_u2_nk (by decide)]; exact h1) z_u2_same
    rw [zb_t (Or.inl c0)]
    exact ⟨I', e_X2_addRow (b_X2_addRow_0 l1 (fun z => absurd (by rw [h1, c0]; rfl) z) (fun _ => b_X2_addRow_7 l1 l1 (fun z => absurd z_u2_same.symm z) (fun _ => p1))), p2, fun _ => p3⟩
  · have hd8 := hdg (by omega)
    have n6 : ¬ I0 b 6 = 0 := by rw [h1]; exact nI_ne0 (by omega) (by omega)
    have h7 := h2 (by omega)
    by_cases e : D = dg
    · obtain ⟨I', p1, p2, p3⟩ := put (Or.inr e) I0 (fun _ _ => rfl) h1 (by rw [h7, e])
      rw [zb_t (Or.inr e)]
      exact ⟨I', e_X2_addRow (b_X2_addRow_0 l1 (fun _ => b_X2_addRow_12 l1 (fun z => absurd (by rw [h7, e]) z) (fun _ => p1)) (fun z => absurd z n6)), p2, fun _ => p3⟩
    · rw [zb_f (fun w => by omega)]
      refine ⟨I0, e_X2_addRow (b_X2_addRow_0 l1 (fun _ => b_X2_addRow_12 l1 (fun _ => b_X2_addRow_32 z_fit0 ⟨rfl, rfl, rfl, rfl⟩) (fun z => absurd ?_ e)) (fun z => absurd z n6)), fun _ _ _ => rfl, fun w => absurd w (by omega)⟩
      rw [h7, nI_eq (by omega) (by omega)] at z; exact z
theorem pck_iff (hD : D ≤ 8) {r r' : Nat → Nat} (h1 : ∀ i, i < D → r i < 8) (h2 : ∀ i, i < D → r' i < 8) : nI (pck r D) = nI (pck r' D) ↔ ∀ i, i < D → r i = r' i := by
  have a := pck_31 hD h1
  have b := pck_31 hD h2
  rw [nI_eq (by omega) (by omega)]
  exact ⟨fun e => pck_inj h1 h2 e, fun e => pck_cg D e⟩
/-- an order among the elements -/
theorem c_find (hd : 0 < d) (hL : BL S b) (hD : D ≤ 8) (hE : BEs I b D s) (hs : s.1 ≤ 20) (hp : ∀ y i, y < s.1 → i < D → s.2 y i < 8) (hr : ∀ i, i < D → r i < 8) : z_ev d i_X11_indexOf [.ref (b + 5), .int (nI s.1), .int (nI (pck r D))] S I J (some (.int (zq (∃ y, y < s.1 ∧ ∀ i, i < D → s.2 y i = r i) (nI (zleast (fun y => y < s.1 ∧ ∀ i, i < D → s.2 y i = r i))) (-1)))) S I J := by
  have l6 := hL.2.2.2.2.2
  have e := c_indexOf (d := d) (S := S) (I := I) (J := J) (h := b + 5) (N := s.1) (v := nI (pck r D)) (f := fun y => nI (pck (s.2 y) D)) hd (by rw [l6.2.1]; rfl) (by rw [l6.2.2]; omega) (by rw [l6.2.2]; decide) hE.2
  have ep : (fun y => y < s.1 ∧ nI (pck (s.2 y) D) = nI (pck r D)) = fun y => y < s.1 ∧ ∀ i, i < D → s.2 y i = r i := by
    funext y
    exact propext ⟨fun w => ⟨w.1, (pck_iff hD (fun i hi => hp y i w.1 hi) hr).mp w.2⟩, fun w => ⟨w.1, (pck_iff hD (fun i hi => hp y i w.1 hi) hr).mpr w.2⟩⟩
  have ee : (∃ y, y < s.1 ∧ nI (pck (s.2 y) D) = nI (pck r D)) = ∃ y, y < s.1 ∧ ∀ i, i < D → s.2 y i = r i := congrArg (fun p : Nat → Prop => ∃ y, p y) ep
  rw [ep] at e
  exact e
theorem c_rowProduct (hd : 1 < d) (hL : BL S b) (hD : 0 < D ∧ D ≤ 8) (h7 : I b 7 = nI D) (hR : ∀ t, t < T → Prm D (R t)) (hc : clo D R T = some s) (hE : BEs I b D s) (hx : x < s.1) (hy : y < s.1) : z_ev d i_X2_rowProduct [.ref b, .int (nI x), .int (nI y)] S I J (some (.int (nI (rtb D s x y)))) S I J := by
  obtain ⟨d, rfl⟩ := z_dep (d := d) (by omega)
  obtain ⟨⟨hs1, hs2, _⟩, _⟩ := clo_ok hR hc
  have l1 := hL.1
  have l6 := hL.2.2.2.2.2
  have hp8 : ∀ y i, y < s.1 → i < D → s.2 y i < 8 := fun y i hy hi => by have := (hs2 y hy).1 i hi; omega
  have hlt := (rtb_ok hR hc hx hy).1
  refine e_X2_rowProduct (b_X2_rowProduct_0 l1 (l6.rd (by omega) (by decide)) l1 (l6.rd (by omega) (by decide)) l1 ?_)
  rw [l6.1, nI_clamp (by omega), nI_clamp (by omega), hE.2 x hx, hE.2 y hy, h7]
  refine ⟨_, _, _, _, c_firstThen (by omega) hD.2 hD.1 (hs2 x hx).1 (hs2 y hy).1, b_X2_rowProduct_19 l1 l1 ?_⟩
  rw [l6.1, hE.1]
  have fnd := c_find (d := d) (J := J) (r := fun i => s.2 y (s.2 x i)) (by omega) hL hD.2 hE (by omega) hp8 (fun i hi => hp8 _ _ hy ((hs2 x hx).1 i hi))
  rw [zq_t (clo_mul hR hc hx hy)] at fnd
  have hm := j_max (d := d) (S := S) (I := I) (J := J) (a := 0) (b := rtb D s x y) (by omega) (by decide) (by omega)
  rw [Nat.max_eq_right (Nat.zero_le _)] at hm
  exact ⟨_, _, _, _, fnd, b_X2_rowProduct_33 ⟨_, _, _, _, hm, b_X2_rowProduct_36 ⟨rfl, rfl, rfl, rfl⟩⟩⟩
theorem pck_idn : ∀ i, i < 8 → pck (fun i => i) i < 2 ^ 21 := by decide
theorem c_findElements (hd : 1 < d) (hL : BL S b) (hD : 0 < D ∧ D ≤ 8) (h : BRs I0 b R T D) (hT : 0 < T ∧ T ≤ 100) (hR : ∀ t, t < T → Prm D (R t)) : ∃ I' v, z_ev d i_X2_findElements [.ref b] S I0 J (some (.int v)) S I' J ∧ (∀ h, h ≠ b → h ≠ b + 5 → I' h = I0 h) ∧ (∀ k, k ≠ 4 → I' b k = I0 b k) ∧ (clo D R T = none → v = 0) ∧ ∀ s, clo D R T = some s → v = 1 ∧ BEs I' b D s := by
  obtain ⟨d, rfl⟩ := z_dep (d := d) (by omega)
  have hL' := hL
  obtain ⟨l1, l2, l3, l4, l5, l6⟩ := hL
  obtain ⟨h1, h2, h3⟩ := h
  have h7 := h2 hT.1
  obtain ⟨Q, hQ⟩ : ∃ Q : zQ, Q = fun w S' I' J' => S' = S ∧ J' = J ∧ (∀ h, h ≠ b → h ≠ b + 5 → I' h = I0 h) ∧ (∀ k, k ≠ 4 → I' b k = I0 b k) ∧ (clo D R T = none → w = some (.int 0)) ∧ (∀ s, clo D R T = some s → w = some (.int 1) ∧ BEs I' b D s) ∧ ∃ v, w = some (.int v) := ⟨_, rfl⟩
  suffices hw : z_wp (d + 1) i_X2_findElements [.ref b] S I0 J Q by
    rw [hQ] at hw
    obtain ⟨w, S', I', J', x1, rfl, rfl, x2, x3, x4, x5, v, rfl⟩ := hw
    refine ⟨I', v, x1, x2, x3, fun c => ?_, fun s c => ?_⟩
    · have y1 := x4 c
      injection y1 with y1; injection y1
    · obtain ⟨y1, y2⟩ := x5 s c
      exact ⟨by injection y1 with y1; injection y1, y2⟩
  have c0 : Int32.toNatClampNeg (0 : Int32) = 0 := by decide
  have w0 : z_kd S (z_rv S b 8) = 100 ∧ vp_in (0 : Int32) (z_ln S (z_rv S b 8)) := l6.wr (i := 0) (by decide) (by decide)
  have r0 : z_isI (z_kd S (z_rv S b 8)) = true ∧ vp_in (0 : Int32) (z_ln S (z_rv S b 8)) := l6.rd (i := 0) (by decide) (by decide)
  refine w_X2_findElements (b_X2_findElements_0 l1 w0 ?_)
  rw [c0, l6.1]
  -- the places in their order
  suffices H : ∀ i, i ≤ D → ∀ (I1 : zI) (v2 v3 : Value), (∀ h, h ≠ b + 5 → I1 h = I0 h) → I1 (b + 5) 0 = nI (pck (fun i => i) i) → Go d i_X2_findElements 9 [.ref b, .int (nI i), v2, v3] [] S I1 J Q from H 0 (by omega) _ _ _ (fun y hy => z_u2_row hy) (by rw [z_u2_same]; rfl)
  refine z_up_to D ?_ ?_
  · intro I1 v2 v3 g1 g2
    refine b_X2_findElements_9 l1 (fun _ => b_X2_findElements_39 l1 ?_) (fun z => absurd ?_ z)
    · -- the elements
      suffices HH : ∀ f x s, x + f = 21 → CI D R T s → x ≤ s.1 → (∀ y, y < x → CD D R s y T) → clo D R T = cou D R T f s x → ∀ (I2 : zI) (v2 v3 : Value), (∀ h, h ≠ b → h ≠ b + 5 → I2 h = I0 h) → (∀ k, k ≠ 4 → I2 b k = I0 b k) → BEs I2 b D s → Go d i_X2_findElements 46 [.ref b, .int (nI x), v2, v3] [] S I2 J Q from HH 21 0 (1, fun _ i => i) (by omega) ⟨⟨Nat.le_refl _, by decide⟩, fun y hy => ⟨fun i hi => hi, fun i j _ _ q => q⟩, fun i hi => rfl, fun y z hy hz _ => by have hy : y < 1 := hy; have hz : z < 1 := hz; omega, fun y hy h0 => by have hy : y < 1 := hy; omega⟩ (by omega) (fun y hy => by omega) rfl _ _ _ (fun y a1 a2 => by rw [z_u2_row a1]; exact g1 y a2) (fun k hk => by rw [z_u2_nk hk, g1 b (by omega)]) ⟨z_u2_same, fun y hy => by
        have hy : y < 1 := hy
        rw [show y = 0 by omega, z_u2_row (by omega)]; exact g2⟩
      intro f
      induction f with
      | zero =>
        intro x s hx hC hxs _ _ I' v3 v4 _ _
        have := hC.1.2
        omega
      | succ f ih =>
        intro x s hxf hC hxs hdn hres I2 v2 v3 a1 a2 hE
        have hs20 := hC.1.2
        by_cases c : x < s.1
        · refine b_X2_findElements_46 l1 (fun z => absurd z (by rw [hE.1]; exact nI_ge c (by omega))) (fun _ => b_X2_findElements_54 (fun z => absurd z (nI_ge (show x < 20 by omega) (by decide))) (fun _ => b_X2_findElements_60 ?_))
          have hres1 : clo D R T = (cin D R T s x 0).bind (fun s' => cou D R T f s' (x + 1)) := by rw [hres]; simp only [cou, if_pos c]; cases cin D R T s x 0 <;> rfl
          suffices HI : ∀ k t s1, t + k = T → CI D R T s1 → Ext2 D s s1 → CD D R s1 x t → clo D R T = (cin D R k s1 x t).bind (fun s' => cou D R T f s' (x + 1)) → ∀ (I2 : zI) (v3 : Value), (∀ h, h ≠ b → h ≠ b + 5 → I2 h = I0 h) → (∀ k, k ≠ 4 → I2 b k = I0 b k) → BEs I2 b D s1 → Go d i_X2_findElements 62 [.ref b, .int (nI x), .int (nI t), v3] [] S I2 J Q from HI T 0 s (by omega) hC Ext2.refl (fun t' h => by omega) hres1 I2 v3 a1 a2 hE
          intro k
          induction k with
          | zero =>
            intro t s1 ht hC1 hE1 hd1 hr1 I2 v3 a1 a2 hE
            have et : t = T := by omega
            refine b_X2_findElements_62 l1 (fun _ => b_X2_findElements_143 ?_) (fun z => absurd ?_ z)
            · rw [nI_1]
              refine ih (x + 1) s1 (by omega) hC1 (by have := hE1.1; omega) (fun y hy => ?_) hr1 I2 _ _ a1 a2 hE
              by_cases q : y = x
              · rw [q, ← et]; exact hd1
              · exact (hdn y (by omega)).ext (by omega) hE1
            · rw [a2 6 (by decide), h1, et]; exact nI_le (Nat.le_refl _) (by omega)
          | succ k ih2 =>
            intro t s1 ht hC1 hE1 hd1 hr1 I2 v3 a1 a2 hE
            have htT : t < T := by omega
            have hs1 := hC1.1.2
            have hx1 : x < s1.1 := Nat.lt_of_lt_of_le c hE1.1
            have hpx := hC1.2.1 x hx1
            have hp8 : ∀ y i, y < s1.1 → i < D → s1.2 y i < 8 := fun y i hy hi => by have := (hC1.2.1 y hy).1 i hi; omega
            have hr8 : ∀ i, i < D → R t (s1.2 x i) < 8 := fun i hi => by have := (hR t htT).1 _ (hpx.1 i hi); omega
            refine b_X2_findElements_62 l1 (fun z => absurd z (by rw [a2 6 (by decide), h1]; exact nI_ge htT (by omega))) (fun _ => b_X2_findElements_70 l1 (l6.rd (by omega) (by decide)) l1 (l5.rd (by omega) (by decide)) l1 ?_)
            rw [l6.1, l5.1, nI_clamp (by omega), nI_clamp (by omega), hE.2 x hx1, a1 (b + 4) (by omega) (by omega), h3 t htT, a2 7 (by decide), h7]
            refine ⟨_, _, _, _, c_firstThen (by omega) hD.2 hD.1 hpx.1 (hR t htT).1, b_X2_findElements_89 l1 l1 ?_⟩
            rw [l6.1, hE.1]
            have fnd := c_find (d := d) (J := J) (r := fun i => R t (s1.2 x i)) (by omega) hL' hD.2 hE hs1 hp8 hr8
            refine ⟨_, _, _, _, fnd, ?_⟩
            rcases Classical.em (∃ y, y < s1.1 ∧ ∀ i, i < D → s1.2 y i = R t (s1.2 x i)) with c1 | c1
            · have hst : cst D R s1 x t = some s1 := zq_t c1
              obtain ⟨_, _, hd2⟩ := cst_ok hR hC1 hx1 htT hst hd1
              have hzl := (zleast_spec c1).1.1
              rw [zq_t c1]
              refine b_X2_findElements_102 (fun _ => b_X2_findElements_137 ?_) (fun z => ?_)
              · rw [nI_1]
                exact ih2 (t + 1) s1 (by omega) hC1 hE1 hd2 (by rw [hr1]; simp only [cin, hst]) I2 _ a1 a2 hE
              · exfalso
                have hpos := nI_pos (show zleast (fun y => y < s1.1 ∧ ∀ i, i < D → s1.2 y i = R t (s1.2 x i)) < 2 ^ 31 by omega)
                rw [z] at hpos
                exact hpos (by decide)
            · rw [zq_f c1]
              refine b_X2_findElements_102 (fun z => absurd rfl z) (fun _ => b_X2_findElements_106 l1 (fun z => ?_) (fun z => b_X2_findElements_115 z_fit0 ?_))
              · rw [hE.1, z_lit 20, nI_ltI (by omega) (by decide)] at z
                have hst : cst D R s1 x t = some (s1.1 + 1, rup s1.2 s1.1 (fun i => R t (s1.2 x i))) := by unfold cst; rw [zq_f c1, zq_t z]
                obtain ⟨hC2, hE2, hd2⟩ := cst_ok hR hC1 hx1 htT hst hd1
                refine b_X2_findElements_117 l1 l1 (by rw [hE.1]; exact l6.wr (by omega) (by decide)) l1 l1 rfl ?_
                rw [hE.1, nI_clamp (by omega), l6.1, z_u2_ne (show b ≠ b + 5 by omega), hE.1, nI_1, nI_1]
                refine ih2 (t + 1) _ (by omega) hC2 (hE1.trans hE2) hd2 (by rw [hr1]; simp only [cin, hst]) _ _ (fun y b1 b2 => by rw [z_u2_row b1, z_u2_row b2]; exact a1 y b1 b2) (fun k hk => by rw [z_u2_nk hk, z_u2_row (by omega)]; exact a2 k hk) ⟨z_u2_same, fun y hy => ?_⟩
                have hy : y < s1.1 + 1 := hy
                rw [z_u2_row (by omega)]
                show _ = nI (pck (rup s1.2 s1.1 (fun i => R t (s1.2 x i)) y) D)
                unfold rup
                by_cases q : y = s1.1
                · rw [if_pos q, q, z_u2_same]
                · rw [if_neg q, z_u2_nk q]; exact hE.2 y (by omega)
              · rw [hE.1, z_lit 20, nI_ltI (by omega) (by decide)] at z
                have hst : cst D R s1 x t = none := by unfold cst; rw [zq_f c1, zq_f (by omega)]
                have hnone : clo D R T = none := by rw [hr1]; simp [cin, hst]
                rw [hQ]
                exact ⟨rfl, rfl, a1, a2, fun _ => rfl, fun s' hs' => (by rw [hnone] at hs'; cases hs'), 0, rfl⟩
        · have hsome : clo D R T = some s := by rw [hres]; simp only [cou, if_neg c]
          refine b_X2_findElements_46 l1 (fun _ => b_X2_findElements_149 z_fit1 ?_) (fun z => absurd ?_ z)
          · rw [hQ]
            refine ⟨rfl, rfl, a1, a2, fun hn => (by rw [hsome] at hn; cases hn), fun s' hs' => ?_, 1, rfl⟩
            rw [hsome] at hs'
            have := Option.some.inj hs'
            rw [← this]; exact ⟨rfl, hE⟩
          · rw [hE.1]; exact nI_le (by omega) (by omega)
    · rw [g1 b (by omega), h7]; exact nI_le (Nat.le_refl _) (by omega)
  · intro i hi ih I1 v2 v3 g1 g2
    have hpi := pck_idn i (by omega)
    refine b_X2_findElements_9 l1 (fun z => absurd z (by rw [g1 b (by omega), h7]; exact nI_ge hi (by omega))) (fun _ => b_X2_findElements_17 l1 l1 r0 w0 rfl ?_)
    have e5 : nI (pck (fun i => i) i) <<< ((3 : Int32) &&& 31) = nI (pck (fun i => i) i * 2 ^ 3) := z_shl (x := 3) (by decide) (by omega)
    rw [c0, l6.1, g2, e5, z_or, or8 (by omega), nI_1]
    exact ih _ _ _ (fun y hy => by rw [z_u2_row hy]; exact g1 y hy) (by rw [z_u2_same]; rfl)
end CW1

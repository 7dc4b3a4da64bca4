/-! THE MODEL: the products of rows -/
def WR (I : zI) (m D : Nat) (s : Nat × (Nat → Nat → Nat)) : Prop := I (m + 1) 1330 = nI s.1 ∧ ∀ y i, y < s.1 → i < D → I (m + 1) (1435 + 8 * y + i) = nI (s.2 y i)
noncomputable def fndR (D : Nat) (s : Nat × (Nat → Nat → Nat)) (r : Nat → Nat) : Nat := zq (∃ y, y < s.1 ∧ ∀ i, i < D → s.2 y i = r i) (zleast (fun y => y < s.1 ∧ ∀ i, i < D → s.2 y i = r i)) s.1
section MPm
variable {d m n D T x y : Nat} {R : Nat → Nat → Nat} {r : Nat → Nat} {s : Nat × (Nat → Nat → Nat)} {S : zS} {I I0 I1 I2 : zI} {J : zJ}
theorem m_isRow (hd : 0 < d) (hL : MLay S m) (hD : D ≤ 8) (h15 : I m 15 = nI D) (hW : WR I m D s) (hs : s.1 ≤ 20) (hp : ∀ y i, y < s.1 → i < D → s.2 y i < 8) (hr : ∀ i, i < D → I (m + 6) i = nI (r i) ∧ r i < 8) (hy : y < s.1) : z_ev d i_X12_isRow [.ref m, .int (nI y), .ref (m + 6)] S I J (some (.int (nI (zb (∀ i, i < D → s.2 y i = r i))))) S I J := by
  obtain ⟨d, rfl⟩ := z_dep hd
  have hk := hL.k
  have b0 := hL.a0
  have b6 := hL.2.2.2.2.2.2.1
  refine e_X12_isRow (b_X12_isRow_0 ?_)
  suffices H : ∀ i, i ≤ D → (∀ i', i' < i → s.2 y i' = r i') → Go d i_X12_isRow 2 [.ref m, .int (nI y), .ref (m + 6), .int (nI i)] [] S I J (z_eq (some (.int (nI (zb (∀ i, i < D → s.2 y i = r i))))) S I J) from H 0 (by omega) (fun i' h => by omega)
  refine z_up_to D ?_ ?_
  · intro hall
    refine b_X12_isRow_2 hk (fun _ => b_X12_isRow_39 z_fit1 ⟨?_, rfl, rfl, rfl⟩) (fun z => absurd ?_ z)
    · rw [zb_t hall]; rfl
    · rw [h15]; exact nI_le (Nat.le_refl _) (by omega)
  · intro i hi ih hall
    have e : (1435 : Int32) + (8 : Int32) * nI y + nI i = nI (1435 + 8 * y + i) := by rw [z_lit 8, pk_mul, z_lit 1435, nI_add, nI_add]
    have rd : z_isI (z_kd S (m + 6)) = true ∧ vp_in (nI i) (z_ln S (m + 6)) := ⟨by rw [b6.2.1]; rfl, by rw [b6.2.2]; exact vp_in_nI (by omega) (by decide)⟩
    have h1 := hp y i hy hi
    have h2 := hr i hi
    refine b_X12_isRow_2 hk (fun z => absurd z (by rw [h15]; exact nI_ge hi (by omega))) (fun _ => b_X12_isRow_10 hk (by rw [e]; exact b0.rd (by omega) (by decide)) rd (fun z => b_X12_isRow_33 ?_) (fun z => b_X12_isRow_31 z_fit0 ⟨?_, rfl, rfl, rfl⟩))
    · rw [e, nI_clamp (by omega), nI_clamp (by omega), b0.1, hW.2 y i hy hi, h2.1, nI_eq (by omega) (by omega)] at z
      rw [nI_1]
      exact ih (fun i' hi' => by
        rcases (show i' < i ∨ i' = i by omega) with q | q
        · exact hall i' q
        · rw [q]; exact z)
    · rw [e, nI_clamp (by omega), nI_clamp (by omega), b0.1, hW.2 y i hy hi, h2.1, nI_eq (by omega) (by omega)] at z
      rw [zb_f (fun q => z (q i hi))]; rfl
theorem m_findRow (hd : 1 < d) (hL : MLay S m) (hD : D ≤ 8) (h15 : I m 15 = nI D) (hW : WR I m D s) (hs : s.1 ≤ 20) (hp : ∀ y i, y < s.1 → i < D → s.2 y i < 8) (hr : ∀ i, i < D → I (m + 6) i = nI (r i) ∧ r i < 8) : z_ev d i_X12_findRow [.ref m, .ref (m + 6)] S I J (some (.int (nI (fndR D s r)))) S I J := by
  obtain ⟨d, rfl⟩ := z_dep (d := d) (by omega)
  have hk := hL.k
  have b0 := hL.a0
  have c : Int32.toNatClampNeg (1330 : Int32) = 1330 := by decide
  refine e_X12_findRow (b_X12_findRow_0 ?_)
  suffices H : ∀ y, y ≤ s.1 → (∀ y', y' < y → ¬ ∀ i, i < D → s.2 y' i = r i) → Go d i_X12_findRow 2 [.ref m, .ref (m + 6), .int (nI y)] [] S I J (z_eq (some (.int (nI (fndR D s r)))) S I J) from H 0 (by omega) (fun i' h => by omega)
  refine z_up_to s.1 ?_ ?_
  · intro hno
    refine b_X12_findRow_2 hk (b0.rd (i := 1330) (by decide) (by decide)) (fun _ => b_X12_findRow_29 ⟨?_, rfl, rfl, rfl⟩) (fun z => absurd ?_ z)
    · unfold fndR; rw [zq_f (fun ⟨y, hy, q⟩ => hno y hy q)]
    · rw [c, b0.1, hW.1]; exact nI_le (Nat.le_refl _) (by omega)
  · intro y hy ih hno
    refine b_X12_findRow_2 hk (b0.rd (i := 1330) (by decide) (by decide)) (fun z => absurd z (by rw [c, b0.1, hW.1]; exact nI_ge hy (by omega))) (fun _ => b_X12_findRow_14 hk ⟨_, _, _, _, m_isRow (by omega) hL hD h15 hW hs hp hr hy, b_X12_findRow_20 (fun z => b_X12_findRow_29 ⟨?_, rfl, rfl, rfl⟩) (fun z => b_X12_findRow_23 ?_)⟩)
    · have z := zb_1.mp z
      unfold fndR
      rw [zq_t ⟨y, hy, z⟩, zleast_eq (k := y) ⟨hy, z⟩ (fun j hj q => hno j hj q.2)]
    · have z := zb_0.mp z
      rw [nI_1]
      exact ih (fun y' hy' => by
        rcases (show y' < y ∨ y' = y by omega) with q | q
        · exact hno y' q
        · rw [q]; exact z)
theorem fndR_lt (h : ∃ y, y < s.1 ∧ ∀ i, i < D → s.2 y i = r i) : fndR D s r < s.1 := by
  unfold fndR; rw [zq_t h]; exact (zleast_spec h).1.1
theorem fndR_no (h : ¬ ∃ y, y < s.1 ∧ ∀ i, i < D → s.2 y i = r i) : fndR D s r = s.1 := by
  unfold fndR; rw [zq_f h]
/-- what stays while elements are found -/
def CFr (I I' : zI) (m : Nat) : Prop := (∀ h, h ≠ m + 1 → h ≠ m + 6 → I' h = I h) ∧ ∀ j, j < 1330 ∨ (1331 ≤ j ∧ j < 1435) ∨ 1595 ≤ j → I' (m + 1) j = I (m + 1) j
theorem CFr.refl : CFr I I m := ⟨fun _ _ _ => rfl, fun _ _ => rfl⟩
theorem CFr.w6 {k : Nat} {v : Int32} (h : CFr I I1 m) : CFr I (z_u2 I1 (m + 6) k v) m := ⟨fun y a b => by rw [z_u2_row b]; exact h.1 y a b, fun j hj => by rw [z_u2_row (by omega)]; exact h.2 j hj⟩
theorem CFr.w1 {k : Nat} {v : Int32} (h : CFr I I1 m) (hk : k = 1330 ∨ (1435 ≤ k ∧ k < 1595)) : CFr I (z_u2 I1 (m + 1) k v) m := ⟨fun y a b => by rw [z_u2_row a]; exact h.1 y a b, fun j hj => by rw [z_u2_nk (by omega)]; exact h.2 j hj⟩
/-- the row x by the row t is laid -/
theorem m_layRow {t : Nat} {x1 : Int32} {Q : zQ} (hL : MLay S m) (hD : D ≤ 8) (h15 : I0 m 15 = nI D) (hT : ∀ i, i < D → I0 (m + 5) (8 * t + i) = nI (R t i)) (ht : t < 100) (hW : WR I0 m D s) (hs : s.1 ≤ 20) (hx : x < s.1) (hp : ∀ i, i < D → s.2 x i < D) (hQ : ∀ I', (∀ h, h ≠ m + 6 → I' h = I0 h) → (∀ i, i < D → I' (m + 6) i = nI (R t (s.2 x i))) → Go d i_X12_permsRead 169 [.ref m, .int x1, .int (nI x), .int (nI t), .int (nI D)] [] S I' J Q) : Go d i_X12_permsRead 121 [.ref m, .int x1, .int (nI x), .int (nI t), .int 0] [] S I0 J Q := by
  have hk := hL.k
  have b0 := hL.a0
  have b5 := hL.2.2.2.2.2.1
  have b6 := hL.2.2.2.2.2.2.1
  suffices H : ∀ i, i ≤ D → ∀ I', (∀ h, h ≠ m + 6 → I' h = I0 h) → (∀ i', i' < i → I' (m + 6) i' = nI (R t (s.2 x i'))) → Go d i_X12_permsRead 121 [.ref m, .int x1, .int (nI x), .int (nI t), .int (nI i)] [] S I' J Q from H 0 (by omega) I0 (fun _ _ => rfl) (fun i' h => by omega)
  refine z_up_to D ?_ ?_
  · intro I' g1 g2
    refine b_X12_permsRead_121 hk (fun _ => hQ I' g1 g2) (fun z => absurd ?_ z)
    rw [g1 m (by omega), h15]; exact nI_le (Nat.le_refl _) (by omega)
  · intro i hi ih I' g1 g2
    have e1 : (1435 : Int32) + (8 : Int32) * nI x + nI i = nI (1435 + 8 * x + i) := by rw [z_lit 8, pk_mul, z_lit 1435, nI_add, nI_add]
    have h1 := hp i hi
    have v1 : I' (z_rv S m 0) (Int32.toNatClampNeg ((1435 : Int32) + (8 : Int32) * nI x + nI i)) = nI (s.2 x i) := by rw [e1, nI_clamp (by omega), b0.1, g1 (m + 1) (by omega)]; exact hW.2 x i hx hi
    have e2 : (8 : Int32) * nI t + nI (s.2 x i) = nI (8 * t + s.2 x i) := by rw [z_lit 8, pk_mul, nI_add]
    refine b_X12_permsRead_121 hk (fun z => absurd z (by rw [g1 m (by omega), h15]; exact nI_ge hi (by omega))) (fun _ => b_X12_permsRead_130 hk hk hk (by rw [e1]; exact b0.rd (by omega) (by decide)) (by rw [v1, e2]; exact b5.rd (by omega) (by decide)) (b6.wr (by omega) (by decide)) rfl ?_)
    rw [v1, e2, nI_clamp (by omega), nI_clamp (by omega), b5.1, b6.1, g1 (m + 5) (by omega), hT _ h1, nI_1]
    refine ih _ (fun h hh => by rw [z_u2_row hh]; exact g1 h hh) (fun i' hi' => ?_)
    by_cases q : i' = i
    · rw [q, z_u2_same]
    · rw [z_u2_nk q]; exact g2 i' (by omega)
/-- all elements are found, or there are too many -/
theorem m_closure {x1 : Int32} {v3 v4 : Value} {Q : zQ} (hd : 2 < d) (hL : MLay S m) (hD : 0 < D ∧ D ≤ 8) (h15 : I0 m 15 = nI D) (h14 : I0 m 14 = nI T) (hT : T ≤ 100) (hTW : ∀ t i, t < T → i < D → I0 (m + 5) (8 * t + i) = nI (R t i)) (hR : ∀ t, t < T → Prm D (R t)) (hW : WR I0 m D (1, fun _ i => i)) (hF : clo D R T = none → ∀ I' x2 x3 x4, CFr I0 I' m → I' (m + 1) 1330 = nI 20 → Go d i_X12_permsRead 204 [.ref m, .int x1, .int x2, .int x3, .int x4] [] S I' J Q) (hS : ∀ s, clo D R T = some s → ∀ (I' : zI) (x2 : Int32) (v3 v4 : Value), CFr I0 I' m → WR I' m D s → Go d i_X12_permsRead 283 [.ref m, .int x1, .int x2, v3, v4] [] S I' J Q) : Go d i_X12_permsRead 96 [.ref m, .int x1, .int 0, v3, v4] [] S I0 J Q := by
  have hk := hL.k
  have b0 := hL.a0
  have b6 := hL.2.2.2.2.2.2.1
  have c1330 : Int32.toNatClampNeg (1330 : Int32) = 1330 := by decide
  have rd30 := b0.rd (i := 1330) (by decide) (by decide)
  suffices H : ∀ f x s, x + f = 21 → CI D R T s → x ≤ s.1 → (∀ y, y < x → CD D R s y T) → clo D R T = cou D R T f s x → ∀ (I' : zI) (v3 v4 : Value), CFr I0 I' m → WR I' m D s → Go d i_X12_permsRead 96 [.ref m, .int x1, .int (nI x), v3, v4] [] S I' J Q from H 21 0 (1, fun _ i => i) (by omega) ⟨⟨Nat.le_refl _, by decide⟩, fun y hy => ⟨fun i hi => hi, fun i j _ _ q => q⟩, fun i hi => rfl, fun y z hy hz _ => by have hy : y < 1 := hy; have hz : z < 1 := hz; omega, fun y hy h0 => by have hy : y < 1 := hy; omega⟩ (by omega) (fun y hy => by omega) rfl I0 v3 v4 CFr.refl hW
  intro f
  induction f with
  | zero =>
    intro x s hx hC hxs _ _ I' v3 v4 _ _
    have := hC.1.2
    omega
  | succ f ih =>
    intro x s hxf hC hxs hdn hres I' v3 v4 g hw
    have hs20 := hC.1.2
    by_cases c : x < s.1
    · refine b_X12_permsRead_96 hk rd30 (fun z => absurd z (by rw [c1330, b0.1, hw.1]; exact nI_ge c (by omega))) (fun _ => b_X12_permsRead_108 ?_)
      have hres1 : clo D R T = (cin D R T s x 0).bind (fun s' => cou D R T f s' (x + 1)) := by rw [hres]; simp only [cou, if_pos c]; cases cin D R T s x 0 <;> rfl
      -- the rows, one after another
      suffices HI : ∀ k t s1, t + k = T → CI D R T s1 → Ext2 D s s1 → CD D R s1 x t → clo D R T = (cin D R k s1 x t).bind (fun s' => cou D R T f s' (x + 1)) → ∀ (I' : zI) (v4 : Value), CFr I0 I' m → WR I' m D s1 → Go d i_X12_permsRead 110 [.ref m, .int x1, .int (nI x), .int (nI t), v4] [] S I' J Q from HI T 0 s (by omega) hC Ext2.refl (fun t' h => by omega) hres1 I' v4 g hw
      intro k
      induction k with
      | zero =>
        intro t s1 ht hC1 hE hd1 hr1 I' v4 g hw
        have et : t = T := by omega
        refine b_X12_permsRead_110 hk (fun _ => b_X12_permsRead_277 ?_) (fun z => absurd ?_ z)
        · rw [nI_1]
          refine ih (x + 1) s1 (by omega) hC1 (by have := hE.1; omega) (fun y hy => ?_) hr1 I' _ _ g hw
          by_cases q : y = x
          · rw [q, ← et]; exact hd1
          · exact (hdn y (by omega)).ext (by omega) hE
        · rw [g.1 m (by omega) (by omega), h14, et]; exact nI_le (Nat.le_refl _) (by omega)
      | succ k ih2 =>
        intro t s1 ht hC1 hE hd1 hr1 I' v4 g hw
        have htT : t < T := by omega
        have hs1 := hC1.1.2
        have hx1 : x < s1.1 := Nat.lt_of_lt_of_le c hE.1
        have hpx := hC1.2.1 x hx1
        have hp8 : ∀ y i, y < s1.1 → i < D → s1.2 y i < 8 := fun y i hy hi => by have := (hC1.2.1 y hy).1 i hi; omega
        refine b_X12_permsRead_110 hk (fun z => absurd z (by rw [g.1 m (by omega) (by omega), h14]; exact nI_ge htT (by omega))) (fun _ => b_X12_permsRead_118 ?_)
        refine m_layRow (s := s1) (R := R) hL hD.2 (by rw [g.1 m (by omega) (by omega)]; exact h15) (fun i hi => by rw [g.1 (m + 5) (by omega) (by omega)]; exact hTW t i htT hi) (by omega) hw hs1 hx1 hpx.1 (fun I2 a1 a2 => ?_)
        have g2 : CFr I0 I2 m := ⟨fun h b1 b2 => by rw [a1 h b2]; exact g.1 h b1 b2, fun j hj => by rw [a1 (m + 1) (by omega)]; exact g.2 j hj⟩
        have hw2 : WR I2 m D s1 := by
          unfold WR
          rw [a1 (m + 1) (by omega)]; exact hw
        have hr8 : ∀ i, i < D → I2 (m + 6) i = nI (R t (s1.2 x i)) ∧ R t (s1.2 x i) < 8 := fun i hi => ⟨a2 i hi, by have := (hR t htT).1 _ (hpx.1 i hi); omega⟩
        have hfr := m_findRow (d := d) (J := J) (r := fun i => R t (s1.2 x i)) (by omega) hL hD.2 (by rw [g2.1 m (by omega) (by omega)]; exact h15) hw2 hs1 hp8 hr8
        refine b_X12_permsRead_169 hk hk ?_
        rw [b6.1]
        rcases Classical.em (∃ y, y < s1.1 ∧ ∀ i, i < D → s1.2 y i = R t (s1.2 x i)) with c1 | c1
        · have hst : cst D R s1 x t = some s1 := zq_t c1
          have hlt := fndR_lt (r := fun i => R t (s1.2 x i)) c1
          obtain ⟨_, _, hd2⟩ := cst_ok hR hC1 hx1 htT hst hd1
          refine ⟨_, _, _, _, hfr, b_X12_permsRead_177 hk rd30 (fun z => ?_) (fun _ => b_X12_permsRead_188 ?_)⟩
          · rw [c1330, b0.1, hw2.1, nI_leI (by omega) (by omega)] at z; omega
          · rw [nI_1]
            refine ih2 (t + 1) s1 (by omega) hC1 hE hd2 ?_ I2 _ g2 hw2
            rw [hr1]; simp only [cin, hst]
        · have hno := fndR_no (r := fun i => R t (s1.2 x i)) c1
          refine ⟨_, _, _, _, hfr, b_X12_permsRead_177 hk rd30 (fun _ => b_X12_permsRead_191 hk rd30 (fun z => b_X12_permsRead_211 ?_) (fun z => ?_)) (fun z => absurd ?_ z)⟩
          · rw [c1330, b0.1, hw2.1, z_lit 20, nI_eq (by omega) (by decide)] at z
            have h20 : s1.1 < 20 := by omega
            have hst : cst D R s1 x t = some (s1.1 + 1, rup s1.2 s1.1 (fun i => R t (s1.2 x i))) := by unfold cst; rw [zq_f c1, zq_t h20]
            obtain ⟨hC2, hE2, hd2⟩ := cst_ok hR hC1 hx1 htT hst hd1
            suffices HC : ∀ i, i ≤ D → ∀ I3, (∀ h, h ≠ m + 1 → I3 h = I2 h) → (∀ j, j < 1435 + 8 * s1.1 ∨ 1435 + 8 * s1.1 + 8 ≤ j → I3 (m + 1) j = I2 (m + 1) j) → (∀ i', i' < i → I3 (m + 1) (1435 + 8 * s1.1 + i') = nI (R t (s1.2 x i'))) → Go d i_X12_permsRead 214 [.ref m, .int x1, .int (nI x), .int (nI t), .int (nI i)] [] S I3 J Q from HC 0 (by omega) I2 (fun _ _ => rfl) (fun _ _ => rfl) (fun i' h => by omega)
            refine z_up_to D ?_ ?_
            · intro I3 e1 e2 e3
              have v30 : I3 (m + 1) 1330 = nI s1.1 := by rw [e2 1330 (by omega)]; exact hw2.1
              refine b_X12_permsRead_214 hk (fun _ => b_X12_permsRead_259 hk rd30 (b0.wr (i := 1330) (by decide) (by decide)) rfl ?_) (fun y => absurd ?_ y)
              · rw [c1330, b0.1, v30, nI_1, nI_1]
                refine ih2 (t + 1) _ (by omega) hC2 (hE.trans hE2) hd2 (by rw [hr1]; simp only [cin, hst]) _ _ ?_ ⟨by rw [z_u2_same], fun y i hy hi => ?_⟩
                · refine CFr.w1 ⟨fun h b1 b2 => by rw [e1 h b1]; exact g2.1 h b1 b2, fun j hj => ?_⟩ (by omega)
                  rw [e2 j (by omega)]; exact g2.2 j hj
                · have hy : y < s1.1 + 1 := hy
                  rw [z_u2_nk (by omega)]
                  show _ = nI (rup s1.2 s1.1 (fun i => R t (s1.2 x i)) y i)
                  unfold rup
                  by_cases q : y = s1.1
                  · rw [if_pos q, q]; exact e3 i hi
                  · rw [if_neg q, e2 _ (by omega)]; exact hw2.2 y i (by omega) hi
              · rw [e1 m (by omega), g2.1 m (by omega) (by omega), h15]; exact nI_le (Nat.le_refl _) (by omega)
            · intro i hi ih3 I3 e1 e2 e3
              have v30 : I3 (m + 1) 1330 = nI s1.1 := by rw [e2 1330 (by omega)]; exact hw2.1
              have ei : (1435 : Int32) + (8 : Int32) * I3 (z_rv S m 0) (Int32.toNatClampNeg (1330 : Int32)) + nI i = nI (1435 + 8 * s1.1 + i) := by rw [c1330, b0.1, v30, z_lit 8, pk_mul, z_lit 1435, nI_add, nI_add]
              refine b_X12_permsRead_214 hk (fun y => absurd y (by rw [e1 m (by omega), g2.1 m (by omega) (by omega), h15]; exact nI_ge hi (by omega))) (fun _ => b_X12_permsRead_223 hk hk rd30 hk (b6.rd (by omega) (by decide)) (by rw [ei]; exact b0.wr (by omega) (by decide)) rfl ?_)
              rw [ei, nI_clamp (by omega), nI_clamp (by omega), b0.1, b6.1, e1 (m + 6) (by omega), a2 i hi, nI_1]
              refine ih3 _ (fun h hh => by rw [z_u2_row hh]; exact e1 h hh) (fun j hj => by rw [z_u2_nk (by omega)]; exact e2 j hj) (fun i' hi' => ?_)
              by_cases q : i' = i
              · rw [q, z_u2_same]
              · rw [z_u2_nk (by omega)]; exact e3 i' (by omega)
          · rw [c1330, b0.1, hw2.1, z_lit 20, nI_eq (by omega) (by decide)] at z
            have hst : cst D R s1 x t = none := by unfold cst; rw [zq_f c1, zq_f (by omega)]
            exact hF (by rw [hr1]; simp [cin, hst]) I2 _ _ _ g2 (by rw [hw2.1, z])
          · rw [c1330, b0.1, hw2.1, hno]; exact nI_le (Nat.le_refl _) (by omega)
    · refine b_X12_permsRead_96 hk rd30 (fun _ => hS s (by rw [hres]; simp only [cou, if_neg c]) I' _ _ _ g hw) (fun z => absurd ?_ z)
      rw [c1330, b0.1, hw.1]; exact nI_le (by omega) (by omega)
end MPm

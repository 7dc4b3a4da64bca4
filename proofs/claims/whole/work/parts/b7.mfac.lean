/-! THE MODEL: products of factors -/
def imf (x i : Int32) : Int32 := (x >>> (((6 : Int32) - ((2 : Int32) * i)) &&& 31)) &&& 3
def evc (k : Nat) : Nat := 64 * evi k 0 + 16 * evi k 1 + 4 * evi k 2 + evi k 3
def ejc (i j : Nat) : Nat := 64 * evi j (evi i 0) + 16 * evi j (evi i 1) + 4 * evi j (evi i 2) + evi j (evi i 3)
def cmf (x i k : Int32) : Int32 := if imf x k ≤ imf x i then 0 else 1
def sef (x : Int32) : Int32 := ((((0 : Int32) ||| ((1 : Int32) <<< (imf x 0 &&& 31))) ||| ((1 : Int32) <<< (imf x 1 &&& 31))) ||| ((1 : Int32) <<< (imf x 2 &&& 31))) ||| ((1 : Int32) <<< (imf x 3 &&& 31))
def unf (x : Int32) : Int32 := ((((((0 : Int32) + cmf x 1 0) + cmf x 2 0) + cmf x 2 1) + cmf x 3 0) + cmf x 3 1) + cmf x 3 2
abbrev isE (x : Int32) : Prop := sef x = 15 ∧ ¬ (unf x - unf x / 2 * 2) = 1
def cnE (c : Nat) : Nat := ((List.range 12).filter (fun j => Nat.blt (evc j) c)).length
theorem evi_lt : ∀ i, i < 12 → ∀ p, p < 4 → evi i p < 4 ∧ imf (nI (evc i)) (nI p) = nI (evi i p) := by decide +kernel
theorem evp_ok : ∀ i, i < 12 → ∀ j, j < 12 → evp i j < 12 ∧ evc (evp i j) = ejc i j ∧ ∀ k, k < evp i j → evc k ≠ ejc i j := by decide +kernel
theorem evc_lt : ∀ i, i < 12 → evc i < 256 := by decide +kernel
theorem cnE_st : ∀ c, c < 256 → (isE (nI c) → cnE c < 12 ∧ evc (cnE c) = c ∧ cnE (c + 1) = cnE c + 1) ∧ (¬ isE (nI c) → cnE (c + 1) = cnE c) := by decide +kernel
theorem cnE_le : cnE 256 = 12 ∧ cnE 0 = 0 := by decide +kernel
/-- the even orders are laid, or not yet -/
def EVm (I : zI) (m : Nat) : Prop := I m 11 = 0 ∨ (I m 11 = 12 ∧ ∀ k, k < 12 → I (m + 3) k = nI (evc k))
section MF
variable {d m n q k b i j : Nat} {B : Nat → Int32} {S : zS} {I I0 I1 I2 : zI} {J : zJ}
theorem m_imageOf (x y : Int32) (hd : 0 < d) : z_ev d i_X12_imageOf [.int x, .int y] S I J (some (.int (imf x y))) S I J := by
  obtain ⟨d, rfl⟩ := z_dep hd
  exact e_X12_imageOf (b_X12_imageOf_0 ⟨rfl, rfl, rfl, rfl⟩)
theorem m_laysEven (hd : 1 < d) (hL : MLay S m) (hE : EVm I0 m) : ∃ I', z_ev d i_X12_laysEven [.ref m] S I0 J none S I' J ∧ (∀ h, h ≠ m → h ≠ m + 3 → I' h = I0 h) ∧ (∀ k, k ≠ 11 → I' m k = I0 m k) ∧ I' m 11 = 12 ∧ ∀ k, k < 12 → I' (m + 3) k = nI (evc k) := by
  obtain ⟨d, rfl⟩ := z_dep (d := d) (by omega)
  have hk := hL.k
  have b3 := hL.2.2.2.1
  rcases hE with hE | ⟨hE, hE2⟩
  · obtain ⟨Q, hQ⟩ : ∃ Q : zQ, Q = fun w S' I' J' => w = none ∧ S' = S ∧ J' = J ∧ (∀ h, h ≠ m → h ≠ m + 3 → I' h = I0 h) ∧ (∀ k, k ≠ 11 → I' m k = I0 m k) ∧ I' m 11 = 12 ∧ ∀ k, k < 12 → I' (m + 3) k = nI (evc k) := ⟨_, rfl⟩
    suffices hw : z_wp (d + 1) i_X12_laysEven [.ref m] S I0 J Q by
      rw [hQ] at hw
      obtain ⟨w, S', I', J', x1, rfl, rfl, rfl, x2⟩ := hw
      exact ⟨I', x1, x2⟩
    refine w_X12_laysEven (b_X12_laysEven_0 hk (fun _ => b_X12_laysEven_8 ?_) (fun z => absurd (by rw [hE]; decide) z))
    suffices H : ∀ c, c ≤ 256 → ∀ I1 v2 v3 v4 v5, (∀ h, h ≠ m → h ≠ m + 3 → I1 h = I0 h) → (∀ k, k ≠ 11 → I1 m k = I0 m k) → I1 m 11 = nI (cnE c) → (∀ k, k < cnE c → I1 (m + 3) k = nI (evc k)) → Go d i_X12_laysEven 10 [.ref m, .int (nI c), v2, v3, v4, v5] [] S I1 J Q from H 0 (by decide) I0 _ _ _ _ (fun _ _ _ => rfl) (fun _ _ => rfl) (by rw [hE, cnE_le.2]; rfl) (fun k hk => by rw [cnE_le.2] at hk; omega)
    refine z_up_to 256 ?_ ?_
    · intro I1 v2 v3 v4 v5 g1 g2 g3 g4
      refine b_X12_laysEven_10 (fun _ => b_X12_laysEven_128 ?_) (fun z => absurd (by decide) z)
      rw [cnE_le.1] at g3 g4
      rw [hQ]
      exact ⟨rfl, rfl, rfl, g1, g2, g3, g4⟩
    · intro c hc ih I1 v2 v3 v4 v5 g1 g2 g3 g4
      have pair : ∀ (x2 x3 i k : Int32), ¬ i ≤ k → (Go d i_X12_laysEven 44 [.ref m, .int (nI c), .int x2, .int (x3 + cmf (nI c) i k), .int i, .int (k + 1)] [] S I1 J Q) → Go d i_X12_laysEven 44 [.ref m, .int (nI c), .int x2, .int x3, .int i, .int k] [] S I1 J Q := fun x2 x3 i k hik hgo => by
        refine b_X12_laysEven_44 (fun z => absurd z hik) (fun _ => b_X12_laysEven_51 ⟨_, _, _, _, m_imageOf _ _ (by omega), b_X12_laysEven_58 ⟨_, _, _, _, m_imageOf _ _ (by omega), b_X12_laysEven_64 (fun z => b_X12_laysEven_71 ?_) (fun z => b_X12_laysEven_67 ?_)⟩⟩)
        · have e : cmf (nI c) i k = 0 := if_pos z
          rw [e] at hgo; exact hgo
        · have e : cmf (nI c) i k = 1 := if_neg z
          rw [e] at hgo; exact hgo
      have one : ∀ (x2 x3 i : Int32) v5, ¬ 4 ≤ i → Go d i_X12_laysEven 44 [.ref m, .int (nI c), .int (x2 ||| (1 <<< (imf (nI c) i &&& 31))), .int x3, .int i, .int 0] [] S I1 J Q → Go d i_X12_laysEven 24 [.ref m, .int (nI c), .int x2, .int x3, .int i, v5] [] S I1 J Q := fun x2 x3 i v5 hi hgo => b_X12_laysEven_24 (fun z => absurd z hi) (fun _ => b_X12_laysEven_30 ⟨_, _, _, _, m_imageOf _ _ (by omega), b_X12_laysEven_38 hgo⟩)
      have out : ∀ (x2 x3 i k : Int32), i ≤ k → Go d i_X12_laysEven 24 [.ref m, .int (nI c), .int x2, .int x3, .int (i + 1), .int k] [] S I1 J Q → Go d i_X12_laysEven 44 [.ref m, .int (nI c), .int x2, .int x3, .int i, .int k] [] S I1 J Q := fun x2 x3 i k h hgo => b_X12_laysEven_44 (fun _ => b_X12_laysEven_80 hgo) (fun z => absurd h z)
      obtain ⟨c1, c2⟩ := cnE_st c hc
      refine b_X12_laysEven_10 (fun z => absurd z (nI_ge hc (by decide))) (fun _ => b_X12_laysEven_17 ?_)
      refine one _ _ 0 _ (by decide) (out _ _ 0 0 (by decide) (one _ _ 1 _ (by decide) (pair _ _ 1 0 (by decide) (out _ _ 1 1 (by decide) (one _ _ 2 _ (by decide) (pair _ _ 2 0 (by decide) (pair _ _ 2 1 (by decide) (out _ _ 2 2 (by decide) (one _ _ 3 _ (by decide) (pair _ _ 3 0 (by decide) (pair _ _ 3 1 (by decide) (pair _ _ 3 2 (by decide) (out _ _ 3 3 (by decide) ?_)))))))))))))
      suffices hh : Go d i_X12_laysEven 24 [.ref m, .int (nI c), .int (sef (nI c)), .int (unf (nI c)), .int 4, .int 3] [] S I1 J Q from hh
      have skip : ¬ isE (nI c) → ∀ x2 x3 x4 v5, Go d i_X12_laysEven 10 [.ref m, .int (nI c + 1), x2, x3, x4, v5] [] S I1 J Q := fun q x2 x3 x4 v5 => by
        rw [nI_1]
        rw [← c2 q] at g3 g4
        exact ih I1 _ _ _ _ g1 g2 g3 g4
      refine b_X12_laysEven_24 (fun _ => b_X12_laysEven_86 (fun z => b_X12_laysEven_122 (skip (fun q => z q.1) _ _ _ _)) (fun z => b_X12_laysEven_92 (by decide) (fun z2 => ?_) (fun z2 => b_X12_laysEven_99 (skip (fun q => q.2 z2) _ _ _ _)))) (fun z => absurd (by decide) z)
      obtain ⟨d1, d2, d3⟩ := c1 ⟨z, z2⟩
      refine b_X12_laysEven_102 hk hk ⟨b3.kd, by rw [g3, b3.ln]; exact vp_in_nI (by omega) (by decide)⟩ hk hk rfl ?_
      rw [g3, nI_clamp (by omega), b3.1, z_u2_ne (show m ≠ m + 3 by omega), g3, nI_1, nI_1]
      refine ih _ _ _ _ _ (fun h h1 h2 => by rw [z_u2_row h1, z_u2_row h2]; exact g1 h h1 h2) (fun k hk => by rw [z_u2_nk hk, z_u2_row (by omega)]; exact g2 k hk) (by rw [z_u2_same, d3]) (fun k hk => ?_)
      rw [d3] at hk
      rw [z_u2_row (by omega)]
      by_cases e : k = cnE c
      · rw [e, z_u2_same, d2]
      · rw [z_u2_nk e]; exact g4 k (by omega)
  · exact ⟨I0, e_X12_laysEven (b_X12_laysEven_0 hk (fun z => absurd z (by rw [hE]; decide)) (fun _ => b_X12_laysEven_7 ⟨rfl, rfl, rfl, rfl⟩)), fun _ _ _ => rfl, fun _ _ => rfl, hE, hE2⟩
theorem m_evenProduct (hd : 1 < d) (hL : MLay S m) (hE : ∀ k, k < 12 → I (m + 3) k = nI (evc k)) (hi : i < 12) (hj : j < 12) : z_ev d i_X12_evenProduct [.ref m, .int (nI i), .int (nI j)] S I J (some (.int (nI (evp i j)))) S I J := by
  obtain ⟨d, rfl⟩ := z_dep (d := d) (by omega)
  have hk := hL.k
  have b3 := hL.2.2.2.1
  have one : ∀ (x3 : Int32) (c p : Nat), p < 4 → x3 = nI c → Go d i_X12_evenProduct 5 [.ref m, .int (nI i), .int (nI j), .int (nI (4 * c + evi j (evi i p))), .int (nI (p + 1))] [] S I J (z_eq (some (.int (nI (evp i j)))) S I J) → Go d i_X12_evenProduct 5 [.ref m, .int (nI i), .int (nI j), .int x3, .int (nI p)] [] S I J (z_eq (some (.int (nI (evp i j)))) S I J) := fun x3 c p hp e hgo => by
    obtain ⟨e1, e2⟩ := evi_lt i hi p hp
    obtain ⟨f1, f2⟩ := evi_lt j hj (evi i p) e1
    refine b_X12_evenProduct_5 (fun z => absurd z (nI_ge hp (by decide))) (fun _ => b_X12_evenProduct_11 hk (b3.rd (by omega) (by decide)) hk (b3.rd (by omega) (by decide)) ?_)
    rw [b3.1, nI_clamp (by omega), nI_clamp (by omega), hE i hi, hE j hj, e]
    refine ⟨_, _, _, _, m_imageOf _ _ (by omega), ?_⟩
    rw [e2]
    refine b_X12_evenProduct_31 ⟨_, _, _, _, m_imageOf _ _ (by omega), ?_⟩
    rw [f2]
    refine b_X12_evenProduct_34 ?_
    rw [z_lit 4, pk_mul, nI_add, nI_1]
    exact hgo
  obtain ⟨p1, p2, p3⟩ := evp_ok i hi j hj
  have elt := evc_lt _ p1
  refine e_X12_evenProduct (b_X12_evenProduct_0 (one 0 0 0 (by decide) rfl (one _ _ 1 (by decide) rfl (one _ _ 2 (by decide) rfl (one _ _ 3 (by decide) rfl (b_X12_evenProduct_5 (fun _ => b_X12_evenProduct_42 ?_) (fun z => absurd (by decide) z)))))))
  have ec : 4 * (4 * (4 * (4 * 0 + evi j (evi i 0)) + evi j (evi i 1)) + evi j (evi i 2)) + evi j (evi i 3) = ejc i j := by unfold ejc; omega
  rw [ec]
  suffices H : ∀ k, k ≤ evp i j → Go d i_X12_evenProduct 45 [.ref m, .int (nI i), .int (nI j), .int (nI (ejc i j)), .int (nI k)] [] S I J (z_eq (some (.int (nI (evp i j)))) S I J) from H 0 (by omega)
  refine z_up_to (evp i j) ?_ ?_
  · refine b_X12_evenProduct_45 hk (b3.rd (by omega) (by decide)) (fun _ => b_X12_evenProduct_62 ⟨rfl, rfl, rfl, rfl⟩) (fun z => absurd ?_ z)
    rw [b3.1, nI_clamp (by omega), hE _ p1, p2]
  · intro k hk' ih
    have := p3 k hk'
    have := evc_lt k (by omega)
    refine b_X12_evenProduct_45 hk (b3.rd (by omega) (by decide)) (fun z => ?_) (fun _ => b_X12_evenProduct_56 ?_)
    · rw [b3.1, nI_clamp (by omega), hE k (by omega), nI_eq (by omega) (by omega)] at z
      omega
    · rw [nI_1]; exact ih
end MF

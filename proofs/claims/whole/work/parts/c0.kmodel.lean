/-! CONSTRUCTORS: the model's -/
/-- the state at the start -/
def Ws0 : Wst := ((fun _ => Sl1), 0, (fun _ => (0, Sl1)), 0, (fun _ => 0), 0, -1)
theorem Ws0_ok : WOk Ws0 := ⟨fun _ _ => Sl1_ok, by decide, fun k hk => absurd (show k < 0 from hk) (by omega), by decide⟩
theorem Ws0_tp : TpOk Ws0 := fun j hj => absurd (show j < 0 from hj) (by omega)
section KI5
variable {d m : Nat} {S : zS} {I : zI} {J : zJ}
theorem u6 (f : zI) (h j : Nat) : z_u2 (z_u2 (z_u2 (z_u2 (z_u2 (z_u2 f h 0 1) h 3 1) h 25 1) h 665 1) h 668 1) h 690 1 h j = if j = 690 then 1 else if j = 668 then 1 else if j = 665 then 1 else if j = 25 then 1 else if j = 3 then 1 else if j = 0 then 1 else f h j := by
  unfold z_u2
  simp only [if_pos]
theorem msl1 {f g : Nat → Int32} {b : Nat} (hg : ∀ j, g j = if j = 690 then 1 else if j = 668 then 1 else if j = 665 then 1 else if j = 25 then 1 else if j = 3 then 1 else if j = 0 then 1 else f j) (hf : ∀ j, f j = 0) (hb : b = 0 ∨ b = 1) : MSl (fun j => g (665 * b + j)) Sl1 := by
  have one : ∀ y, y < Sl1.n → y = 0 := fun y hy => by have : y < 1 := hy; omega
  rcases hb with rfl | rfl
  · refine ⟨(hg 0).trans rfl, (hg 1).trans (hf 1), (hg 2).trans (hf 2), (hg 3).trans rfl, (hg 4).trans (hf 4), fun y hy => ?_, fun _ i hi => ?_, fun e => absurd e (by decide), fun y z hy hz => ?_⟩
    · rw [one y hy]; exact (hg 5).trans (hf 5)
    · have : i = 0 := by have : i < 1 := hi; omega
      rw [this]; exact (hg 25).trans rfl
    · rw [one y hy, one z hz]; exact (hg 265).trans (hf 265)
  · refine ⟨(hg 665).trans rfl, (hg 666).trans (hf 666), (hg 667).trans (hf 667), (hg 668).trans rfl, (hg 669).trans (hf 669), fun y hy => ?_, fun _ i hi => ?_, fun e => absurd e (by decide), fun y z hy hz => ?_⟩
    · rw [one y hy]; exact (hg 670).trans (hf 670)
    · have : i = 0 := by have : i < 1 := hi; omega
      rw [this]; exact (hg 690).trans rfl
    · rw [one y hy, one z hz]; exact (hg 930).trans (hf 930)
theorem k_model (hd : 0 < d) (hm : 0 < m) (hz : z_sz S = m) (hk : z_kd S m = 13) (hI : ∀ k, I m k = 0) : ∃ S' I' J', z_ev d i_X12_init [.ref m] S I J none S' I' J' ∧ Mkd m 16 10711 S I J S' I' J' ∧ MW S' I' m Ws0 ∧ I' m 11 = 0 := by
  obtain ⟨d, rfl⟩ := z_dep hd
  have m0 : Mkd m 0 0 S I J S I J := Mkd.refl hz
  have l0 : Lays S m [] := trivial
  obtain ⟨S1, I1, e1, f1, m1, l1, x1, _⟩ := m0.arr l0 100 0 1995 1995 rfl rfl
  obtain ⟨S2, I2, e2, f2, m2, l2, x2, _⟩ := m1.arr l1 101 2 300 300 rfl rfl
  obtain ⟨S3, I3, e3, f3, m3, l3, x3, _⟩ := (m2.int 7 (-1)).arr l2 100 10 12 12 rfl rfl
  obtain ⟨S4, I4, e4, f4, m4, l4, x4, _⟩ := m3.arr l3 100 12 400 400 rfl rfl
  obtain ⟨S5, I5, e5, f5, m5, l5, x5, _⟩ := m4.arr l4 100 13 1200 1200 rfl rfl
  obtain ⟨S6, I6, e6, f6, m6, l6, x6, _⟩ := m5.arr l5 100 16 8 8 rfl rfl
  obtain ⟨S7, I7, e7, f7, m7, l7, x7, _⟩ := m6.arr l6 100 18 5328 5328 rfl rfl
  obtain ⟨S8, I8, e8, f8, m8, l8, x8, _⟩ := m7.arr l7 100 20 20 20 rfl rfl
  obtain ⟨S9, I9, e9, f9, m9, l9, x9, _⟩ := m8.arr l8 100 21 20 20 rfl rfl
  obtain ⟨S10, I10, e10, f10, m10, l10, x10, _⟩ := m9.arr l9 100 22 128 128 rfl rfl
  obtain ⟨S11, I11, e11, f11, m11, l11, x11, _⟩ := m10.arr l10 100 24 400 400 rfl rfl
  obtain ⟨S12, I12, e12, f12, m12, l12, x12, _⟩ := m11.arr l11 100 25 20 20 rfl rfl
  obtain ⟨S13, I13, e13, f13, m13, l13, x13, _⟩ := m12.arr l12 100 29 40 40 rfl rfl
  obtain ⟨S14, I14, e14, f14, m14, l14, x14, _⟩ := m13.arr l13 100 30 20 20 rfl rfl
  obtain ⟨S15, I15, e15, f15, m15, l15, x15, _⟩ := m14.arr l14 100 31 20 20 rfl rfl
  obtain ⟨S16, I16, e16, f16, m16, l16, x16, _⟩ := m15.arr l15 100 32 800 800 rfl rfl
  have kk : z_kd S16 m = 13 := by rw [m16.ki]; exact hk
  have rm : ∀ k, k ≠ 7 → I16 m k = 0 := fun k h7 => by rw [(x16 _ (by omega)).2.2.2.1, (x15 _ (by omega)).2.2.2.1, (x14 _ (by omega)).2.2.2.1, (x13 _ (by omega)).2.2.2.1, (x12 _ (by omega)).2.2.2.1, (x11 _ (by omega)).2.2.2.1, (x10 _ (by omega)).2.2.2.1, (x9 _ (by omega)).2.2.2.1, (x8 _ (by omega)).2.2.2.1, (x7 _ (by omega)).2.2.2.1, (x6 _ (by omega)).2.2.2.1, (x5 _ (by omega)).2.2.2.1, (x4 _ (by omega)).2.2.2.1, (x3 _ (by omega)).2.2.2.1, z_u2_nk h7, (x2 _ (by omega)).2.2.2.1, (x1 _ (by omega)).2.2.2.1]; exact hI k
  have r7 : I16 m 7 = -1 := by rw [(x16 _ (by omega)).2.2.2.1, (x15 _ (by omega)).2.2.2.1, (x14 _ (by omega)).2.2.2.1, (x13 _ (by omega)).2.2.2.1, (x12 _ (by omega)).2.2.2.1, (x11 _ (by omega)).2.2.2.1, (x10 _ (by omega)).2.2.2.1, (x9 _ (by omega)).2.2.2.1, (x8 _ (by omega)).2.2.2.1, (x7 _ (by omega)).2.2.2.1, (x6 _ (by omega)).2.2.2.1, (x5 _ (by omega)).2.2.2.1, (x4 _ (by omega)).2.2.2.1, (x3 _ (by omega)).2.2.2.1, z_u2_same]
  have r1 : ∀ k, I16 (m + 1) k = 0 := fun k => by rw [(x16 _ (by omega)).2.2.2.1, (x15 _ (by omega)).2.2.2.1, (x14 _ (by omega)).2.2.2.1, (x13 _ (by omega)).2.2.2.1, (x12 _ (by omega)).2.2.2.1, (x11 _ (by omega)).2.2.2.1, (x10 _ (by omega)).2.2.2.1, (x9 _ (by omega)).2.2.2.1, (x8 _ (by omega)).2.2.2.1, (x7 _ (by omega)).2.2.2.1, (x6 _ (by omega)).2.2.2.1, (x5 _ (by omega)).2.2.2.1, (x4 _ (by omega)).2.2.2.1, (x3 _ (by omega)).2.2.2.1, z_u2_row (by omega), (x2 _ (by omega)).2.2.2.1, ← f1, hz, z_ur_same]
  have hL : MLay S16 m := ⟨kk, l16.2.2.2.2.2.2.2.2.2.2.2.2.2.2.2.1, l16.2.2.2.2.2.2.2.2.2.2.2.2.2.2.1, l16.2.2.2.2.2.2.2.2.2.2.2.2.2.1, l16.2.2.2.2.2.2.2.2.2.2.2.2.1, l16.2.2.2.2.2.2.2.2.2.2.2.1, l16.2.2.2.2.2.2.2.2.2.2.1, l16.2.2.2.2.2.2.2.2.2.1, l16.2.2.2.2.2.2.2.2.1, l16.2.2.2.2.2.2.2.1, l16.2.2.2.2.2.2.1, l16.2.2.2.2.2.1, l16.2.2.2.2.1, l16.2.2.2.1, l16.2.2.1, l16.2.1, l16.1⟩
  have h0 := hL.2.1
  obtain ⟨I', F⟩ : ∃ I', I' = z_u2 (z_u2 (z_u2 (z_u2 (z_u2 (z_u2 I16 (m + 1) 0 1) (m + 1) 3 1) (m + 1) 25 1) (m + 1) 665 1) (m + 1) 668 1) (m + 1) 690 (1 : Int32) := ⟨_, rfl⟩
  have nr : ∀ y, y ≠ m + 1 → I' y = I16 y := fun y hy => by rw [F, z_u2_row hy, z_u2_row hy, z_u2_row hy, z_u2_row hy, z_u2_row hy, z_u2_row hy]
  have nm := nr m (by omega)
  refine ⟨S16, I', J, e_X12_init (b_X12_init_0 (by omega) (by decide) (by rw [m0.nk]; exact hk) ?_), ⟨m16.1, m16.2.1, m16.2.2.1, m16.2.2.2.1, fun y hy => ⟨(m16.2.2.2.2 y hy).1, by rw [nr y (by omega)]; exact (m16.2.2.2.2 y hy).2⟩⟩, ⟨hL, fun s hs => ?_, by rw [nm]; exact rm 19 (by decide), fun k hk => absurd (show k < 0 from hk) (by omega), by rw [nm]; exact rm 3 (by decide), fun j hj => absurd (show j < 0 from hj) (by omega), by rw [nm]; exact rm 6 (by decide), by rw [nm]; exact r7⟩, by rw [nm]; exact rm 11 (by decide)⟩
  · rw [e1, f1]
    refine b_X12_init_13 (by decide) (by rw [m1.nk]; exact hk) ?_
    rw [e2, f2]
    refine b_X12_init_22 (by rw [m2.ki]; exact hk) ?_
    refine b_X12_init_27 (by decide) (by rw [(m2.int 7 (-1)).nk]; exact hk) ?_
    rw [e3, f3]
    refine b_X12_init_35 (by decide) (by rw [m3.nk]; exact hk) ?_
    rw [e4, f4]
    refine b_X12_init_44 (by decide) (by rw [m4.nk]; exact hk) ?_
    rw [e5, f5]
    refine b_X12_init_53 (by decide) (by rw [m5.nk]; exact hk) ?_
    rw [e6, f6]
    refine b_X12_init_61 (by decide) (by rw [m6.nk]; exact hk) ?_
    rw [e7, f7]
    refine b_X12_init_70 (by decide) (by rw [m7.nk]; exact hk) ?_
    rw [e8, f8]
    refine b_X12_init_78 (by decide) (by rw [m8.nk]; exact hk) ?_
    rw [e9, f9]
    refine b_X12_init_86 (by decide) (by rw [m9.nk]; exact hk) ?_
    rw [e10, f10]
    refine b_X12_init_95 (by decide) (by rw [m10.nk]; exact hk) ?_
    rw [e11, f11]
    refine b_X12_init_104 (by decide) (by rw [m11.nk]; exact hk) ?_
    rw [e12, f12]
    refine b_X12_init_112 (by decide) (by rw [m12.nk]; exact hk) ?_
    rw [e13, f13]
    refine b_X12_init_120 (by decide) (by rw [m13.nk]; exact hk) ?_
    rw [e14, f14]
    refine b_X12_init_128 (by decide) (by rw [m14.nk]; exact hk) ?_
    rw [e15, f15]
    refine b_X12_init_136 (by decide) (by rw [m15.nk]; exact hk) ?_
    rw [e16, f16]
    refine b_X12_init_145 (b_X12_init_147 (fun z => absurd z (by decide)) (fun _ => ?_))
    refine b_X12_init_152 kk ⟨by rw [h0.1]; exact h0.2.1, by rw [h0.1, h0.2.2]; exact (m_idx (a := 0) (x := (665 : Int32) * 0 + 0) (by decide) (by decide) (by decide)).1⟩ kk ⟨by rw [h0.1]; exact h0.2.1, by rw [h0.1, h0.2.2]; exact (m_idx (a := 3) (x := (665 : Int32) * 0 + 3) (by decide) (by decide) (by decide)).1⟩ rfl kk ⟨by rw [h0.1]; exact h0.2.1, by rw [h0.1, h0.2.2]; exact (m_idx (a := 25) (x := (665 : Int32) * 0 + 25) (by decide) (by decide) (by decide)).1⟩ ?_
    refine b_X12_init_147 (fun z => absurd z (by decide)) (fun _ => ?_)
    refine b_X12_init_152 kk ⟨by rw [h0.1]; exact h0.2.1, by rw [h0.1, h0.2.2]; exact (m_idx (a := 665) (x := (665 : Int32) * (0 + 1) + 0) (by decide) (by decide) (by decide)).1⟩ kk ⟨by rw [h0.1]; exact h0.2.1, by rw [h0.1, h0.2.2]; exact (m_idx (a := 668) (x := (665 : Int32) * (0 + 1) + 3) (by decide) (by decide) (by decide)).1⟩ rfl kk ⟨by rw [h0.1]; exact h0.2.1, by rw [h0.1, h0.2.2]; exact (m_idx (a := 690) (x := (665 : Int32) * (0 + 1) + 25) (by decide) (by decide) (by decide)).1⟩ ?_
    refine b_X12_init_147 (fun _ => b_X12_init_198 ⟨rfl, rfl, ?_, rfl⟩) (fun z => absurd (by decide) z)
    rw [h0.1, show Int32.toNatClampNeg ((665 : Int32) * 0 + 0) = 0 by decide, show Int32.toNatClampNeg ((665 : Int32) * 0 + 3) = 3 by decide, show Int32.toNatClampNeg ((665 : Int32) * 0 + 25) = 25 by decide, show Int32.toNatClampNeg ((665 : Int32) * (0 + 1) + 0) = 665 by decide, show Int32.toNatClampNeg ((665 : Int32) * (0 + 1) + 3) = 668 by decide, show Int32.toNatClampNeg ((665 : Int32) * (0 + 1) + 25) = 690 by decide, F]
  · exact msl1 (f := I16 (m + 1)) (g := I' (m + 1)) (fun j => by rw [F]; exact u6 _ _ _) r1 (by omega)
end KI5

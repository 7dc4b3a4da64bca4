/-! CONSTRUCTORS: the class's, the two networks -/
section KI7
variable {d a : Nat} {S S4 : zS} {I I4 : zI} {J J4 : zJ}
theorem k_class2 (hd : 1 < d) (hk : z_kd S a = 12) (m4 : Mkd a 18 964 S I J S4 I4 J4) (l4 : Lays S4 a [(2, 2, 11, 0), (0, 1, 101, 300)]) : ∃ S8 I8 J8, Mkd a 43 2926 S I J S8 I8 J8 ∧ Lays S8 a [(5, 19, 102, 2), (2, 2, 11, 0), (0, 1, 101, 300)] ∧ Blk (a + 1) (a + 18) S4 S8 ∧ (∀ y, y ≤ a + 18 → I8 y = I4 y) ∧ (NLay S8 (a + 20) ∧ z_rv S8 (a + 20) 0 = a + 10 ∧ (∀ k, I8 (a + 20) k = 0) ∧ ∀ k, J8 (a + 20) k = 0) ∧ (NLay S8 (a + 32) ∧ z_rv S8 (a + 32) 0 = a + 10 ∧ (∀ k, I8 (a + 32) k = 0) ∧ ∀ k, J8 (a + 32) k = 0) ∧ z_rv S8 (a + 19) 0 = a + 20 ∧ ∀ (Q : zQ) (v1 : Value), Go d i_X11_init 110 [.ref a, .ref (a + 10)] [.ref (a + 32), .int (1 : Int32), .ref (a + 19)] S8 I8 J8 Q → Go d i_X11_init 74 [.ref a, v1] [.ref (a + 10)] S4 I4 J4 Q := by
  obtain ⟨S5, e5, m5, l5, x5, _⟩ := m4.aar l4 102 5 2 2 rfl rfl
  have z5 : z_sz S5 = a + 19 := m5.1
  obtain ⟨S6, I6, J6, e6, m6, i6, r6, n6⟩ := k_net (d := d) (h1 := a + 10) (g := z_sz S5 + 1) (S := z_new S5 9 0 11) (I := z_ur I4 (z_sz S5 + 1) (fun _ => 0)) (J := z_ur J4 (z_sz S5 + 1) (fun _ => 0)) hd (Nat.succ_pos _) rfl z_kd_new
  obtain ⟨m6', x6, q6, j6⟩ := m5.app m6
  have l6 := l5.nxw (by omega) x6 rfl
  obtain ⟨S7, e7, m7, l7, x7, y7, w7⟩ := m6'.setw l6 (a + 19) 0 (z_sz S5 + 1) (by omega) rfl
  have z7 : z_sz S7 = a + 31 := m7.1
  obtain ⟨S8, I8, J8, e8, m8, i8, r8, n8⟩ := k_net (d := d) (h1 := a + 10) (g := z_sz S7 + 1) (S := z_new S7 9 0 11) (I := z_ur I6 (z_sz S7 + 1) (fun _ => 0)) (J := z_ur J6 (z_sz S7 + 1) (fun _ => 0)) hd (Nat.succ_pos _) rfl z_kd_new
  obtain ⟨m8', x8, q8, j8⟩ := m7.app m8
  have l8 := l7.nxw (by omega) x8 rfl
  have i6' : ∀ k, I6 (z_sz S5 + 1) k = 0 := fun k => by rw [i6]; exact z_ur_same
  have i8' : ∀ k, I8 (z_sz S7 + 1) k = 0 := fun k => by rw [i8]; exact z_ur_same
  have r5 : z_rv S5 a 5 = a + 19 := l5.1.1
  have r7 : z_rv S7 a 5 = a + 19 := l7.1.1
  have k6 : z_kd S6 a = 12 := by rw [m6'.ki]; exact hk
  have k5 : z_kd S5 a = 12 := by rw [m5.ki]; exact hk
  have k19 : z_kd S6 (a + 19) = 102 ∧ z_ln S6 (a + 19) = 2 := l6.1.2
  have q6' : z_kd S6 (z_sz S5 + 1) = 9 := q6
  have B7 : Blk (a + 20) (a + 31) S7 S8 := x8.bl (Nat.le_refl _) (Or.inr (by omega))
  have B6 : Blk (a + 20) (a + 31) S6 S8 := Blk.trans (x7.bl (Nat.le_refl _) (Or.inl (by omega))) B7
  have C7 : Blk (a + 1) (a + 18) S7 S8 := x8.bl (by omega) (Or.inr (by omega))
  have C6 : Blk (a + 1) (a + 18) S6 S8 := Blk.trans (x7.bl (by omega) (Or.inr (by omega))) C7
  have C5 : Blk (a + 1) (a + 18) S5 S8 := Blk.trans (x6.bl (by omega) (Or.inr (by omega))) C6
  have B4 : Blk (a + 1) (a + 18) S4 S8 := Blk.trans (x5.bl (by omega) (Or.inl (by omega))) C5
  have h20 := x8 (a + 20) (by omega)
  have h19 := x8 (a + 19) (by omega)
  refine ⟨S8, I8, J8, m8', l8, B4, fun y hy => ?_, ?_, ?_, ?_, fun Q v1 hgo => ?_⟩
  · have h1 := x6 y (by omega); have h2 := x8 y (by omega)
    rw [h2.2.2.2.1, h1.2.2.2.1]
  · rw [z5] at i6' r6 n6 j6
    refine ⟨n6.bk B6 (by omega) (by omega), ?_, fun k => by rw [h20.2.2.2.1]; exact i6' k, fun k => ?_⟩
    · rw [(B6 (a + 20) (by omega) (by omega)).2.2]; exact r6
    · rw [h20.2.2.2.2, show a + 20 = a + 19 + 1 from rfl, j6]
  · rw [z7] at i8' r8 n8 j8
    exact ⟨n8, r8, i8', fun k => by rw [show a + 32 = a + 31 + 1 from rfl, j8]⟩
  · rw [h19.2.2.1 (by omega), w7, z5]
  · refine b_X11_init_74 (by omega) (by decide) (by rw [m4.nk]; exact hk) ?_
    rw [e5]
    refine b_X11_init_83 k5 (by omega) (z_ev.wp e6 ?_)
    rw [r5]
    have t0 : Int32.toNatClampNeg (0 : Int32) = 0 := rfl
    refine b_X11_init_96 ⟨by rw [k19.1]; rfl, by rw [k19.2]; exact (m_idx (a := 0) rfl (by decide) (by decide)).1, by rw [k19.1, q6']; rfl⟩ k6 (by omega) ?_
    rw [t0, e7]
    refine z_ev.wp e8 ?_
    rw [r7, z7]
    exact hgo
end KI7

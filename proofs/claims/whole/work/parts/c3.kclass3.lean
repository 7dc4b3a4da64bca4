/-! CONSTRUCTORS: the class's, the rest -/
section KI8
variable {d a : Nat} {S S8 : zS} {I I8 : zI} {J J8 : zJ}
theorem k_class3 (hd : 1 < d) (hk : z_kd S a = 12) (m8 : Mkd a 43 2926 S I J S8 I8 J8) (l8 : Lays S8 a [(5, 19, 102, 2), (2, 2, 11, 0), (0, 1, 101, 300)]) (q8 : z_kd S8 (a + 32) = 9) : ∃ S19 I19 J16, Mkd a 71 4531 S I J S19 I19 J16 ∧ Lays S19 a [(11, 71, 100, 20), (10, 70, 100, 20), (9, 57, 10, 0), (8, 53, 8, 0), (7, 48, 4, 0), (6, 44, 5, 0), (5, 19, 102, 2), (2, 2, 11, 0), (0, 1, 101, 300)] ∧ Blk (a + 1) (a + 18) S8 S19 ∧ Blk (a + 20) (a + 43) S8 S19 ∧ (z_rv S19 (a + 19) 0 = z_rv S8 (a + 19) 0 ∧ z_rv S19 (a + 19) 1 = a + 32) ∧ (∀ y, y ≤ a + 43 → I19 y = I8 y ∧ J16 y = J8 y) ∧ (HL S19 (a + 44) ∧ ∀ k, I19 (a + 44) k = 0) ∧ QLay S19 (a + 48) ∧ ML S19 (a + 53) ∧ OL S19 (a + 57) ∧ ∀ (Q : zQ), Q none S19 I19 J16 → Go d i_X11_init 110 [.ref a, .ref (a + 10)] [.ref (a + 32), .int (1 : Int32), .ref (a + 19)] S8 I8 J8 Q := by
  have hd0 : 0 < d := by omega
  obtain ⟨S9, e9, m9, l9, x9, y9, w9⟩ := m8.setw l8 (a + 19) 1 (a + 32) (by omega) rfl
  have z9 : z_sz S9 = a + 43 := m9.1
  obtain ⟨S10, I10, J10, e10, m10, i10, n10⟩ := k_history (d := d) (g := z_sz S9 + 1) (S := z_new S9 5 0 5) (I := z_ur I8 (z_sz S9 + 1) (fun _ => 0)) (J := z_ur J8 (z_sz S9 + 1) (fun _ => 0)) hd0 (Nat.succ_pos _) rfl z_kd_new (fun k => z_ur_same)
  obtain ⟨S11, e11, m11, l11, x11, b11, k11⟩ := m9.subl l9 6 m10 rfl
  have z11 : z_sz S11 = a + 47 := m11.1
  obtain ⟨S12, I12, J12, e12, m12, n12⟩ := k_match (d := d) (g := z_sz S11 + 1) (S := z_new S11 4 0 9) (I := z_ur I10 (z_sz S11 + 1) (fun _ => 0)) (J := z_ur J10 (z_sz S11 + 1) (fun _ => 0)) hd0 (Nat.succ_pos _) rfl z_kd_new
  obtain ⟨S13, e13, m13, l13, x13, b13, k13⟩ := m11.subl l11 7 m12 rfl
  have z13 : z_sz S13 = a + 52 := m13.1
  obtain ⟨S14, I14, J14, e14, m14, n14⟩ := k_maker (d := d) (g := z_sz S13 + 1) (S := z_new S13 8 0 8) (I := z_ur I12 (z_sz S13 + 1) (fun _ => 0)) (J := z_ur J12 (z_sz S13 + 1) (fun _ => 0)) hd0 (Nat.succ_pos _) rfl z_kd_new
  obtain ⟨S15, e15, m15, l15, x15, b15, k15⟩ := m13.subl l13 8 m14 rfl
  have z15 : z_sz S15 = a + 56 := m15.1
  obtain ⟨S16, I16, J16, e16, m16, n16⟩ := k_other (d := d) (g := z_sz S15 + 1) (S := z_new S15 10 0 6) (I := z_ur I14 (z_sz S15 + 1) (fun _ => 0)) (J := z_ur J14 (z_sz S15 + 1) (fun _ => 0)) hd (Nat.succ_pos _) rfl z_kd_new
  obtain ⟨S17, e17, m17, l17, x17, b17, k17⟩ := m15.subl l15 9 m16 rfl
  have z17 : z_sz S17 = a + 69 := m17.1
  obtain ⟨S18, I18, e18, f18, m18, l18, x18, _⟩ := m17.arr l17 100 10 20 20 rfl rfl
  obtain ⟨S19, I19, e19, f19, m19, l19, x19, _⟩ := m18.arr l18 100 11 20 20 rfl rfl
  have la : a < a + 1 := Nat.lt_succ_self a
  have up : ∀ {i j : Nat}, i ≤ j → a + i ≤ a + j := fun h => Nat.add_le_add_left h a
  have B17 : Blk (a + 1) (a + 69) S17 S19 := Blk.trans (x18.bl (Nat.le_refl _) (Or.inl la)) (x19.bl (up (by decide)) (Or.inl la))
  have B16 : Blk (a + 1) (a + 69) S16 S19 := Blk.trans (b17.sub (Nat.le_refl _) (Nat.le_refl _)) B17
  have B15 : Blk (a + 1) (a + 56) S15 S19 := Blk.trans (x17.bl (Nat.le_refl _) (Or.inl la)) (B17.sub (Nat.le_refl _) (up (by decide)))
  have B14 : Blk (a + 1) (a + 56) S14 S19 := Blk.trans (b15.sub (Nat.le_refl _) (Nat.le_refl _)) B15
  have B13 : Blk (a + 1) (a + 52) S13 S19 := Blk.trans (x15.bl (Nat.le_refl _) (Or.inl la)) (B15.sub (Nat.le_refl _) (up (by decide)))
  have B12 : Blk (a + 1) (a + 52) S12 S19 := Blk.trans (b13.sub (Nat.le_refl _) (Nat.le_refl _)) B13
  have B11 : Blk (a + 1) (a + 47) S11 S19 := Blk.trans (x13.bl (Nat.le_refl _) (Or.inl la)) (B13.sub (Nat.le_refl _) (up (by decide)))
  have B10 : Blk (a + 1) (a + 47) S10 S19 := Blk.trans (b11.sub (Nat.le_refl _) (Nat.le_refl _)) B11
  have B9 : Blk (a + 1) (a + 43) S9 S19 := Blk.trans (x11.bl (Nat.le_refl _) (Or.inl la)) (B11.sub (Nat.le_refl _) (up (by decide)))
  have B8 : Blk (a + 20) (a + 43) S8 S19 := Blk.trans (x9.bl (Nat.le_refl _) (Or.inl (Nat.lt_succ_self (a + 19)))) (B9.sub (up (by decide)) (Nat.le_refl _))
  have C8 : Blk (a + 1) (a + 18) S8 S19 := Blk.trans (x9.bl (up (by decide)) (Or.inr (Nat.lt_succ_self (a + 18)))) (B9.sub (Nat.le_refl _) (up (by decide)))
  have T10 : ∀ y, y ≤ a + 47 → I19 y = I10 y ∧ J16 y = J10 y := fun y hy => by
    have h1 := x13 y hy
    have h2 := x15 y (Nat.le_trans hy (up (by decide)))
    have h3 := x17 y (Nat.le_trans hy (up (by decide)))
    have h4 := x18 y (Nat.le_trans hy (up (by decide)))
    have h5 := x19 y (Nat.le_trans hy (up (by decide)))
    exact ⟨by rw [h5.2.2.2.1, h4.2.2.2.1, h3.2.2.2.1, h2.2.2.2.1, h1.2.2.2.1], by rw [h3.2.2.2.2, h2.2.2.2.2, h1.2.2.2.2]⟩
  have T8 : ∀ y, y ≤ a + 43 → I19 y = I8 y ∧ J16 y = J8 y := fun y hy => by
    have h1 := x11 y hy
    have h2 := T10 y (Nat.le_trans hy (up (by decide)))
    exact ⟨by rw [h2.1, h1.2.2.2.1], by rw [h2.2, h1.2.2.2.2]⟩
  have e19r := (B9 (a + 19) (up (by decide)) (up (by decide))).2.2
  have k19 : z_kd S8 (a + 19) = 102 ∧ z_ln S8 (a + 19) = 2 := l8.1.2
  have i10' : ∀ k, I10 (z_sz S9 + 1) k = 0 := fun k => by rw [i10]; exact z_ur_same
  refine ⟨S19, I19, J16, m19, l19, C8, B8, ⟨by rw [e19r, y9 0 (by decide)], by rw [e19r]; exact w9⟩, T8, ?_, ?_, ?_, ?_, fun Q hq => ?_⟩
  · rw [z9] at n10 i10'
    exact ⟨n10.bk B10 (by omega) (by omega), fun k => by rw [(T10 (a + 44) (up (by decide))).1]; exact i10' k⟩
  · rw [z11] at n12; exact n12.bk B12 (by omega) (by omega)
  · rw [z13] at n14; exact n14.bk B14 (by omega) (by omega)
  · rw [z15] at n16; exact n16.bk B16 (by omega) (by omega)
  · have t1 : Int32.toNatClampNeg (1 : Int32) = 1 := rfl
    have hki : ∀ {T : zS}, z_kd T a = z_kd S a → z_kd T a = 12 := fun h => by rw [h]; exact hk
    refine b_X11_init_110 ⟨by rw [k19.1]; rfl, by rw [k19.2]; exact (m_idx (a := 1) rfl (by decide) (by decide)).1, by rw [k19.1, q8]; rfl⟩ (by omega) ?_
    rw [t1, e9]
    refine z_ev.wp e10 (b_X11_init_119 (hki k11) ?_)
    rw [e11]
    refine b_X11_init_122 (by omega) (z_ev.wp e12 (b_X11_init_130 (hki k13) ?_))
    rw [e13]
    refine b_X11_init_133 (by omega) (z_ev.wp e14 (b_X11_init_141 (hki k15) ?_))
    rw [e15]
    refine b_X11_init_144 (by omega) (z_ev.wp e16 (b_X11_init_152 (hki k17) ?_))
    rw [e17]
    refine b_X11_init_155 (by decide) (hki m17.nk) ?_
    rw [e18, f18]
    refine b_X11_init_163 (by decide) (hki m18.nk) ?_
    rw [e19, f19]
    exact b_X11_init_171 hq
theorem k_class (hd : 3 < d) (ha : 0 < a) (hz : z_sz S = a) (hk : z_kd S a = 12) (hI : ∀ k, I a k = 0) : ∃ S' I' J', z_ev d i_X11_init [.ref a] S I J none S' I' J' ∧ Mkd a 71 4531 S I J S' I' J' ∧ CW S' I' J' a Ws0 := by
  obtain ⟨d, rfl⟩ := z_dep (d := d) (by omega)
  obtain ⟨S4, I4, J4, m4, l4, R4, ⟨g4, k4, u4, v4, v46, v460, v410⟩, ak, a4, go1⟩ := k_class1 (d := d) (J := J) (by omega) ha hz hk hI
  obtain ⟨S8, I8, J8, m8, l8, B4, T4, ⟨n1, r1, i1, j1⟩, ⟨n2, r2, i2, j2⟩, r0, go2⟩ := k_class2 (d := d) (by omega) hk m4 l4
  obtain ⟨S', I', J', m9, l9, C8, B8, ⟨w0, w1⟩, T8, ⟨hh, ih⟩, hq, hm, ho, go3⟩ := k_class3 (d := d) (by omega) hk m8 l8 n2.1
  have up : ∀ {i j : Nat}, i ≤ j → a + i ≤ a + j := fun h => Nat.add_le_add_left h a
  have B : Blk (a + 1) (a + 18) S4 S' := B4.trans C8
  have T : ∀ y, y ≤ a + 18 → I' y = I4 y := fun y hy => by rw [(T8 y (Nat.le_trans hy (up (by decide)))).1, T4 y hy]
  have hL : CLay S' a := ⟨by rw [m9.ki]; exact hk, l9.2.2.2.2.2.2.2.2.1, ⟨l9.2.2.2.2.2.2.2.1.1, R4.bk (B.sub (Nat.le_refl _) (up (by decide)))⟩, l9.2.2.2.2.2.2.1, ⟨by rw [w0]; exact r0, w1⟩, ⟨l9.2.2.2.2.2.1.1, hh⟩, ⟨l9.2.2.2.2.1.1, hq⟩, ⟨l9.2.2.2.1.1, hm⟩, ⟨l9.2.2.1.1, ho⟩, l9.2.1, l9.1, n1.bk B8 (by omega) (by omega), n2.bk B8 (by omega) (by omega)⟩
  refine ⟨S', I', J', e_X11_init (go1 _ _ (go2 _ _ (go3 _ ⟨rfl, rfl, rfl, rfl⟩))), m9, cw0 hL m9.1 ?_ ?_ (g4.bk (B.sub (up (by decide)) (Nat.le_refl _)) (fun y _ h2 => T y h2) v4 v46 v460 v410 rfl) ?_ ?_ ?_ ?_ ?_ ?_ ih ?_ ?_⟩
  · rw [(B (a + 10) (up (by decide)) (up (by decide))).1]; exact k4
  · intro h h1 h2 h3
    rw [(B h (by omega) (by omega)).1] at h3
    exact u4 h h1 h2 h3
  · rw [(B8 (a + 20) (Nat.le_refl _) (up (by decide))).2.2]; exact r1
  · rw [(B8 (a + 32) (up (by decide)) (up (by decide))).2.2]; exact r2
  · intro k; rw [(T8 (a + 20) (up (by decide))).1]; exact i1 k
  · intro k; rw [(T8 (a + 32) (up (by decide))).1]; exact i2 k
  · intro k; rw [(T8 (a + 20) (up (by decide))).2]; exact j1 k
  · intro k; rw [(T8 (a + 32) (up (by decide))).2]; exact j2 k
  · intro k h; rw [T a (Nat.le_add_right a 18)]; exact ak k h
  · rw [T a (Nat.le_add_right a 18)]; exact a4
end KI8

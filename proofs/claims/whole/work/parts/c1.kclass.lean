/-! CONSTRUCTORS: the class's -/
section KI6
variable {d a w : Nat} {S : zS} {I : zI} {J : zJ}
theorem csl0 (hw : w = a + 20 ∨ w = a + 32) (hG : IsG S a (a + 10)) (hg : GC S I a (a + 10) Sl1) (hr : z_rv S w 0 = a + 10) (hL : NLay S w) (hI : ∀ k, I w k = 0) (hJ : ∀ k, J w k = 0) : CSl S I J a w (fun _ => Sl1) Sl1 := by
  refine ⟨by rw [hr]; exact hG, rfl, ⟨hw, hL, by rw [hr]; exact hg.1, hI 1, by decide, by decide, Or.inl (hI 8), Or.inl (hI 9)⟩, Or.inl (hJ 2), Or.inl (hI 3)⟩
theorem cw0 (hL : CLay S a) (hz : z_sz S = a + 71) (hk : z_kd S (a + 10) = 2) (hu : ∀ h, a + 10 ≤ h → h < a + 19 → z_kd S h = 2 → h = a + 10) (hg : GC S I a (a + 10) Sl1) (r1 : z_rv S (a + 20) 0 = a + 10) (r2 : z_rv S (a + 32) 0 = a + 10) (i1 : ∀ k, I (a + 20) k = 0) (i2 : ∀ k, I (a + 32) k = 0) (j1 : ∀ k, J (a + 20) k = 0) (j2 : ∀ k, J (a + 32) k = 0) (i3 : ∀ k, I (a + 44) k = 0) (i4 : ∀ k, k ≠ 4 → I a k = 0) (i5 : I a 4 = -1) : CW S I J a Ws0 := by
  have hG : IsG S a (a + 10) := ⟨Or.inl ⟨by omega, by omega⟩, by omega, hk⟩
  refine ⟨fun _ => Sl1, hL, fun h hh => ?_, csl0 (Or.inl rfl) hG hg r1 hL.2.2.2.2.2.2.2.2.2.2.2.1 i1 j1, csl0 (Or.inr rfl) hG hg r2 hL.2.2.2.2.2.2.2.2.2.2.2.2 i2 j2, ⟨0, by decide, i3 1, i3 0, fun k hk => absurd (show k < 0 from hk) (by omega)⟩, ⟨i4 1 (by decide), fun k hk => absurd (show k < 0 from hk) (by omega)⟩, ⟨i4 3 (by decide), i5⟩, Or.inl (i4 13 (by decide)), Or.inl (i4 14 (by decide)), Or.inl (i4 15 (by decide))⟩
  obtain ⟨h1, h2, h3⟩ := hh
  have : h = a + 10 := hu h (by rcases h1 with h1 | h1 <;> omega) (by rcases h1 with h1 | h1 <;> omega) h3
  rw [this]; exact hg
theorem RLay.bk {S' : zS} (h : RLay S a) (hb : Blk (a + 1) (a + 9) S S') : RLay S' a := by
  obtain ⟨h1, h2, h3, h4, h5, h6, h7, h8⟩ := h
  have e2 := hb (a + 2) (by omega) (by omega)
  have e9 := hb (a + 9) (by omega) (by omega)
  have e1 := hb (a + 1) (by omega) (by omega)
  exact ⟨by rw [e2.1]; exact h1, by rw [e2.2.2]; exact h2, by rw [e2.2.2]; exact h3, h4.bk hb (by omega) (by omega), by rw [e9.1]; exact h5, by rw [e9.2.2]; exact h6, by rw [e1.1]; exact h7, by rw [e1.2.1]; exact h8⟩
/-- the first part: the tape, the reader, the group -/
theorem k_class1 (hd : 2 < d) (ha : 0 < a) (hz : z_sz S = a) (hk : z_kd S a = 12) (hI : ∀ k, I a k = 0) : ∃ S4 I4 J4, Mkd a 18 964 S I J S4 I4 J4 ∧ Lays S4 a [(2, 2, 11, 0), (0, 1, 101, 300)] ∧ RLay S4 a ∧ (GC S4 I4 a (a + 10) Sl1 ∧ z_kd S4 (a + 10) = 2 ∧ (∀ h, a + 10 ≤ h → h < a + 19 → z_kd S4 h = 2 → h = a + 10) ∧ (∀ k, 1 ≤ k → k ≤ 7 → a + 10 ≤ z_rv S4 (a + 10) k ∧ z_rv S4 (a + 10) k ≤ a + 18) ∧ z_rv S4 (a + 10) 6 = a + 12 ∧ z_rv S4 (a + 12) 0 = a + 13 ∧ z_rv S4 (a + 10) 10 = 0) ∧ (∀ k, k ≠ 4 → I4 a k = 0) ∧ I4 a 4 = -1 ∧ ∀ (Q : zQ) (v1 : Value), Go d i_X11_init 74 [.ref a, v1] [.ref (a + 10)] S4 I4 J4 Q → Go d i_X11_init 0 [.ref a, v1] [] S I J Q := by
  have hd1 : 1 < d := by omega
  have m0 : Mkd a 0 0 S I J S I J := Mkd.refl hz
  have l0 : Lays S a [] := trivial
  obtain ⟨S1, I1, e1, f1, m1, l1, x1, _⟩ := m0.arr l0 101 0 300 300 rfl rfl
  have z1 : z_sz S1 = a + 1 := m1.1
  obtain ⟨S2, I2, J2, e2, m2, p5, p6, p7, p8, p9⟩ := k_reader (d := d) (h1 := z_rv (z_new S1 11 0 7) a 0) (g := z_sz S1 + 1) (S := z_new S1 11 0 7) (I := z_ur (z_u2 I1 a 1 0) (z_sz S1 + 1) (fun _ => 0)) (J := z_ur J (z_sz S1 + 1) (fun _ => 0)) hd1 (Nat.succ_pos _) rfl z_kd_new
  obtain ⟨S3, e3, m3, l3, x3, b3, k3⟩ := (m1.int 1 0).subl l1 2 m2 rfl
  have z3 : z_sz S3 = a + 9 := m3.1
  obtain ⟨S4, I4, J4, o4, s4, c4, t4, g4, k4, u4, ⟨v4, v46, v460, v410⟩, go4⟩ := k_one (d := d) (h0 := a) (a := a) (S := S3) (I := z_u2 (z_u2 I2 a 3 0) a 4 (-1)) (J := J2) hd z3
  have x4 : Nx a (a + 9) S3 (z_u2 (z_u2 I2 a 3 0) a 4 (-1)) J2 S4 I4 J4 := o4.nx (by omega)
  have m4 : Mkd a 18 964 S I J S4 I4 J4 := ((m3.int 3 0).int 4 (-1)).nx x4 s4 (by have := m3.2.1; omega) (by have := m3.2.2.1; omega)
  have l4 := l3.nx (k := 99) x4 (fun j _ => by rw [(o4.2 a (by omega)).1.2]) rfl
  have B3 : Blk (a + 1) (a + 9) S3 S4 := x4.bl (Nat.le_refl _) (Or.inl (Nat.lt_succ_self a))
  have B2 : Blk (a + 1) (a + 9) S2 S4 := Blk.trans (b3.sub (Nat.le_refl _) (Nat.le_refl _)) B3
  have Ta : I4 a = z_u2 (z_u2 I2 a 3 0) a 4 (-1) a := (x4 a (by omega)).2.2.2.1
  have Tb : I2 a = z_u2 I1 a 1 0 a := (x3 a (by omega)).2.2.2.1
  have Tc : I1 a = I a := (x1 a (by omega)).2.2.2.1
  have a4 : I4 a 4 = -1 := by rw [Ta, z_u2_same]
  have ak : ∀ k, k ≠ 4 → I4 a k = 0 := fun k h4 => by
    rw [Ta, z_u2_nk h4]
    rcases Nat.decEq k 3 with h3 | h3
    · rw [z_u2_nk h3, Tb]
      rcases Nat.decEq k 1 with h1 | h1
      · rw [z_u2_nk h1, Tc]; exact hI k
      · rw [h1, z_u2_same]
    · rw [h3, z_u2_same]
  rw [z1] at p5 p6 p7 p8 p9
  have r0 : z_rv (z_new S1 11 0 7) a 0 = a + 1 := by rw [z_rv_nev (by omega)]; exact l1.1.1
  rw [r0] at p9
  have k2 : z_kd S4 (a + 2) = 11 := l4.1.2.1
  have k1 : z_kd S4 (a + 1) = 101 ∧ z_ln S4 (a + 1) = 300 := l4.2.1.2
  have e2' := B2 (a + 2) (by omega) (by omega)
  have e9' := B2 (a + 9) (by omega) (by omega)
  refine ⟨S4, I4, J4, m4, l4, ⟨k2, by rw [e2'.2.2]; exact p5, by rw [e2'.2.2]; exact p6, p7.bk B2 (by omega) (by omega), by rw [e9'.1]; exact p8, by rw [e9'.2.2]; exact p9, k1⟩, ⟨g4, k4, u4, v4, v46, v460, v410⟩, ak, a4, fun Q v1 hgo => ?_⟩
  have k1a : z_kd S1 a = 12 := by rw [m1.ki]; exact hk
  have k3a : z_kd S3 a = 12 := by rw [m3.ki]; exact hk
  refine b_X11_init_0 (by omega) (by decide) (by rw [m0.nk]; exact hk) ?_
  rw [e1, f1]
  refine b_X11_init_13 k1a (b_X11_init_18 (by rw [m1.nk]; exact hk) (by omega) (z_ev.wp e2 (b_X11_init_30 (by rw [k3]; exact hk) ?_)))
  rw [e3]
  exact b_X11_init_33 k3a (b_X11_init_38 k3a (go4 Q v1 hgo))
end KI6

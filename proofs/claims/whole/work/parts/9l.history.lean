/-! THE CLASS: its History, and what a slot becomes -/
/-- the History at h: slots h+1, groups h+2, steps h+3 -/
def HL (S : zS) (h : Nat) : Prop := z_kd S h = 5 ∧ Ar S h 2 (h + 1) 100 8 ∧ Ar S h 3 (h + 2) 103 8 ∧ Ar S h 4 (h + 3) 100 8
section C26
variable {d h w a : Nat} {S : zS} {I : zI} {J : zJ}
theorem i8_nx : ∀ k, k < 8 → (nI k + 1) - (nI k + 1) / (8 : Int32) * (8 : Int32) = nI ((k + 1) % 8) := by decide +kernel
theorem i8_bk : ∀ k, k < 8 → ((nI k + 8) - 1) - ((nI k + 8) - 1) / (8 : Int32) * (8 : Int32) = nI ((k + 7) % 8) := by decide +kernel
theorem c_hkeep {nx kp : Nat} (x1 : Int32) (hd : 1 < d) (hH : HL S h) (hx : I h 1 = nI nx) (hn : nx < 8) (hk : I h 0 = nI kp) (hkp : kp ≤ 8) (hw : z_kd S w = 9) (hg : z_kd S (z_rv S w 0) = 2) (o : w < h ∨ h + 3 < w) : ∃ I', z_ev d i_X4_keep [.ref h, .int x1, .ref w] S I J none (z_setR S (h + 2) nx (z_rv S w 0)) I' J ∧ (∀ x, x < h ∨ h + 3 < x → I' x = I x) ∧ I' h 1 = nI ((nx + 1) % 8) ∧ I' h 0 = nI (min 8 (kp + 1)) ∧ (I' (h + 1) nx = x1 ∧ ∀ j, j ≠ nx → I' (h + 1) j = I (h + 1) j) ∧ (I' (h + 3) nx = I w 1 ∧ ∀ j, j ≠ nx → I' (h + 3) j = I (h + 3) j) := by
  obtain ⟨d, rfl⟩ := z_dep (d := d) (by omega)
  obtain ⟨k5, a2, a3, a4⟩ := hH
  have e1 : (z_u2 I (h + 1) nx x1) h 1 = nI nx := by rw [z_u2_ne (by omega)]; exact hx
  have r4 : z_rv (z_setR S (h + 2) nx (z_rv S w 0)) h 4 = h + 3 := by rw [z_rv_setR, if_neg (by omega)]; exact a4.1
  obtain ⟨I2, hI2⟩ : ∃ I2, I2 = z_u2 (z_u2 I (h + 1) nx x1) (h + 3) nx (I w 1) := ⟨_, rfl⟩
  have e2 : I2 h 1 = nI nx := by rw [hI2, z_u2_ne (by omega)]; exact e1
  obtain ⟨I3, hI3⟩ : ∃ I3, I3 = z_u2 I2 h 1 (nI ((nx + 1) % 8)) := ⟨_, rfl⟩
  have e3 : I3 h 0 + 1 = nI (kp + 1) := by rw [hI3, z_u2_nk (by decide), hI2, z_u2_ne (by omega), z_u2_ne (by omega), hk, nI_1]
  refine ⟨z_u2 I3 h 0 (nI (min 8 (kp + 1))), e_X4_keep (b_X4_keep_0 k5 k5 (by rw [hx]; exact a2.wr hn (by decide)) k5 k5 hw ?_ rfl k5 k5 hw ?_ rfl k5 (by decide) k5 k5 ?_), fun x hx' => ?_, ?_, ?_, ⟨?_, fun j hj => ?_⟩, ?_, fun j hj => ?_⟩
  · rw [hx, nI_clamp (by omega), a2.1, e1, a3.kd, a3.ln]
    exact ⟨rfl, vp_in_nI hn (by decide), hg⟩
  · rw [hx, nI_clamp (by omega), a2.1, e1, nI_clamp (by omega), a3.1, r4]
    exact ⟨a4.2.1, by show vp_in (nI nx) (z_ln S (h + 3)); rw [a4.2.2]; exact vp_in_nI hn (by decide)⟩
  · rw [hx, nI_clamp (by omega), a2.1, e1, nI_clamp (by omega), a3.1, r4, z_u2_row (show w ≠ h + 1 by omega), ← hI2, e2, i8_nx nx hn, ← hI3, e3]
    exact ⟨_, _, _, _, ev_min (a := 8) (b := kp + 1) (by omega) (by decide) (by omega), b_X4_keep_61 k5 ⟨rfl, rfl, rfl, rfl⟩⟩
  · rw [z_u2_row (by omega), hI3, z_u2_row (by omega), hI2, z_u2_row (by omega), z_u2_row (by omega)]
  · rw [z_u2_nk (by decide), hI3, z_u2_same]
  · rw [z_u2_same]
  · rw [z_u2_row (by omega), hI3, z_u2_row (by omega), hI2, z_u2_row (by omega), z_u2_same]
  · rw [z_u2_row (by omega), hI3, z_u2_row (by omega), hI2, z_u2_row (by omega), z_u2_nk hj]
  · rw [z_u2_row (by omega), hI3, z_u2_row (by omega), hI2, z_u2_same]
  · rw [z_u2_row (by omega), hI3, z_u2_row (by omega), hI2, z_u2_nk hj, z_u2_row (by omega)]
theorem c_stepBack {nx kp : Nat} (hd : 1 < d) (hH : HL S h) (hx : I h 1 = nI nx) (hn : nx < 8) (hk : I h 0 = nI (kp + 1)) (hkp : kp < 8) : ∃ I', z_ev d i_X4_stepBack [.ref h] S I J none S I' J ∧ (∀ x, x ≠ h → I' x = I x) ∧ I' h 1 = nI ((nx + 7) % 8) ∧ I' h 0 = nI kp := by
  obtain ⟨d, rfl⟩ := z_dep (d := d) (by omega)
  obtain ⟨k5, a2, a3, a4⟩ := hH
  refine ⟨z_u2 (z_u2 I h 1 (nI ((nx + 7) % 8))) h 0 (nI kp), e_X4_stepBack (b_X4_stepBack_0 k5 (by decide) k5 rfl k5 ?_), fun x hx' => by rw [z_u2_row hx', z_u2_row hx'], by rw [z_u2_nk (by decide), z_u2_same], z_u2_same⟩
  rw [hx, i8_bk nx hn, z_u2_nk (by decide), hk, nI_pred]
  have := ev_max (d := d) (S := S) (I := z_u2 I h 1 (nI ((nx + 7) % 8))) (J := J) (a := 0) (b := kp) (by omega) (by decide) (by omega)
  rw [show max 0 kp = kp by omega] at this
  exact ⟨_, _, _, _, this, b_X4_stepBack_27 k5 ⟨rfl, rfl, rfl, rfl⟩⟩
theorem c_forget (hd : 0 < d) (hH : HL S h) : z_ev d i_X4_forget [.ref h] S I J none S (z_u2 I h 0 0) J := by
  obtain ⟨d, rfl⟩ := z_dep hd
  exact e_X4_forget (b_X4_forget_0 hH.1 ⟨rfl, rfl, rfl, rfl⟩)
theorem c_hgroup {nx : Nat} (hd : 0 < d) (hH : HL S h) (hx : I h 1 = nI nx) (hn : nx < 8) : z_ev d i_X4_group [.ref h] S I J (some (.ref (z_rv S (h + 2) nx))) S I J := by
  obtain ⟨d, rfl⟩ := z_dep hd
  obtain ⟨k5, a2, a3, a4⟩ := hH
  refine e_X4_group (b_X4_group_0 k5 k5 ?_ ⟨by rw [a3.1, hx, nI_clamp (by omega)], rfl, rfl, rfl⟩)
  rw [a3.kd, a3.ln, hx]; exact ⟨rfl, vp_in_nI hn (by decide)⟩
theorem c_hslot {nx : Nat} (hd : 0 < d) (hH : HL S h) (hx : I h 1 = nI nx) (hn : nx < 8) : z_ev d i_X4_slot [.ref h] S I J (some (.int (I (h + 1) nx))) S I J := by
  obtain ⟨d, rfl⟩ := z_dep hd
  obtain ⟨k5, a2, a3, a4⟩ := hH
  exact e_X4_slot (b_X4_slot_0 k5 k5 (by rw [hx]; exact a2.rd hn (by decide)) ⟨by rw [a2.1, hx, nI_clamp (by omega)], rfl, rfl, rfl⟩)
theorem c_hsteps {nx : Nat} (hd : 0 < d) (hH : HL S h) (hx : I h 1 = nI nx) (hn : nx < 8) : z_ev d i_X4_steps [.ref h] S I J (some (.int (I (h + 3) nx))) S I J := by
  obtain ⟨d, rfl⟩ := z_dep hd
  obtain ⟨k5, a2, a3, a4⟩ := hH
  exact e_X4_steps (b_X4_steps_0 k5 k5 (by rw [hx]; exact a4.rd hn (by decide)) ⟨by rw [a4.1, hx, nI_clamp (by omega)], rfl, rfl, rfl⟩)
/-- a slot becomes another -/
theorem c_become {s g : Nat} (x3 : Int32) (hd : 1 < d) (hk : z_kd S a = 12) (h5 : Ar S a 5 (a + 19) 102 2) (hs : s < 2) (hw : z_rv S (a + 19) s = w) (hw9 : z_kd S w = 9) : z_ev d i_X11_become [.ref a, .int (nI s), .ref g, .int x3] S I J none (z_setR S w 0 g) (z_u2 (z_u2 (z_u2 (z_u2 (z_u2 (z_u2 (z_u2 I w 1 x3) w 3 0) w 8 0) w 9 0) a 13 0) a 14 0) a 15 0) (z_u2 J w 2 0) := by
  obtain ⟨d, rfl⟩ := z_dep (d := d) (by omega)
  obtain ⟨e, he⟩ := z_dep (d := d) (by omega)
  have er : z_rv S (z_rv S a 5) (nI s).toNatClampNeg = w := by rw [h5.1, nI_clamp (by omega), hw]
  refine e_X11_become (b_X11_become_0 hk (by rw [h5.kd, h5.ln]; exact ⟨rfl, vp_in_nI hs (by decide)⟩) (by rw [er]; exact hw9) ?_)
  rw [er, he]
  exact ⟨_, _, _, _, e_X8_become (b_X8_become_0 hw9 hw9 hw9 hw9 ⟨hw9, Or.inl rfl⟩ ⟨hw9, Or.inl rfl⟩ ⟨rfl, rfl, rfl, rfl⟩), b_X11_become_11 ⟨hk, Or.inl rfl⟩ ⟨hk, Or.inl rfl⟩ ⟨hk, Or.inl rfl⟩ ⟨rfl, rfl, rfl, rfl⟩⟩
end C26

/-! THE LAW'S LOOP: what one side does leaves the other's state -/
section LW1
variable {a m y : Nat} {A : Wst} {S S' : zS} {I I' : zI} {J J' : zJ}
theorem MLay.k120 (h : MLay S m) (h1 : m ≤ y) (h2 : y ≤ m + 16) : z_kd S y ≠ 120 := by
  obtain ⟨k0, b1, b2, b3, b4, b5, b6, b7, b8, b9, b10, b11, b12, b13, b14, b15, b16⟩ := h
  have : y = m ∨ y = m + 1 ∨ y = m + 2 ∨ y = m + 3 ∨ y = m + 4 ∨ y = m + 5 ∨ y = m + 6 ∨ y = m + 7 ∨ y = m + 8 ∨ y = m + 9 ∨ y = m + 10 ∨ y = m + 11 ∨ y = m + 12 ∨ y = m + 13 ∨ y = m + 14 ∨ y = m + 15 ∨ y = m + 16 := by omega
  intro e
  rcases this with rfl | rfl | rfl | rfl | rfl | rfl | rfl | rfl | rfl | rfl | rfl | rfl | rfl | rfl | rfl | rfl | rfl
  · rw [k0] at e; cases e
  · rw [b1.2.1] at e; cases e
  · rw [b2.2.1] at e; cases e
  · rw [b3.2.1] at e; cases e
  · rw [b4.2.1] at e; cases e
  · rw [b5.2.1] at e; cases e
  · rw [b6.2.1] at e; cases e
  · rw [b7.2.1] at e; cases e
  · rw [b8.2.1] at e; cases e
  · rw [b9.2.1] at e; cases e
  · rw [b10.2.1] at e; cases e
  · rw [b11.2.1] at e; cases e
  · rw [b12.2.1] at e; cases e
  · rw [b13.2.1] at e; cases e
  · rw [b14.2.1] at e; cases e
  · rw [b15.2.1] at e; cases e
  · rw [b16.2.1] at e; cases e
/-- the class's state stays while the model works -/
theorem CW.out (h : CW S I J a A) (hM : MLay S (a + 72)) (hI : ∀ y, y < a + 72 ∨ a + 88 < y → I' y = I y) : CW S I' J a A := by
  obtain ⟨γ, hL, hG, s0, s1, hh, ht, hf, hk⟩ := h
  have hD : ∀ y, Dyn a y → I' y = I y := fun y hy => hI y (by rcases hy with hy | hy <;> omega)
  have hK : ∀ y, Kpt S a y → I' y = I y := fun y hy => by
    rcases hy with hy | hy
    · exact hD y hy
    · exact hI y (Decidable.byContradiction (fun c => hM.k120 (y := y) (by omega) (by omega) hy))
  have hA : I' a = I a := hI a (by omega)
  refine ⟨γ, hL, fun h hh => (hG h hh).fr hK, s0.fr (fun y b1 b2 => hI y (by omega)) hD, s1.fr (fun y b1 b2 => hI y (by omega)) hD, hh.fr (fun y b1 b2 => hI y (by omega)), ⟨by rw [hA]; exact ht.1, fun j hj => by rw [hI (a + 1) (by omega)]; exact ht.2 j hj⟩, ⟨by rw [hA]; exact hf.1, by rw [hA]; exact hf.2⟩, hk.fr (by rw [hA]; exact ⟨rfl, rfl, rfl, rfl⟩) (hI _ (by omega)) (hI _ (by omega))⟩
/-- the model's state stays while the class works -/
theorem MLay.mo (h : MLay S m) (hk : ∀ y, m ≤ y → y ≤ m + 16 → z_kd S' y = z_kd S y ∧ z_ln S' y = z_ln S y) (hr : z_rv S' m = z_rv S m) : MLay S' m := by
  obtain ⟨k0, b1, b2, b3, b4, b5, b6, b7, b8, b9, b10, b11, b12, b13, b14, b15, b16⟩ := h
  have go : ∀ {k i kd ln : Nat}, i ≤ 16 → Ar S m k (m + i) kd ln → Ar S' m k (m + i) kd ln := fun {k i kd ln} hi b => by
    have e := hk (m + i) (by omega) (by omega)
    exact ⟨by rw [hr]; exact b.1, by rw [e.1]; exact b.2.1, by rw [e.2]; exact b.2.2⟩
  exact ⟨by rw [(hk m (Nat.le_refl _) (by omega)).1]; exact k0, go (by decide) b1, go (by decide) b2, go (by decide) b3, go (by decide) b4, go (by decide) b5, go (by decide) b6, go (by decide) b7, go (by decide) b8, go (by decide) b9, go (by decide) b10, go (by decide) b11, go (by decide) b12, go (by decide) b13, go (by decide) b14, go (by decide) b15, go (by decide) b16⟩
theorem MW.cl (h : MW S I (a + 72) A) (hF : FR a S I J S' I' J') (hX : Mo S S') (hz : a + 88 ≤ z_sz S) : MW S' I' (a + 72) A := by
  obtain ⟨hL, h1, h2, h3, h4, h5, h6, h7⟩ := h
  have e0 := (hF (a + 72) (by omega)).2.1
  have e1 : I' (a + 72 + 1) = I (a + 72 + 1) := (hF (a + 72 + 1) (by omega)).2.1
  have e2 : I' (a + 72 + 2) = I (a + 72 + 2) := (hF (a + 72 + 2) (by omega)).2.1
  have e7 : I' (a + 72 + 7) = I (a + 72 + 7) := (hF (a + 72 + 7) (by omega)).2.1
  refine ⟨hL.mo (fun y y1 y2 => hX.2.1 y (by omega)) (hF (a + 72) (by omega)).1, ?_, ?_, ?_, ?_, ?_, ?_, ?_⟩
  · rw [e1]; exact h1
  · rw [e0]; exact h2
  · rw [e7]; exact h3
  · rw [e0]; exact h4
  · rw [e2]; exact h5
  · rw [e0]; exact h6
  · rw [e0]; exact h7
end LW1

/-! THE LAW'S LOOP: what holds between the calls -/
/-- between two calls -/
def Inv (S : zS) (I : zI) (J : zJ) (a : Nat) (A : Wst) : Prop := CW S I J a A ∧ MW S I (a + 72) A ∧ WOk A ∧ TpOk A ∧ EVm I (a + 72) ∧ CN0 S I a ∧ SF S ∧ a + 88 ≤ z_sz S
/-- the class has done its call, the model not yet -/
def Hlf (S : zS) (I : zI) (J : zJ) (a : Nat) (A A' : Wst) : Prop := CW S I J a A' ∧ MW S I (a + 72) A ∧ WOk A ∧ TpOk A ∧ EVm I (a + 72) ∧ CN0 S I a ∧ SF S ∧ a + 88 ≤ z_sz S
section LW2
variable {a : Nat} {A A' : Wst} {S S' : zS} {I I' : zI} {J J' : zJ}
theorem FR.ints (h : ∀ y, y < a ∨ a + 71 < y → I' y = I y) : FR a S I J S I' J := fun y hy => ⟨rfl, h y (by omega), rfl⟩
theorem EVm.eq {m : Nat} (h : EVm I m) (h1 : I' m 11 = I m 11) (h2 : I' (m + 3) = I (m + 3)) : EVm I' m := by
  rcases h with h | ⟨h, h'⟩
  · exact Or.inl (by rw [h1]; exact h)
  · exact Or.inr ⟨by rw [h1]; exact h, fun k hk => by rw [h2]; exact h' k hk⟩
theorem MQy.ev {m : Nat} (h : MQy I I' m) (hE : EVm I m) : EVm I' m := hE.eq (h.2 11 (by decide) (by decide)) (h.1 (m + 3) (by omega) (by omega))
theorem MFr.ev {m : Nat} (h : MFr I I' m) (hE : EVm I m) : EVm I' m := hE.eq h.2 (h.1 (m + 3) (Or.inr (Or.inr rfl)))
end LW2

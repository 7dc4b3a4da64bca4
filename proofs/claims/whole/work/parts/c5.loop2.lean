/-! THE LAW'S LOOP: what holds between the calls -/
/-- between two calls -/
def Inv (S : zS) (I : zI) (J : zJ) (a : Nat) (A : Wst) : Prop := CW S I J a A ∧ MW S I (a + 72) A ∧ WOk A ∧ TpOk A ∧ EVm I (a + 72) ∧ CN0 S I a ∧ SF S ∧ a + 88 ≤ z_sz S
/-- the class has done its call, the model not yet -/
def Hlf (S : zS) (I : zI) (J : zJ) (a : Nat) (A A' : Wst) : Prop := CW S I J a A' ∧ MW S I (a + 72) A ∧ WOk A ∧ TpOk A ∧ EVm I (a + 72) ∧ CN0 S I a ∧ SF S ∧ a + 88 ≤ z_sz S
section LW2
variable {a : Nat} {A A' : Wst} {S S' : zS} {I I' : zI} {J J' : zJ}
theorem FR.ints (h : ∀ y, y < a ∨ a + 71 < y → I' y = I y) : FR a S I J S I' J := fun y hy => ⟨rfl, h y (by omega), rfl⟩
theorem EVm.eq {m : Nat} (h : EVm I m) (h1 : I' m 11 = I m 11) (h2 : I' (m + 3) = I (m + 3)) : EVm I' m := by
  rcases h with h | ⟨h, h'⟩
  · exact Or.inl (by rw [h1]; exact h)
  · exact Or.inr ⟨by rw [h1]; exact h, fun k hk => by rw [h2]; exact h' k hk⟩
theorem MQy.ev {m : Nat} (h : MQy I I' m) (hE : EVm I m) : EVm I' m := hE.eq (h.2 11 (by decide) (by decide)) (h.1 (m + 3) (by omega) (by omega))
theorem MFr.ev {m : Nat} (h : MFr I I' m) (hE : EVm I m) : EVm I' m := hE.eq h.2 (h.1 (m + 3) (Or.inr (Or.inr rfl)))
theorem Inv.cls (h : Inv S I J a A) (hc : CW S' I' J' a A') (hF : FR a S I J S' I' J') (hm : Mo S S') : Hlf S' I' J' a A A' := by
  obtain ⟨_, h2, h3, h4, h5, h6, h7, h8⟩ := h
  exact ⟨hc, h2.cl hF hm h8, h3, h4, h5.eq (by rw [(hF (a + 72) (by omega)).2.1]) ((hF (a + 72 + 3) (by omega)).2.1), h6.fr hm (by omega) (fun y hy => ⟨(hF y (Or.inl hy)).1, (hF y (Or.inl hy)).2.1⟩), hm.2.2 h7, Nat.le_trans h8 hm.1⟩
theorem Hlf.act (h : Hlf S I J a A A') (hF : ∀ y, y < a + 72 ∨ a + 88 < y → I' y = I y) (hE : EVm I' (a + 72)) (hW : MW S I' (a + 72) A') (hA : WOk A') (hB : TpOk A') : Inv S I' J a A' := by
  obtain ⟨h1, h2, _, _, _, h6, h7, h8⟩ := h
  exact ⟨h1.out h2.1 hF, hW, hA, hB, hE, h6.fr Mo.refl (by omega) (fun y hy => ⟨rfl, hF y (by omega)⟩), h7, h8⟩
theorem Hlf.ask (h : Hlf S I J a A A) (hq : MQy I I' (a + 72)) : Inv S I' J a A := h.act (fun y hy => hq.1 y (by omega) (by omega)) (hq.ev h.2.2.2.2.1) (h.2.1.mq hq) h.2.2.1 h.2.2.2.1
theorem Hlf.mfr (h : Hlf S I J a A A') (hq : MFr I I' (a + 72)) (hW : MW S I' (a + 72) A') (hA : WOk A') (hB : TpOk A') : Inv S I' J a A' := h.act (fun y hy => hq.1 y (by omega)) (hq.ev h.2.2.2.2.1) hW hA hB
end LW2

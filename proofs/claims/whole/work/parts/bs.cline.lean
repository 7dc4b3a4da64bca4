/-! THE CLASS: a line is read -/
/-- what a reader has so far -/
def RDS (S : zS) (I : zI) (a : Nat) (γ : Nat → Slt) (laid : Bool) (X : Slt) (B : Nat → Int32) (n q : Nat) : Prop := RS S I a B n q ∧ I (a + 2) 4 = nI (!laid).toNat ∧ I (a + 2) 3 = nI X.st ∧ (IsG S a (z_rv S (a + 2) 2) ∧ X = (γ (z_rv S (a + 2) 2)).to X.st ∧ GC S I a (z_rv S (a + 2) 2) (γ (z_rv S (a + 2) 2))) ∧ SlOk X ∧ I (a + 2) 0 = 0 ∧ I (a + 2) 1 = -1
/-- how the memory goes on while a text is read -/
def TRn (S : zS) (I : zI) (J : zJ) (γ : Nat → Slt) (S' : zS) (I' : zI) (J' : zJ) (γ' : Nat → Slt) (a : Nat) : Prop := SF S' ∧ SH a S S' ∧ (∀ y, y ≤ z_sz S → (y ≠ a + 2 → z_rv S' y = z_rv S y) ∧ (y < a + 2 ∨ a + 9 < y → I' y = I y) ∧ J' y = J y) ∧ (∀ y, y ≤ z_sz S → γ' y = γ y) ∧ ∀ y, z_sz S < y → IsG S' a y → GC S' I' a y (γ' y)
section CL
variable {d a n q : Nat} {B : Nat → Int32} {X : Slt} {γ γ1 γ2 : Nat → Slt} {laid : Bool} {S S1 S2 : zS} {I I0 I1 I2 : zI} {J J1 J2 : zJ}
theorem Kpt.nr (hL : RLay S a) {y : Nat} (h : Kpt S a y) : y < a + 2 ∨ a + 9 < y := by
  by_cases c : a + 2 ≤ y ∧ y ≤ a + 9
  · rcases h with h | h
    · have := h.out; omega
    · rcases hL.k9 c.1 c.2 with q | q | q | q <;> rw [h] at q <;> cases q
  · omega
theorem TRn.same (hf : SF S) (hF : RFr I I1 a) : TRn S I J γ S I1 J γ a := ⟨hf, SH.refl, fun y hy => ⟨fun _ => rfl, fun h => hF y h, rfl⟩, fun _ _ => rfl, fun y hy hG => absurd hG.2.1 (by omega)⟩
theorem TRn.trans (hL : RLay S a) (hz : a + 88 ≤ z_sz S) (hf : SF S) (h : TRn S I J γ S1 I1 J1 γ1 a) (h' : TRn S1 I1 J1 γ1 S2 I2 J2 γ2 a) : TRn S I J γ S2 I2 J2 γ2 a := by
  obtain ⟨a1, a2, a3, a4, a5⟩ := h
  obtain ⟨b1, b2, b3, b4, b5⟩ := h'
  refine ⟨b1, a2.trans b2, fun y hy => ?_, fun y hy => by rw [b4 y (Nat.le_trans hy a2.1), a4 y hy], fun y hy hG => ?_⟩
  · obtain ⟨c1, c2, c3⟩ := a3 y hy
    obtain ⟨e1, e2, e3⟩ := b3 y (Nat.le_trans hy a2.1)
    exact ⟨fun h => by rw [e1 h, c1 h], fun h => by rw [e2 h, c2 h], by rw [e3, c3]⟩
  · rcases Nat.lt_or_ge (z_sz S1) y with q | q
    · exact b5 y q hG
    · have hG1 := hG.hs b2 q
      rw [b4 y q]
      have hL1 := hL.sh a2 hf
      exact (a5 y hy hG1).st a1 b2 ((b3 y q).2.1 (by omega)) (fun u hu k1 _ => (b3 u hu).2.1 (k1.nr hL1)) (by rw [(b3 y q).1 (by omega)])
/-- the Group of the reader stays one -/
theorem GC.rd {g : Nat} {x : Slt} (h : GC S I a g x) (hf : SF S) (hL : RLay S a) (hF : RFr I I1 a) : GC S I1 a g x := by
  have gd := h.1.2.2.2.2.2.2.1.out
  exact h.st hf SH.refl (hF g (by omega)) (fun y _ k1 _ => hF y (k1.nr hL)) rfl
/-- a Group that was built -/
theorem Blt.gc {b rc N len : Nat} {t : Nat → Nat → Nat} {iv : Nat → Nat} {x : Slt} (h : Blt S I b rc N len t iv S1 I1) (hz : a + 88 ≤ z_sz S) (hx : SlOk x) (hn : x.n = N ∧ x.t = t ∧ x.iv = iv) (hnm : x.nm.pr = 0 ∧ (∀ y, x.nm.og y = y)) (ht : x.nm.ki = true → rc ≠ 0 ∧ N ≤ len ∧ len < 2 ^ 31 ∧ ndg (I b 7) rc = nI x.nm.ln ∧ ∀ y, y < N → I (nsr b rc) y = nI (pck (x.nm.ro y) x.nm.ln)) (hfa : x.nm.ki = false → rc = 0 ∧ len = x.nm.ln ∧ ∀ i, i < len → I (nsr b rc) i = nI (x.nm.sz i)) : GC S1 I1 a (z_sz S + 3) x := by
  obtain ⟨⟨c1, c2, c3, c4, c5⟩, ⟨r1, r2, r3, r4, r5, r6, r7, r10⟩, ⟨i8, i9⟩, ⟨o1, o2, o3⟩, ⟨n1, n2, n3⟩, ⟨m1, m2, m3, m4⟩⟩ := h
  obtain ⟨e1, e2, e3⟩ := hn
  have dy : ∀ y, z_sz S < y → Dyn a y := fun y hy => by unfold Dyn; omega
  have hle := hx.1.le
  rw [e1] at hle
  refine ⟨?_, ?_, ?_, Or.inl i9, Or.inl r10⟩
  · rw [e1, e2, e3]
    have hg := hx.1
    rw [e1, e2, e3] at hg
    refine ⟨c1, c2, c3, c4, c5, hg, dy _ (by omega), fun k k1 k2 => ?_⟩
    rcases (show k = 1 ∨ k = 2 ∨ k = 3 ∨ k = 4 ∨ k = 5 by omega) with e | e | e | e | e <;> rw [e]
    · rw [r1]; exact dy _ (by omega)
    · rw [r2]; exact dy _ (by omega)
    · rw [r3]; exact dy _ (by omega)
    · rw [r4]; exact dy _ (by omega)
    · rw [r5]; exact dy _ (by omega)
  · unfold CNm
    rw [r6, r7, i8, hnm.1, e1, m2, m3, m4]
    have hok := hx.2.2.2
    rw [e1] at hok
    refine ⟨hok, m1, ⟨o1, by rw [o2]; exact Nat.le_refl _, by rw [o2]; omega, fun y hy => by rw [o3 y hy, hnm.2]⟩, rfl, fun q => ?_, fun q => ?_⟩
    · obtain ⟨q1, q2, q3, q4, q5⟩ := ht q
      have en : nr1 (z_sz S + 4) rc = z_sz S + 4 := if_neg q1
      rw [en]
      refine ⟨by omega, by rw [n1]; rfl, by rw [n2]; exact q3, q4, fun y hy => ?_⟩
      rw [hnm.2, n2, n3 y (by omega)]
      exact ⟨by omega, q5 y hy⟩
    · obtain ⟨q1, q2, q3⟩ := hfa q
      have en : nr1 (z_sz S + 4) rc = 0 := if_pos q1
      have en0 : nr0 (z_sz S + 4) rc = z_sz S + 4 := if_pos q1
      rw [en, en0]
      exact ⟨rfl, by rw [n1]; rfl, by rw [n2]; exact q2, fun i hi => by rw [n3 i (by omega)]; exact q3 i (by omega)⟩
  · rw [r6, r7, m2, m3]
    refine ⟨dy _ (by omega), dy _ (by omega), fun q => ?_, fun q => ?_⟩
    · have en : nr1 (z_sz S + 4) rc = z_sz S + 4 := if_neg (ht q).1
      rw [en]; exact Or.inl (dy _ (by omega))
    · have en0 : nr0 (z_sz S + 4) rc = z_sz S + 4 := if_pos (hfa q).1
      rw [en0]; exact Or.inl (dy _ (by omega))
theorem Blt.one {b rc N len : Nat} {t : Nat → Nat → Nat} {iv : Nat → Nat} (h : Blt S I b rc N len t iv S1 I1) (hs : z_sz S1 = z_sz S + 9) {y : Nat} (hy : z_sz S < y) (hG : IsG S1 a y) : y = z_sz S + 3 := by
  obtain ⟨⟨c1, c2, c3, c4, c5⟩, ⟨r1, r2, r3, r4, r5, r6, r7, r10⟩, _, ⟨o1, _⟩, ⟨n1, _⟩, ⟨m1, _⟩⟩ := h
  have h2 := hG.2.1
  have h3 := hG.2.2
  have k1 := c1.2.2.2.1
  have k2 := c2.1
  have k3 := c3.1
  have k4 := c4.1
  have k5 := c5.1
  rw [r1] at k1
  rw [r2] at k2
  rw [r3] at k3
  rw [r4] at k4
  rw [r5] at k5
  rcases (show y = z_sz S + 1 ∨ y = z_sz S + 2 ∨ y = z_sz S + 3 ∨ y = z_sz S + 4 ∨ y = z_sz S + 5 ∨ y = z_sz S + 6 ∨ y = z_sz S + 7 ∨ y = z_sz S + 8 ∨ y = z_sz S + 9 by omega) with e | e | e | e | e | e | e | e | e
  · rw [e, k1] at h3; cases h3
  · rw [e, o1] at h3; cases h3
  · exact e
  · rw [e, n1] at h3; cases h3
  · rw [e, m1] at h3; cases h3
  · rw [e, k2] at h3; cases h3
  · rw [e, k3] at h3; cases h3
  · rw [e, k4] at h3; cases h3
  · rw [e, k5] at h3; cases h3
end CL

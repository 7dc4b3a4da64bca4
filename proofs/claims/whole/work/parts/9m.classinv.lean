/-! THE CLASS keeps the state -/
/-- where a GroupBuilder's cells lie -/
def BL (S : zS) (b : Nat) : Prop := z_kd S b = 3 ∧ Ar S b 0 (b + 1) 100 150 ∧ Ar S b 1 (b + 2) 100 150 ∧ Ar S b 2 (b + 3) 100 150 ∧ Ar S b 5 (b + 4) 100 150 ∧ Ar S b 8 (b + 5) 100 21
/-- where the reader's cells lie -/
def RLay (S : zS) (a : Nat) : Prop := z_kd S (a + 2) = 11 ∧ z_rv S (a + 2) 5 = a + 9 ∧ z_rv S (a + 2) 6 = a + 3 ∧ BL S (a + 3) ∧ (z_kd S (a + 9) = 6 ∧ z_rv S (a + 9) 0 = a + 1 ∧ z_kd S (a + 1) = 101 ∧ z_ln S (a + 1) = 300)
/-- where its cells lie (the reader's cells a+2 to a+9 are told apart) -/
def CLay (S : zS) (a : Nat) : Prop := z_kd S a = 12 ∧ Ar S a 0 (a + 1) 101 300 ∧ (z_rv S a 2 = a + 2 ∧ RLay S a) ∧ Ar S a 5 (a + 19) 102 2 ∧ (z_rv S (a + 19) 0 = a + 20 ∧ z_rv S (a + 19) 1 = a + 32) ∧ (z_rv S a 6 = a + 44 ∧ HL S (a + 44)) ∧ (z_rv S a 7 = a + 48 ∧ QLay S (a + 48)) ∧ (z_rv S a 8 = a + 53 ∧ ML S (a + 53)) ∧ (z_rv S a 9 = a + 57 ∧ OL S (a + 57)) ∧ Ar S a 10 (a + 70) 100 20 ∧ Ar S a 11 (a + 71) 100 20 ∧ NLay S (a + 20) ∧ NLay S (a + 32)
/-- a cell that no call writes: one of a Group, or a constant -/
def Kpt (S : zS) (a h : Nat) : Prop := Dyn a h ∨ z_kd S h = 120
/-- a Group's cell, and what is known of it -/
def GC (S : zS) (I : zI) (a h : Nat) (x : Slt) : Prop := GO S I a h x.n x.t x.iv ∧ CNm S I h x.n x.nm ∧ (Dyn a (z_rv S h 6) ∧ Dyn a (z_rv S h 7) ∧ (x.nm.ki = true → Kpt S a (z_rv S (z_rv S h 6) 1)) ∧ (x.nm.ki = false → Kpt S a (z_rv S (z_rv S h 6) 0))) ∧ (I h 9 = 0 ∨ I h 9 = nI (crdn (GM x.n x.t x.t))) ∧ (z_rv S h 10 = 0 ∨ (SubOk S I h x.n x.t ∧ Dyn a (z_rv S h 10)))
/-- a handle of a Group -/
def IsG (S : zS) (a h : Nat) : Prop := Dyn a h ∧ h ≤ z_sz S ∧ z_kd S h = 2
/-- a slot's Network at w holds x -/
def CSl (S : zS) (I : zI) (J : zJ) (a w : Nat) (γ : Nat → Slt) (x : Slt) : Prop := IsG S a (z_rv S w 0) ∧ x = (γ (z_rv S w 0)).to x.st ∧ NSt S I a w x.n x.t x.iv x.st ∧ (J w 2 = 0 ∨ (J w 2 = lN (crdn (S0 x.n (fd x.n x.t x.iv x.st))) ∧ ∀ y, y < x.n → I (w + 1) y = nI (orbt x.n (fd x.n x.t x.iv x.st) y))) ∧ (I w 3 = 0 ∨ I w 3 = nI (crdn (fun φ => GM x.n x.t x.t φ ∧ Own x.n x.st x.st φ)))
/-- the ring of acts -/
def CHi (S : zS) (I : zI) (a : Nat) (γ : Nat → Slt) (A : Wst) : Prop := ∃ nx, nx < 8 ∧ I (a + 44) 1 = nI nx ∧ I (a + 44) 0 = nI A.kp ∧ ∀ k, k < A.kp → I (a + 45) ((nx + 8 - A.kp + k) % 8) = nI (A.hi k).1 ∧ IsG S a (z_rv S (a + 46) ((nx + 8 - A.kp + k) % 8)) ∧ (A.hi k).2 = (γ (z_rv S (a + 46) ((nx + 8 - A.kp + k) % 8))).to (A.hi k).2.st ∧ I (a + 47) ((nx + 8 - A.kp + k) % 8) = nI (A.hi k).2.st
/-- answers that are known -/
def CKn (I : zI) (a : Nat) (A : Wst) : Prop := (I a 13 = 0 ∨ (I a 13 = 1 ∧ ∀ x, x < (A.sl 0).n → I (a + 70) x = zq ((A.sl 0).n = (A.sl 1).n) (lxa (A.sl 0).n (GM (A.sl 0).n (A.sl 0).t (A.sl 1).t) x) (-1))) ∧ (I a 14 = 0 ∨ (I a 14 = 1 ∧ ∀ x, x < (A.sl 0).n → I (a + 71) x = zq ((A.sl 0).n = (A.sl 1).n) (lxa (A.sl 0).n (NM0 (A.sl 0).n (arc (A.sl 0).n (A.sl 0).t (A.sl 0).st) (arc (A.sl 0).n (A.sl 1).t (A.sl 1).st)) x) (-1))) ∧ (I a 15 = 0 ∨ (I a 15 = 1 ∧ I a 12 = zq (∃ s, OkN (A.sl 0).n (A.sl 0).t (A.sl 1).t (A.sl 0).st s) (nI (zleast (OkN (A.sl 0).n (A.sl 0).t (A.sl 1).t (A.sl 0).st))) (-1)))
def CW (S : zS) (I : zI) (J : zJ) (a : Nat) (A : Wst) : Prop := ∃ γ : Nat → Slt, CLay S a ∧ (∀ h, IsG S a h → GC S I a h (γ h)) ∧ CSl S I J a (a + 20) γ (A.sl 0) ∧ CSl S I J a (a + 32) γ (A.sl 1) ∧ CHi S I a γ A ∧ (I a 1 = nI A.tl ∧ ∀ j, j < A.tl → I (a + 1) j = A.tp j) ∧ (I a 3 = A.fa ∧ I a 4 = A.pl) ∧ CKn I a A
section C27
variable {d a : Nat} {A : Wst} {S : zS} {I I' : zI} {J : zJ}
theorem c_fault (x1 : Int32) (hd : 0 < d) (h : CW S I J a A) : z_ev d i_X11_fault [.ref a, .int x1] S I J (some (.int (aTwo A.fa A.pl x1))) S I J := by
  obtain ⟨d, rfl⟩ := z_dep hd
  obtain ⟨γ, hL, _, _, _, _, _, ⟨f1, f2⟩, _⟩ := h
  unfold aTwo
  refine e_X11_fault (b_X11_fault_0 (fun c => b_X11_fault_9 (fun c2 => b_X11_fault_21 ⟨?_, rfl, rfl, rfl⟩) (fun c2 => b_X11_fault_14 hL.1 ⟨?_, rfl, rfl, rfl⟩)) (fun c => b_X11_fault_4 hL.1 ⟨?_, rfl, rfl, rfl⟩))
  · rw [if_neg c, if_neg c2]
  · rw [if_neg c, if_pos c2, f2]
  · rw [if_pos c, f1]
theorem c_count (x1 : Int32) (hd : 0 < d) (h : CW S I J a A) : z_ev d i_X11_count [.ref a, .int x1] S I J (some (.int (aTwo (nI A.kp) (nI A.tl) x1))) S I J := by
  obtain ⟨d, rfl⟩ := z_dep hd
  obtain ⟨γ, hL, _, _, _, ⟨nx, _, _, hk, _⟩, ⟨ht, _⟩, _, _⟩ := h
  obtain ⟨h6, hH⟩ := hL.2.2.2.2.2.1
  unfold aTwo
  refine e_X11_count (b_X11_count_0 (fun c => b_X11_count_12 (fun c2 => b_X11_count_24 ⟨?_, rfl, rfl, rfl⟩) (fun c2 => b_X11_count_17 hL.1 ⟨?_, rfl, rfl, rfl⟩)) (fun c => b_X11_count_4 hL.1 (by rw [h6]; exact hH.1) ⟨?_, rfl, rfl, rfl⟩))
  · rw [if_neg c, if_neg c2]
  · rw [if_neg c, if_pos c2, ht]
  · rw [if_pos c, h6, hk]
end C27

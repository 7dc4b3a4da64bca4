/-! WHAT EVERY RUN KEEPS: kinds and lengths of the cells that are there; behind the last cell there is none -/
def SF (S : zS) : Prop := ∀ h, z_sz S < h → z_kd S h = 0
def Mo (S S' : zS) : Prop := z_sz S ≤ z_sz S' ∧ (∀ h, h ≤ z_sz S → z_kd S' h = z_kd S h ∧ z_ln S' h = z_ln S h) ∧ (SF S → SF S')
section C36
variable {S S1 S2 : zS}
theorem Mo.refl : Mo S S := ⟨Nat.le_refl _, fun _ _ => ⟨rfl, rfl⟩, fun q => q⟩
theorem Mo.trans (h : Mo S S1) (h' : Mo S1 S2) : Mo S S2 := ⟨Nat.le_trans h.1 h'.1, fun x hx => ⟨by rw [(h'.2.1 x (Nat.le_trans hx h.1)).1, (h.2.1 x hx).1], by rw [(h'.2.1 x (Nat.le_trans hx h.1)).2, (h.2.1 x hx).2]⟩, fun q => h'.2.2 (h.2.2 q)⟩
theorem Mo.setR {h k v : Nat} : Mo S (z_setR S h k v) := ⟨Nat.le_refl _, fun _ _ => ⟨rfl, rfl⟩, fun q => q⟩
theorem Mo.new {k n m : Nat} : Mo S (z_new S k n m) := by
  refine ⟨Nat.le_succ _, fun x hx => ⟨z_kd_nev (by omega), z_ln_nev (by omega)⟩, fun q x hx => ?_⟩
  rw [z_sz_new] at hx
  rw [z_kd_nev (by omega)]; exact q x (by omega)
def OM (S : zS) (o : zO) : Prop := match o with
  | .inl c => Mo S c.2.2.2.1
  | .inr (.inl (_, c)) => Mo S c.2.2.2.1
  | .inr (.inr (.inl (_, _, S1, _, _))) => Mo S S1
  | .inr (.inr (.inr (.inl (_, _, _, S1, _, _, k)))) => S1 = S ∧ ∀ v S2 I2 J2, (k v S2 I2 J2).2.2.2.1 = S2
  | .inr (.inr (.inr (.inr _))) => True
theorem om_i1 {st : List Value} {f : Int32 → List Value → zO} (h : ∀ x r, OM S (f x r)) : OM S (z_i1 st f) := by
  unfold z_i1; split
  · exact h _ _
  · exact trivial
theorem om_j1 {st : List Value} {f : Int64 → List Value → zO} (h : ∀ x r, OM S (f x r)) : OM S (z_j1 st f) := by
  unfold z_j1; split
  · exact h _ _
  · exact trivial
theorem om_r1 {st : List Value} {f : Nat → List Value → zO} (h : ∀ x r, OM S (f x r)) : OM S (z_r1 st f) := by
  unfold z_r1; split
  · exact h _ _
  · exact trivial
theorem om_ii {st : List Value} {f : Int32 → Int32 → List Value → zO} (h : ∀ x y r, OM S (f x y r)) : OM S (z_ii st f) := by
  unfold z_ii; split
  · exact h _ _ _
  · exact trivial
theorem om_jj {st : List Value} {f : Int64 → Int64 → List Value → zO} (h : ∀ x y r, OM S (f x y r)) : OM S (z_jj st f) := by
  unfold z_jj; split
  · exact h _ _ _
  · exact trivial
theorem om_li {ls : List Value} {i : Nat} {f : Int32 → zO} (h : ∀ x, OM S (f x)) : OM S (z_li ls i f) := by
  unfold z_li; split
  · exact h _
  · exact trivial
theorem om_lj {ls : List Value} {i : Nat} {f : Int64 → zO} (h : ∀ x, OM S (f x)) : OM S (z_lj ls i f) := by
  unfold z_lj; split
  · exact h _
  · exact trivial
theorem om_lr {ls : List Value} {i : Nat} {f : Nat → zO} (h : ∀ x, OM S (f x)) : OM S (z_lr ls i f) := by
  unfold z_lr; split
  · exact h _
  · exact trivial
theorem om_s1 {ls : List Value} {i : Nat} {v : Value} {f : List Value → zO} (h : ∀ x, OM S (f x)) : OM S (z_st1 ls i v f) := by
  unfold z_st1; split
  · exact h _
  · exact trivial
theorem om_s2 {ls : List Value} {i : Nat} {v : Value} {f : List Value → zO} (h : ∀ x, OM S (f x)) : OM S (z_st2 ls i v f) := by
  unfold z_st2; split
  · exact h _
  · exact trivial
theorem om_cut {st : List Value} {n : Nat} {f : List Value → List Value → zO} (h : ∀ x y, OM S (f x y)) : OM S (z_cut st n f) := by
  unfold z_cut; split
  · exact h _ _
  · exact trivial
theorem om_out (e : zE) (pc : Nat) (ls st : List Value) (I : zI) (J : zJ) : OM S (z_out e pc ls st S I J) := by
  obtain ⟨i, b, r1, r2, im, jm, tg⟩ := e
  cases i <;> dsimp only [z_out] <;> repeat' (first | exact trivial | exact (Mo.refl : Mo S S) | exact (Mo.new : Mo S (z_new S _ _ _)) | exact (Mo.setR : Mo S (z_setR S _ _ _)) | exact ⟨rfl, fun _ _ _ _ => rfl⟩ | refine om_i1 fun _ _ => ?_ | refine om_r1 fun _ _ => ?_ | refine om_ii fun _ _ _ => ?_ | refine om_jj fun _ _ _ => ?_ | refine om_j1 fun _ _ => ?_ | refine om_li fun _ => ?_ | refine om_lj fun _ => ?_ | refine om_lr fun _ => ?_ | refine om_s1 fun _ => ?_ | refine om_s2 fun _ => ?_ | refine om_cut fun _ _ => ?_ | split)
theorem z_ev.mo : ∀ {d y : Nat} {as : List Value} {S S' : zS} {I I' : zI} {J J' : zJ} {v : Option Value}, z_ev d y as S I J v S' I' J' → Mo S S'
  | 0, _, _, _, _, _, _, _, _, _, h => h.elim
  | d + 1, y, as, S, S', I, I', J, J', v, h => by
    refine h.2 (fun c => Mo c.2.2.2.1 S') (fun c' hc => ?_)
    obtain ⟨pc, ls, st, S0, I0, J0⟩ := c'
    show Mo S0 S'
    have ho : OM S0 (z_step (z_tab y) (pc, ls, st, S0, I0, J0)) := by
      unfold z_step
      show OM S0 (match z_tab y pc with | some e => z_out e pc ls st S0 I0 J0 | none => z_fail)
      split
      · exact om_out _ _ _ _ _ _
      · exact trivial
    rcases hs : z_step (z_tab y) (pc, ls, st, S0, I0, J0) with c | ⟨g, c⟩ | ⟨g, v, S1, I1, J1⟩ | ⟨g, y1, as1, S1, I1, J1, k⟩ | _
    · rw [hs] at hc ho
      exact Mo.trans ho hc
    · rw [hs] at hc ho
      exact Mo.trans ho hc.2
    · rw [hs] at hc ho
      have ho : Mo S0 S1 := ho
      rw [hc.2.2.1] at ho
      exact ho
    · rw [hs] at hc ho
      have ho : S1 = S0 ∧ ∀ v S2 I2 J2, (k v S2 I2 J2).2.2.2.1 = S2 := ho
      obtain ⟨_, v1, S2, I2, J2, h1, h2⟩ := hc
      have h2 : Mo (k v1 S2 I2 J2).2.2.2.1 S' := h2
      rw [ho.2] at h2
      have h3 := z_ev.mo h1
      rw [ho.1] at h3
      exact Mo.trans h3 h2
    · rw [hs] at hc
      exact hc.elim
end C36

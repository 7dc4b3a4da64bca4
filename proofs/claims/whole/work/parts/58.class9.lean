/-! THE CLASS: a Group's subgroups, found once -/
def subL (n : Nat) : Nat := if n ≤ 8 then 16 else 80
theorem subL_le (n : Nat) : subL n ≤ 80 := by unfold subL; split <;> decide
/-- the row of subgroups is there -/
def SubOk (S : zS) (I : zI) (g n : Nat) (t : Nat → Nat → Nat) : Prop := z_kd S (z_rv S g 10) = 100 ∧ z_ln S (z_rv S g 10) = subL n ∧ I g 11 = nI (nsub n t) ∧ ∀ k, k < nsub n t → I (z_rv S g 10) k = nI (kth (SG n t) k)
section C9
variable {d g n : Nat} {t : Nat → Nat → Nat} {iv : Nat → Nat} {S : zS} {I : zI} {J : zJ}
theorem nsub_subL (hg : Grp n t iv) : nsub n t ≤ subL n := by
  have := nsub_le hg
  unfold subL
  by_cases h : n ≤ 8
  · rw [if_pos h]; exact this.2 h
  · rw [if_neg h]; exact this.1
theorem c_findSubgroups (hd : 5 < d) (hC : CT S I g n t) (hg : Grp n t iv) (hgs : g ≤ z_sz S) (hts : z_rv S g 1 ≤ z_sz S) :
    ∃ S' I', z_ev d i_X1_findSubgroups [.ref g] S I J none S' I' J ∧ z_sz S' = z_sz S + 1 ∧ z_ce S' = z_ce S + 1 ∧ z_sl S' = z_sl S + subL n ∧ Ext (fun h => h = g) S I S' I' ∧ (∀ k, k ≠ 10 → z_rv S' g k = z_rv S g k) ∧ (∀ k, k ≠ 11 → I' g k = I g k) ∧ z_rv S' g 10 = z_sz S + 1 ∧ SubOk S' I' g n t := by
  obtain ⟨d, rfl⟩ := z_dep (d := d) (by omega)
  have hn := hC.le
  obtain ⟨S1, e1, a1, a2, a3, a4, a5, a6, a7, a8, a9, a10⟩ := z_newF S 100 (subL n) (subL n) g 10 hgs
  have hk1 : z_kd S1 g = 2 := by rw [(a6 g hgs).1]; exact hC.1
  obtain ⟨I0, E0⟩ : ∃ I0, I0 = z_ur I (z_sz S + 1) (fun _ => 0) := ⟨_, rfl⟩
  have i0 : ∀ h, h ≤ z_sz S → I0 h = I h := fun h hh => by rw [E0, z_ur_row (by omega)]
  have hC1 : CT S1 I0 g n t := by
    obtain ⟨c1, c2, c3, c4, c5, c6⟩ := hC
    refine ⟨hk1, by rw [i0 g hgs]; exact c2, c3, ?_, ?_, fun x hx y hy => ?_⟩
    · rw [a8 1 (by decide), (a6 _ hts).1]; exact c4
    · rw [a8 1 (by decide), (a6 _ hts).2]; exact c5
    · rw [a8 1 (by decide), i0 _ hts]; exact c6 x hx y hy
  have hA : z_kd S1 (z_rv S1 g 10) = 100 := by rw [a7]; exact a4
  have hl : z_ln S1 (z_rv S1 g 10) = subL n := by rw [a7]; exact a5
  have hL := subL_le n
  have hne : g ≠ z_rv S1 g 10 := fun e => by rw [← e, hk1] at hA; cases hA
  have h1ne : z_rv S1 g 1 ≠ z_rv S1 g 10 := by rw [a7, a8 1 (by decide)]; omega
  have hm : SM S1 I0 (z_u2 (z_u2 I0 (z_rv S1 g 10) 0 (nI 1)) g 11 (nI 1)) g 1 (fun _ => 1) := by
    refine ⟨fun h h1 h2 => by rw [z_u2_row h1, z_u2_row h2], fun k hk => by rw [z_u2_nk hk, z_u2_ne hne], z_u2_same, fun i hi => ?_⟩
    rw [z_u2_ne (fun e => hne e.symm), show i = 0 by omega, z_u2_same]
  have hb : SB n t 1 (fun _ => 1) := ⟨by decide, rfl, fun _ _ => sg_one hg, fun i j h1 h2 => by omega⟩
  have hgo : ∀ v2 v3 v4 v5, Go d i_X1_findSubgroups 36 [.ref g, .int 0, v2, v3, v4, v5] [] S1 (z_u2 (z_u2 I0 (z_rv S1 g 10) 0 (nI 1)) g 11 (nI 1)) J (subQ S1 I0 J g n t) := fun v2 v3 v4 v5 => c_subs_loop (by omega) hC1 hg h1ne hA hl hL (nsub_subL hg) 0 (by omega) _ 1 (fun _ => 1) hm hb (by omega) (fun i hi => by omega) _ _ _ _ _ rfl
  have hw : z_wp (d + 1) i_X1_findSubgroups [.ref g] S I J (subQ S1 I0 J g n t) := by
    refine w_X1_findSubgroups (b_X1_findSubgroups_0 hC.1 (fun c => ?_) (fun c => ?_))
    · rw [hC.2.1, z_lit 8, nI_leI (by omega) (by decide)] at c
      have eL : subL n = (16 : Int32).toNatClampNeg := by unfold subL; rw [if_pos c]; decide
      rw [eL] at e1
      have hv : z_kd S1 (z_rv S1 g 10) = 100 ∧ vp_in 0 (z_ln S1 (z_rv S1 g 10)) := ⟨hA, by rw [hl]; exact vp_in_nI (n := 0) (by rw [eL]; decide) (by omega)⟩
      refine b_X1_findSubgroups_15 (z_lenok (n := 16) (by decide)) (by rw [z_kd_nev (by omega)]; exact hC.1) (by rw [e1]; exact hk1) (by rw [e1]; exact hv) rfl (by rw [e1]; exact hk1) ?_
      rw [e1, ← E0]
      exact hgo _ _ _ _
    · rw [hC.2.1, z_lit 8, nI_leI (by omega) (by decide)] at c
      have eL : subL n = (80 : Int32).toNatClampNeg := by unfold subL; rw [if_neg c]; decide
      rw [eL] at e1
      have hv : z_kd S1 (z_rv S1 g 10) = 100 ∧ vp_in 0 (z_ln S1 (z_rv S1 g 10)) := ⟨hA, by rw [hl]; exact vp_in_nI (n := 0) (by rw [eL]; decide) (by omega)⟩
      refine b_X1_findSubgroups_10 (z_lenok (n := 80) (by decide)) (by rw [z_kd_nev (by omega)]; exact hC.1) (by rw [e1]; exact hk1) (by rw [e1]; exact hv) rfl (by rw [e1]; exact hk1) ?_
      rw [e1, ← E0]
      exact hgo _ _ _ _
  obtain ⟨v, S', I', J', x1, rfl, rfl, rfl, f', x2, x3⟩ := hw
  refine ⟨_, I', x1, a1, a2, a3, ⟨by omega, a6, fun h hh hne2 => ⟨a9 h hh hne2, ?_⟩⟩, a8, fun k hk => ?_, a7, hA, hl, x2.2.2.1, fun k hk => ?_⟩
  · rw [x2.1 h hne2 (by rw [a7]; omega), i0 h hh]
  · rw [x2.2.1 k hk, i0 g hgs]
  · rw [x2.2.2.2 k hk, x3 k hk]
end C9

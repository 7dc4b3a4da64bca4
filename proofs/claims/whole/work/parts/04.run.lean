/-! RUNS: a method's run to a depth of calls; what is known behind it -/
def z_exp : List Value → List Value
  | [] => []
  | .long x :: l => .long x :: .retAddr 0 :: z_exp l
  | .double x :: l => .double x :: .retAddr 0 :: z_exp l
  | v :: l => v :: z_exp l
def z_ls (y : Nat) (as : List Value) : List Value := z_exp as ++ List.replicate (z_ml y - (z_exp as).length) (.retAddr 0)
def z_ev : Nat → Nat → List Value → zS → zI → zJ → Option Value → zS → zI → zJ → Prop
  | 0 => fun _ _ _ _ _ _ _ _ _ => False
  | d + 1 => fun y as S I J v S' I' J' => (z_exp as).length ≤ z_ml y ∧ z_go (fun y as S I J Q => ∃ v S' I' J', z_ev d y as S I J v S' I' J' ∧ Q v S' I' J') (z_tab y) (z_eq v S' I' J') (0, z_ls y as, [], S, I, J)
def z_wp (d : Nat) : zK := fun y as S I J Q => ∃ v S' I' J', z_ev d y as S I J v S' I' J' ∧ Q v S' I' J'
def Go (d y pc : Nat) (ls st : List Value) (S : zS) (I : zI) (J : zJ) (Q : zQ) : Prop := z_go (z_wp d) (z_tab y) Q (pc, ls, st, S, I, J)
theorem z_wp_up (d : Nat) : z_up (z_wp d) := by
  intro y as S I J Q Q' hQ h
  obtain ⟨v, S', I', J', h1, h2⟩ := h
  exact ⟨v, S', I', J', h1, hQ _ _ _ _ h2⟩
theorem z_wp.mono {d y : Nat} {as : List Value} {S : zS} {I : zI} {J : zJ} {Q Q' : zQ} (h : z_wp d y as S I J Q) (hQ : ∀ v S' I' J', Q v S' I' J' → Q' v S' I' J') : z_wp d y as S I J Q' := z_wp_up d _ _ _ _ _ _ _ hQ h
theorem z_wp_one (d : Nat) : ∀ y as S I J Q, z_wp d y as S I J Q → ∃ v S' I' J', z_wp d y as S I J (z_eq v S' I' J') ∧ Q v S' I' J' := by
  intro y as S I J Q h
  obtain ⟨v, S', I', J', h1, h2⟩ := h
  exact ⟨v, S', I', J', ⟨v, S', I', J', h1, rfl, rfl, rfl, rfl⟩, h2⟩
/-- a method's run, from its first instruction -/
theorem Go.wp {d y : Nat} {as : List Value} {S : zS} {I : zI} {J : zJ} {Q : zQ} (hl : (z_exp as).length ≤ z_ml y) (h : Go d y 0 (z_ls y as) [] S I J Q) : z_wp (d + 1) y as S I J Q := by
  obtain ⟨v, S', I', J', hq, hg⟩ := z_go.one (z_wp_up d) (z_wp_one d) h
  exact ⟨v, S', I', J', ⟨hl, hg⟩, hq⟩
theorem Go.ev {d y : Nat} {as : List Value} {S S' : zS} {I I' : zI} {J J' : zJ} {v : Option Value} (hl : (z_exp as).length ≤ z_ml y) (h : Go d y 0 (z_ls y as) [] S I J (z_eq v S' I' J')) : z_ev (d + 1) y as S I J v S' I' J' := ⟨hl, h⟩
theorem z_ev.wp {d y : Nat} {as : List Value} {S S' : zS} {I I' : zI} {J J' : zJ} {v : Option Value} {Q : zQ} (h : z_ev d y as S I J v S' I' J') (hQ : Q v S' I' J') : z_wp d y as S I J Q := ⟨v, S', I', J', h, hQ⟩
theorem Go.weaken {d y pc : Nat} {ls st : List Value} {S : zS} {I : zI} {J : zJ} {Q Q' : zQ} (h : Go d y pc ls st S I J Q) (hQ : ∀ v S I J, Q v S I J → Q' v S I J) : Go d y pc ls st S I J Q' := z_go.weaken (z_wp_up d) h hQ
theorem Go.n {d y pc : Nat} {ls st : List Value} {S : zS} {I : zI} {J : zJ} {Q : zQ} {T : Nat → Option zE} (hT : z_tab y = T) (k : Nat) (h : z_n (z_wp d) T Q k (pc, ls, st, S, I, J)) : Go d y pc ls st S I J Q := by
  subst hT
  exact z_foldN (z_wp_up d) k _ h
theorem Go.ite {d y a b : Nat} {c : Prop} [Decidable c] {ls st : List Value} {S : zS} {I : zI} {J : zJ} {Q : zQ} (h1 : c → Go d y a ls st S I J Q) (h2 : ¬ c → Go d y b ls st S I J Q) : Go d y (if c then a else b) ls st S I J Q := by
  by_cases h : c
  · rw [if_pos h]; exact h1 h
  · rw [if_neg h]; exact h2 h
theorem Go.eti {d y a b : Nat} {c : Prop} [Decidable c] {ls st : List Value} {S : zS} {I : zI} {J : zJ} {Q : zQ} (h1 : ¬ c → Go d y a ls st S I J Q) (h2 : c → Go d y b ls st S I J Q) : Go d y (if c then b else a) ls st S I J Q := by
  by_cases h : c
  · rw [if_pos h]; exact h2 h
  · rw [if_neg h]; exact h1 h
/-- more depth is no loss -/
theorem z_ev.le : ∀ {d d' : Nat}, d ≤ d' → ∀ {y : Nat} {as : List Value} {S S' : zS} {I I' : zI} {J J' : zJ} {v : Option Value}, z_ev d y as S I J v S' I' J' → z_ev d' y as S I J v S' I' J'
  | 0, _, _, _, _, _, _, _, _, _, _, _, h => h.elim
  | d + 1, 0, hd, _, _, _, _, _, _, _, _, _, _ => absurd hd (Nat.not_succ_le_zero d)
  | d + 1, d' + 1, hd, y, as, S, S', I, I', J, J', v, h => by
    have hm : ∀ (Q : zQ) (o : zO) (P : zC → Prop), z_stp o P Q (z_wp d) → z_stp o P Q (z_wp d') := by
      intro Q o P ho
      rcases o with c | ⟨g, c⟩ | ⟨g, v, S, I, J⟩ | ⟨g, y, as, S, I, J, k⟩ | _
      · exact ho
      · exact ho
      · exact ho
      · obtain ⟨h1, v1, S1, I1, J1, h2, h3⟩ := ho
        exact ⟨h1, v1, S1, I1, J1, z_ev.le (Nat.le_of_succ_le_succ hd) h2, h3⟩
      · exact ho
    have h' : z_go (z_wp d) (z_tab y) (z_eq v S' I' J') (0, z_ls y as, [], S, I, J) := h.2
    have h2 : z_go (z_wp d') (z_tab y) (z_eq v S' I' J') (0, z_ls y as, [], S, I, J) := fun P hP => h' P (fun c' hc => hP c' (hm _ _ _ hc))
    exact ⟨h.1, h2⟩
theorem z_wp.le {d d' y : Nat} (hd : d ≤ d') {as : List Value} {S : zS} {I : zI} {J : zJ} {Q : zQ} (h : z_wp d y as S I J Q) : z_wp d' y as S I J Q := by
  obtain ⟨v, S', I', J', h1, h2⟩ := h
  exact ⟨v, S', I', J', z_ev.le hd h1, h2⟩
/-- a switch -/
theorem Go.sw {d y dflt : Nat} {x : Int32} {ls st : List Value} {S : zS} {I : zI} {J : zJ} {Q : zQ} : ∀ (tg : List (Int32 × Nat)), (∀ q ∈ tg, x = q.1 → Go d y q.2 ls st S I J Q) → ((∀ q ∈ tg, ¬ x = q.1) → Go d y dflt ls st S I J Q) → Go d y (z_sw tg dflt x) ls st S I J Q
  | [], _, h2 => h2 (fun _ h => by cases h)
  | q :: l, h1, h2 => by
    show Go d y (if x = q.1 then q.2 else z_sw l dflt x) ls st S I J Q
    by_cases hx : x = q.1
    · rw [if_pos hx]; exact h1 q List.mem_cons_self hx
    · rw [if_neg hx]
      exact Go.sw l (fun r hr hxr => h1 r (List.mem_cons_of_mem _ hr) hxr) (fun h => h2 (fun r hr => by
        rcases List.mem_cons.mp hr with rfl | hr
        · exact hx
        · exact h r hr))
/-- loops that count up: from the end backwards -/
theorem z_up_to {P : Nat → Prop} (n : Nat) (hn : P n) (hs : ∀ k, k < n → P (k + 1) → P k) : ∀ k, k ≤ n → P k := by
  intro k hk
  obtain ⟨j, rfl⟩ := Nat.exists_eq_add_of_le hk
  clear hk
  induction j generalizing k with
  | zero => exact hn
  | succ j ih => exact hs k (by omega) (ih (k + 1) (by rw [show k + 1 + j = k + (j + 1) by omega]; exact hn) (by rw [show k + 1 + j = k + (j + 1) by omega]; exact hs))

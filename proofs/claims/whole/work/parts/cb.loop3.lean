/-! THE LAW'S LOOP -/
theorem lw_end {N k : Nat} (hN : N < 2 ^ 30) (hk : k < 2 ^ 30) : (nI N - (6 : Int32) < nI k) ↔ N < k + 6 := by
  rw [Int32.lt_iff_toInt_lt, Int32.toInt_sub, nI_toInt (by omega), nI_toInt (by omega), show Int32.toInt 6 = 6 by decide]
  rw [Int.bmod_eq_of_le (by omega) (by omega)]
  omega
section LW8
variable {d a h0 N C L : Nat}
theorem lw_loop (hd : 100 < d) (hN : N < 2 ^ 29) (hh : h0 < a) : ∀ (r i : Nat) (S : zS) (I : zI) (J : zJ) (A : Wst), 6 * i ≤ N + 6 → N < 6 * (i + r) + 6 → Inv S I J a A → z_isI (z_kd S h0) = true → z_ln S h0 = N → z_ce S + 9 * r ≤ C → z_sl S + 700 * r ≤ L → Go d i_law 18 [.ref h0, .ref a, .ref (a + 72), .int (nI (6 * i))] [] S I J (fun v S' _ _ => v = some (.int 1) ∧ z_ce S' ≤ C ∧ z_sl S' ≤ L) := by
  intro r
  induction r with
  | zero =>
    intro i S I J A h1 h2 h hk hl hc hs
    refine b_law_18 (by unfold z_isA; rw [hk]; rfl) (fun _ => b_law_1041 (Or.inr rfl) ⟨rfl, by omega, by omega⟩) (fun z => absurd ?_ z)
    rw [hl]; exact (lw_end (by omega) (by omega)).mpr (by omega)
  | succ r ih =>
    intro i S I J A h1 h2 h hk hl hc hs
    refine b_law_18 (by unfold z_isA; rw [hk]; rfl) (fun _ => b_law_1041 (Or.inr rfl) ⟨rfl, by omega, by omega⟩) (fun z => ?_)
    rw [hl] at z
    have hlt : ¬ N < 6 * i + 6 := fun q => z ((lw_end (by omega) (by omega)).mpr q)
    have hz := h.2.2.2.2.2.2.2
    have g : Scr S h0 (nI (6 * i)) := fun j hj => by
      refine ⟨hk, ?_⟩
      rw [hl]
      rcases hj with rfl | rfl | rfl | rfl | rfl
      · exact (m_idx (a := 6 * i + 1) (by rw [show (1 : Int32) = nI 1 from rfl, nI_add]) (by omega) (by omega)).1
      · exact (m_idx (a := 6 * i + 2) (by rw [show (2 : Int32) = nI 2 from rfl, nI_add]) (by omega) (by omega)).1
      · exact (m_idx (a := 6 * i + 3) (by rw [show (3 : Int32) = nI 3 from rfl, nI_add]) (by omega) (by omega)).1
      · exact (m_idx (a := 6 * i + 4) (by rw [show (4 : Int32) = nI 4 from rfl, nI_add]) (by omega) (by omega)).1
      · exact (m_idx (a := 6 * i + 5) (by rw [show (5 : Int32) = nI 5 from rfl, nI_add]) (by omega) (by omega)).1
    refine b_law_27 ⟨hk, by rw [hl]; exact (m_idx (a := 6 * i) rfl (by omega) (by omega)).1⟩ (lw_case _ hd h hh g ?_)
    intro S1 I1 J1 A2 w c mo fr
    refine b_law_1035 ?_
    rw [show nI (6 * i) + (6 : Int32) = nI (6 * (i + 1)) by rw [show (6 : Int32) = nI 6 from rfl, nI_add]; rfl]
    have e := mo.2.1 h0 (by omega)
    exact ih (i + 1) S1 I1 J1 A2 (by omega) (by omega) w (by rw [e.1]; exact hk) (by rw [e.2]; exact hl) (by have := c.1; omega) (by have := c.2; omega)
end LW8

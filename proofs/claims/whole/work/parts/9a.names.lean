/-! NAMES: both sides -/
/-- how the elements of a group are named -/
def Nm : Type := Bool × Nat × Int32 × (Nat → Nat) × (Nat → Nat) × (Nat → Nat → Nat)
def Nm.ki (N : Nm) : Bool := N.1
def Nm.ln (N : Nm) : Nat := N.2.1
def Nm.pr (N : Nm) : Int32 := N.2.2.1
def Nm.og (N : Nm) : Nat → Nat := N.2.2.2.1
def Nm.sz (N : Nm) : Nat → Nat := N.2.2.2.2.1
def Nm.ro (N : Nm) : Nat → Nat → Nat := N.2.2.2.2.2
def dgt (v k : Nat) : Int32 := if v < 10 then nI (48 + v) else if k = 0 then nI (48 + v / 10) else nI (48 + v % 10)
def wdt (v : Nat) : Nat := if v < 10 then 1 else 2
def nmN (sz : Nat → Nat) : Nat → Nat → Nat → Nat → Int32 ⊕ Nat
  | 0, _, _, k => .inr k
  | r + 1, i, e, k => if k < wdt (e % sz i) then .inl (dgt (e % sz i) k) else if r = 0 then .inr (k - wdt (e % sz i)) else if k - wdt (e % sz i) = 0 then .inl 44 else nmN sz r (i + 1) (e / sz i) (k - wdt (e % sz i) - 1)
def nmB (N : Nm) (x k : Nat) : Int32 ⊕ Nat := if N.ki = true then (if k < N.ln then .inl (nI (48 + N.ro (N.og x) k)) else .inr (k - N.ln)) else nmN N.sz N.ln 0 (N.og x) k
def nmE (pr : Int32) : Int32 ⊕ Nat → Int32
  | .inl b => b
  | .inr k => if pr ≤ nI k then -1 else 39
def NmOk (n : Nat) (N : Nm) : Prop := (∀ x, x < n → N.og x < 20) ∧ (N.ki = true → N.ln ≤ 8 ∧ ∀ e i, e < 20 → i < N.ln → N.ro e i < 8) ∧ (N.ki = false → N.ln ≤ 80 ∧ ∀ i, i < N.ln → 1 ≤ N.sz i ∧ N.sz i ≤ 20)
/-- eight at a time -/
def pck (r : Nat → Nat) : Nat → Nat
  | 0 => 0
  | k + 1 => 8 * pck r k + r k
theorem pck_lt {r : Nat → Nat} : ∀ k, (∀ i, i < k → r i < 8) → pck r k < 8 ^ k := by
  intro k
  induction k with
  | zero => intro _; exact Nat.one_pos
  | succ k ih =>
    intro h
    have := ih (fun i hi => h i (by omega))
    have := h k (by omega)
    show 8 * pck r k + r k < 8 ^ k * 8
    omega
theorem pck_dg {r : Nat → Nat} : ∀ k, (∀ i, i < k → r i < 8) → ∀ i, i < k → pck r k / 8 ^ (k - 1 - i) % 8 = r i := by
  intro k
  induction k with
  | zero => intro _ i hi; omega
  | succ k ih =>
    intro h i hi
    have hk := h k (by omega)
    show (8 * pck r k + r k) / 8 ^ (k + 1 - 1 - i) % 8 = r i
    by_cases e : i = k
    · rw [e, show k + 1 - 1 - k = 0 by omega, Nat.pow_zero, Nat.div_one]; omega
    · rw [show k + 1 - 1 - i = (k - 1 - i) + 1 by omega, Nat.pow_succ, Nat.mul_comm (8 ^ (k - 1 - i)) 8, ← Nat.div_div_eq_div_mul, show (8 * pck r k + r k) / 8 = pck r k by omega]
      exact ih (fun i hi => h i (by omega)) i (by omega)
theorem i32_nn (x : Int32) : -1 - (-1 - x) = x := by
  apply z_inj
  simp only [Int32.toBitVec_sub]
  bv_omega
theorem i32_neg {k : Nat} (hk : k < 2 ^ 31) : -1 - nI k < 0 := by
  rw [Int32.lt_iff_toInt_lt, Int32.toInt_sub, nI_toInt hk, show Int32.toInt (-1) = -1 by decide, show Int32.toInt 0 = 0 by decide]
  rw [Int.bmod_eq_of_le (by omega) (by omega)]
  omega
theorem dgt_ge (v k : Nat) (hv : v < 100) : ¬ dgt v k < 0 := by
  unfold dgt
  by_cases h : v < 10
  · rw [if_pos h]; exact nI_pos (by omega)
  · rw [if_neg h]
    by_cases h2 : k = 0
    · rw [if_pos h2]; exact nI_pos (by omega)
    · rw [if_neg h2]; exact nI_pos (by omega)
/-- the class's code of it -/
def nmK : Int32 ⊕ Nat → Int32
  | .inl b => b
  | .inr k => -1 - nI k
/-- a name that the class keeps -/
def CNm (S : zS) (I : zI) (g n : Nat) (N : Nm) : Prop := NmOk n N ∧ z_kd S (z_rv S g 6) = 7 ∧ (z_kd S (z_rv S g 7) = 100 ∧ n ≤ z_ln S (z_rv S g 7) ∧ z_ln S (z_rv S g 7) < 2 ^ 31 ∧ ∀ x, x < n → I (z_rv S g 7) x = nI (N.og x)) ∧ I g 8 = N.pr ∧ (N.ki = true → z_rv S (z_rv S g 6) 1 ≠ 0 ∧ z_isI (z_kd S (z_rv S (z_rv S g 6) 1)) = true ∧ z_ln S (z_rv S (z_rv S g 6) 1) < 2 ^ 31 ∧ I (z_rv S g 6) 2 = nI N.ln ∧ ∀ x, x < n → N.og x < z_ln S (z_rv S (z_rv S g 6) 1) ∧ I (z_rv S (z_rv S g 6) 1) (N.og x) = nI (pck (N.ro (N.og x)) N.ln)) ∧ (N.ki = false → z_rv S (z_rv S g 6) 1 = 0 ∧ z_isI (z_kd S (z_rv S (z_rv S g 6) 0)) = true ∧ z_ln S (z_rv S (z_rv S g 6) 0) = N.ln ∧ ∀ i, i < N.ln → I (z_rv S (z_rv S g 6) 0) i = nI (N.sz i))
/-- a name that the model keeps -/
def MNm (S : zS) (I : zI) (m s n : Nat) (N : Nm) : Prop := NmOk n N ∧ I (z_rv S m 0) (665 * s + 2) = nI N.ki.toNat ∧ I (z_rv S m 0) (665 * s + 3) = nI N.ln ∧ I (z_rv S m 0) (665 * s + 4) = N.pr ∧ (∀ x, x < n → I (z_rv S m 0) (665 * s + 5 + x) = nI (N.og x)) ∧ (N.ki = false → ∀ i, i < N.ln → I (z_rv S m 0) (665 * s + 25 + i) = nI (N.sz i)) ∧ (N.ki = true → ∀ x i, x < n → i < N.ln → I (z_rv S m 0) (665 * s + 105 + 8 * N.og x + i) = nI (N.ro (N.og x) i))
section C23
variable {d a g n m s : Nat} {N : Nm} {S : zS} {I : zI} {J : zJ}
theorem c_byteOfNumbers {x K : Nat} (hd : 1 < d) (hC : CNm S I g n N) (hk : N.ki = false) (hx : x < n) (hK : K < 2 ^ 31) : z_ev d i_X6_byteOfNumbers [.ref (z_rv S g 6), .int (nI (N.og x)), .int (nI K)] S I J (some (.int (nmK (nmN N.sz N.ln 0 (N.og x) K)))) S I J := by
  obtain ⟨d, rfl⟩ := z_dep (d := d) (by omega)
  obtain ⟨⟨o1, _, o3⟩, c1, _, _, _, c5⟩ := hC
  obtain ⟨o3, o4⟩ := o3 hk
  obtain ⟨_, e2, e3, e4⟩ := c5 hk
  obtain ⟨h, hh⟩ : ∃ h, h = z_rv S g 6 := ⟨_, rfl⟩
  rw [← hh] at c1 e2 e3 e4 ⊢
  obtain ⟨L, hL⟩ : ∃ L, L = N.ln := ⟨_, rfl⟩
  rw [← hL] at o3 o4 e3 e4 ⊢
  obtain ⟨ans, hans⟩ : ∃ ans, ans = nmK (nmN N.sz L 0 (N.og x) K) := ⟨_, rfl⟩
  rw [← hans]
  have ho := o1 x hx
  refine e_X6_byteOfNumbers (b_X6_byteOfNumbers_0 ?_)
  suffices H : ∀ i, i ≤ L → ∀ e at_ x3 x4 x5 v6 v7, e < 20 → at_ ≤ 3 * i → at_ ≤ K → nmK (if i = 0 then nmN N.sz L 0 e K else if i = L then .inr (K - at_) else if K - at_ = 0 then .inl 44 else nmN N.sz (L - i) i e (K - at_ - 1)) = ans → (i = 0 → at_ = 0) → x3 = nI e → x4 = nI at_ → x5 = nI i → Go d i_X6_byteOfNumbers 8 [.ref h, .int (nI (N.og x)), .int (nI K), .int x3, .int x4, .int x5, v6, v7] [] S I J (z_eq (some (.int ans)) S I J) from H 0 (by omega) (N.og x) 0 _ _ _ _ _ ho (by omega) (by omega) (by rw [if_pos rfl, hans]) (fun _ => rfl) rfl rfl rfl
  refine z_up_to L ?_ ?_
  · rintro e at_ x3 x4 x5 v6 v7 he hat hat2 hv h0 rfl rfl rfl
    refine b_X6_byteOfNumbers_8 c1 (z_isA_I e2) (fun _ => b_X6_byteOfNumbers_108 ⟨?_, rfl, rfl, rfl⟩) (fun z => absurd (by rw [e3]; exact nI_le (Nat.le_refl _) (by omega)) z)
    rw [pk_sub hat2, ← hv]
    by_cases e0 : L = 0
    · rw [if_pos e0, e0]
      have := h0 e0
      rw [this]; rfl
    · rw [if_neg e0, if_pos rfl]; rfl
  · rintro i hi ih e at_ x3 x4 x5 v6 v7 he hat hat2 hv h0 rfl rfl rfl
    obtain ⟨s1, s2⟩ := o4 i hi
    refine b_X6_byteOfNumbers_8 c1 (z_isA_I e2) (fun z => absurd z (by rw [e3]; exact nI_ge hi (by omega))) (fun _ => ?_)
    refine b_X6_byteOfNumbers_18 c1 ⟨e2, by rw [e3]; exact vp_in_nI hi (by omega)⟩ ?_
    rw [nI_clamp (by omega), e4 i hi]
    refine ⟨_, _, _, _, ev_max (a := 1) (b := N.sz i) (by omega) (by decide) (by omega), ?_⟩
    rw [show max 1 (N.sz i) = N.sz i by omega]
    obtain ⟨w, hw⟩ : ∃ w, w = N.sz i := ⟨_, rfl⟩
    obtain ⟨v, hvv⟩ : ∃ v, v = e % N.sz i := ⟨_, rfl⟩
    have hv2 : v < 20 := by rw [hvv]; have := Nat.mod_lt e (show N.sz i > 0 by omega); omega
    have he' : e / N.sz i < 20 := Nat.lt_of_le_of_lt (Nat.div_le_self _ _) he
    have nz : ¬ nI (N.sz i) = 0 := nI_ne0 (by omega) (by omega)
    -- after the comma
    have digits : ∀ b x4, b ≤ 3 * i + 1 → b ≤ K → nmK (nmN N.sz (L - i) i e (K - b)) = ans → x4 = nI b → (v < 10 → Go d i_X6_byteOfNumbers 84 [.ref h, .int (nI (N.og x)), .int (nI K), .int (nI (e / N.sz i)), .int x4, .int (nI i), .int (nI (N.sz i)), .int (nI v)] [] S I J (z_eq (some (.int ans)) S I J)) ∧ (¬ v < 10 → Go d i_X6_byteOfNumbers 66 [.ref h, .int (nI (N.og x)), .int (nI K), .int (nI (e / N.sz i)), .int x4, .int (nI i), .int (nI (N.sz i)), .int (nI v)] [] S I J (z_eq (some (.int ans)) S I J)) := by
      rintro b x4 hb hb2 hv rfl
      rw [show L - i = (L - i - 1) + 1 by omega] at hv
      unfold nmN at hv
      rw [← hvv] at hv
      have fin : ∀ c, c = b + wdt v → c ≤ K → Go d i_X6_byteOfNumbers 99 [.ref h, .int (nI (N.og x)), .int (nI K), .int (nI (e / N.sz i)), .int (nI c - 1), .int (nI i), .int (nI (N.sz i)), .int (nI v)] [] S I J (z_eq (some (.int ans)) S I J) := by
        rintro c hc hcK
        have hwd : 1 ≤ wdt v ∧ wdt v ≤ 2 := by
          unfold wdt
          by_cases q : v < 10
          · rw [if_pos q]; omega
          · rw [if_neg q]; omega
        obtain ⟨c', rfl⟩ : ∃ c', c = c' + 1 := ⟨c - 1, by omega⟩
        rw [nI_pred]
        refine b_X6_byteOfNumbers_99 (ih (e / N.sz i) (c' + 1) _ _ _ _ _ he' (by omega) hcK ?_ (fun q => by omega) rfl (nI_1 c') (nI_1 i))
        rw [if_neg (show ¬ i + 1 = 0 by omega), ← hv, if_neg (show ¬ K - b < wdt v by omega)]
        by_cases q : i + 1 = L
        · rw [if_pos q, if_pos (show L - i - 1 = 0 by omega)]
          rw [hc]; congr 2; omega
        · rw [if_neg q, if_neg (show ¬ L - i - 1 = 0 by omega), show K - b - wdt v = K - (c' + 1) by omega, show L - (i + 1) = L - i - 1 by omega]
      refine ⟨fun q => ?_, fun q => ?_⟩
      · have ew : wdt v = 1 := if_pos q
        refine b_X6_byteOfNumbers_84 (fun z => ?_) (fun z => b_X6_byteOfNumbers_90 (by decide) ⟨?_, rfl, rfl, rfl⟩)
        · rw [nI_eq hK (by omega)] at z
          have := fin (b + 1) (by rw [ew]) (by omega)
          rw [nI_pred] at this
          exact this
        · rw [nI_eq hK (by omega)] at z
          rw [← hv, if_pos (by rw [ew]; omega), z_lit 10, pk_rem (by omega) (by decide) (by decide), z_lit 48, nI_add]
          unfold nmK dgt
          rw [if_pos q, show v % 10 = v by omega]
      · have ew : wdt v = 2 := if_neg q
        refine b_X6_byteOfNumbers_66 (fun z => ?_) (fun z => b_X6_byteOfNumbers_72 (by decide) ⟨?_, rfl, rfl, rfl⟩)
        · rw [nI_eq hK (by omega)] at z
          refine b_X6_byteOfNumbers_81 (fun z2 => ?_) (fun z2 => b_X6_byteOfNumbers_90 (by decide) ⟨?_, rfl, rfl, rfl⟩)
          · rw [nI_1, nI_eq hK (by omega)] at z2
            have := fin (b + 2) (by rw [ew]) (by omega)
            rw [nI_pred (b + 1)] at this
            rw [nI_1]
            exact this
          · rw [nI_1, nI_eq hK (by omega)] at z2
            rw [← hv, if_pos (by rw [ew]; omega), z_lit 10, pk_rem (by omega) (by decide) (by decide), z_lit 48, nI_add]
            unfold nmK dgt
            rw [if_neg q, if_neg (by omega)]
        · rw [nI_eq hK (by omega)] at z
          rw [← hv, if_pos (by rw [ew]; omega), z_lit 10, pk_div (by omega) (by decide) (by decide), z_lit 48, nI_add]
          unfold nmK dgt
          rw [if_neg q, if_pos (by omega)]
    have er : nI e - nI e / nI (N.sz i) * nI (N.sz i) = nI v := by rw [pk_rem (by omega) (by omega) (by omega), hvv]
    have ed : nI e / nI (N.sz i) = nI (e / N.sz i) := pk_div (by omega) (by omega) (by omega)
    by_cases e0 : i = 0
    · have ea := h0 e0
      rw [if_pos e0] at hv
      refine b_X6_byteOfNumbers_29 nz nz (fun _ => ?_) (fun z => absurd (by rw [e0]; decide) z)
      rw [er, ed]
      have dg := digits at_ _ (by omega) hat2 (by rw [ea, e0]; exact hv) rfl
      exact b_X6_byteOfNumbers_59 (fun z => dg.1 (by rw [z_lit 9, nI_leI (by omega) (by decide)] at z; omega)) (fun z => dg.2 (by rw [z_lit 9, nI_leI (by omega) (by decide)] at z; omega))
    · rw [if_neg e0, if_neg (by omega)] at hv
      refine b_X6_byteOfNumbers_29 nz nz (fun z => absurd z (nI_nle (by omega) (by omega))) (fun _ => ?_)
      rw [er, ed]
      refine b_X6_byteOfNumbers_47 (fun z => ?_) (fun z => b_X6_byteOfNumbers_53 ⟨?_, rfl, rfl, rfl⟩)
      · rw [nI_eq hK (by omega)] at z
        rw [if_neg (by omega)] at hv
        have dg := digits (at_ + 1) (nI at_ + 1) (by omega) (by omega) (by rw [← hv, Nat.sub_sub]) (nI_1 at_)
        exact b_X6_byteOfNumbers_56 (fun z => dg.1 (by rw [z_lit 9, nI_leI (by omega) (by decide)] at z; omega)) (fun z => dg.2 (by rw [z_lit 9, nI_leI (by omega) (by decide)] at z; omega))
      · rw [nI_eq hK (by omega)] at z
        rw [← hv, if_pos (by omega)]
        rfl
theorem nmN_ge {sz : Nat → Nat} {L : Nat} (hs : ∀ i, i < L → 1 ≤ sz i ∧ sz i ≤ 20) : ∀ r i e k, i + r ≤ L → ∀ b, nmN sz r i e k = .inl b → ¬ b < 0 := by
  intro r
  induction r with
  | zero => intro i e k _ b h; cases h
  | succ r ih =>
    intro i e k hi b h
    unfold nmN at h
    obtain ⟨s1, s2⟩ := hs i (by omega)
    have := Nat.mod_lt e (show sz i > 0 by omega)
    by_cases q : k < wdt (e % sz i)
    · rw [if_pos q] at h
      cases h
      exact dgt_ge _ _ (by omega)
    · rw [if_neg q] at h
      by_cases q2 : r = 0
      · rw [if_pos q2] at h; cases h
      · rw [if_neg q2] at h
        by_cases q3 : k - wdt (e % sz i) = 0
        · rw [if_pos q3] at h; cases h; decide
        · rw [if_neg q3] at h; exact ih _ _ _ (by omega) b h
theorem nmN_lt {sz : Nat → Nat} {M : Nat} : ∀ r i e k, k < M → ∀ j, nmN sz r i e k = .inr j → j < M := by
  intro r
  induction r with
  | zero => intro i e k hk j h; cases h; exact hk
  | succ r ih =>
    intro i e k hk j h
    unfold nmN at h
    by_cases q : k < wdt (e % sz i)
    · rw [if_pos q] at h; cases h
    · rw [if_neg q] at h
      by_cases q2 : r = 0
      · rw [if_pos q2] at h; cases h; omega
      · rw [if_neg q2] at h
        by_cases q3 : k - wdt (e % sz i) = 0
        · rw [if_pos q3] at h; cases h
        · rw [if_neg q3] at h; exact ih _ _ _ (by omega) j h
theorem c_byteAt {x K : Nat} (hd : 2 < d) (hC : CNm S I g n N) (hx : x < n) (hK : K < 2 ^ 31) : z_ev d i_X6_byteAt [.ref (z_rv S g 6), .int (nI (N.og x)), .int (nI K)] S I J (some (.int (nmK (nmB N x K)))) S I J := by
  obtain ⟨d, rfl⟩ := z_dep (d := d) (by omega)
  have hC' := hC
  obtain ⟨⟨o1, o2, o3⟩, c1, c2, c3, c4, c5⟩ := hC
  have ho := o1 x hx
  unfold nmB
  cases hk : N.ki with
  | false =>
    rw [if_neg (by decide)]
    refine e_X6_byteAt (b_X6_byteAt_0 c1 (fun _ => b_X6_byteAt_61 c1 ⟨_, _, _, _, c_byteOfNumbers (by omega) hC' hk hx hK, b_X6_byteAt_67 ⟨rfl, rfl, rfl, rfl⟩⟩) (fun z => absurd (c5 hk).1 z))
  | true =>
    obtain ⟨o2, o4⟩ := o2 hk
    obtain ⟨e1, e2, e3, e4, e5⟩ := c4 hk
    obtain ⟨e5, e6⟩ := e5 x hx
    rw [if_pos rfl]
    refine e_X6_byteAt (b_X6_byteAt_0 c1 (fun z => absurd z e1) (fun _ => b_X6_byteAt_7 c1 (fun z => ?_) (fun z => b_X6_byteAt_15 c1 ⟨?_, rfl, rfl, rfl⟩)))
    · rw [e4, nI_ltI hK (by omega)] at z
      have hp := pck_lt N.ln (fun i hi => o4 (N.og x) i ho hi)
      have h8 : 8 ^ N.ln ≤ 8 ^ 8 := Nat.pow_le_pow_right (by decide) o2
      refine b_X6_byteAt_24 c1 (z_isA_I e2) (fun z2 => absurd z2 (nI_ge e5 e3)) (fun _ => b_X6_byteAt_33 c1 ⟨e2, vp_in_nI e5 e3⟩ c1 ⟨?_, rfl, rfl, rfl⟩)
      rw [nI_clamp (by omega), e6, e4, if_pos z, show nI N.ln - 1 = nI (N.ln - 1) from pk_sub (show 1 ≤ N.ln by omega), pk_sub (show K ≤ N.ln - 1 by omega), z_lit 3, pk_mul, z_shr (by omega) (by omega), show (7 : Int32) = nI 7 from rfl, show nI (pck (N.ro (N.og x)) N.ln / 2 ^ (3 * (N.ln - 1 - K))) &&& nI 7 = nI (pck (N.ro (N.og x)) N.ln / 2 ^ (3 * (N.ln - 1 - K)) % 2 ^ 3) from pk_andN (by have := Nat.div_le_self (pck (N.ro (N.og x)) N.ln) (2 ^ (3 * (N.ln - 1 - K))); omega) 3 (by decide), Nat.pow_mul, show (2 : Nat) ^ 3 = 8 from rfl, pck_dg N.ln (fun i hi => o4 (N.og x) i ho hi) K z, z_lit 48, nI_add]
      rfl
    · rw [e4, nI_ltI hK (by omega)] at z
      rw [e4, if_neg z, pk_sub (by omega)]
      rfl
theorem nmB_ge {x K : Nat} (hN : NmOk n N) (hx : x < n) {b : Int32} (h : nmB N x K = .inl b) : ¬ b < 0 := by
  unfold nmB at h
  cases hk : N.ki with
  | false =>
    rw [hk, if_neg (by decide)] at h
    exact nmN_ge (hN.2.2 hk).2 _ _ _ _ (by omega) b h
  | true =>
    rw [hk, if_pos rfl] at h
    by_cases q : K < N.ln
    · rw [if_pos q] at h
      cases h
      have := (hN.2.1 hk).2 (N.og x) K (hN.1 x hx) q
      exact nI_pos (by omega)
    · rw [if_neg q] at h; cases h
theorem nmB_lt {x K j : Nat} (hK : K < 2 ^ 31) (h : nmB N x K = .inr j) : j < 2 ^ 31 := by
  unfold nmB at h
  cases hk : N.ki with
  | false =>
    rw [hk, if_neg (by decide)] at h
    exact nmN_lt _ _ _ _ hK j h
  | true =>
    rw [hk, if_pos rfl] at h
    by_cases q : K < N.ln
    · rw [if_pos q] at h; cases h
    · rw [if_neg q] at h; cases h; omega
theorem c_nameByte {x K : Nat} (hd : 3 < d) (hg : z_kd S g = 2) (hC : CNm S I g n N) (hx : x < n) (hn : n ≤ 20) (hK : K < 2 ^ 31) : z_ev d i_X1_nameByte [.ref g, .int (nI x), .int (nI K)] S I J (some (.int (nmE N.pr (nmB N x K)))) S I J := by
  obtain ⟨d, rfl⟩ := z_dep (d := d) (by omega)
  have hC' := hC
  obtain ⟨hN, c1, ⟨c2, c2b, c2c, c2d⟩, c3, c4, c5⟩ := hC
  refine e_X1_nameByte (b_X1_nameByte_0 hg hg ⟨by rw [c2]; rfl, vp_in_nI (by omega) c2c⟩ c1 ?_)
  rw [nI_clamp (by omega), c2d x hx]
  refine ⟨_, _, _, _, c_byteAt (by omega) hC' hx hK, ?_⟩
  cases h : nmB N x K with
  | inl b =>
    have := nmB_ge hN hx h
    exact b_X1_nameByte_14 (fun z => absurd z this) (fun _ => b_X1_nameByte_19 ⟨rfl, rfl, rfl, rfl⟩)
  | inr j =>
    have hj := nmB_lt hK h
    refine b_X1_nameByte_14 (fun _ => ?_) (fun z => absurd (i32_neg hj) z)
    refine b_X1_nameByte_21 hg (fun z => b_X1_nameByte_36 ⟨?_, rfl, rfl, rfl⟩) (fun z => b_X1_nameByte_31 ⟨?_, rfl, rfl, rfl⟩)
    · unfold nmK at z
      rw [i32_nn, c3] at z
      exact congrArg (fun w => some (Value.int w)) (if_pos z).symm
    · unfold nmK at z
      rw [i32_nn, c3] at z
      exact congrArg (fun w => some (Value.int w)) (if_neg z).symm
theorem m_digit {v k : Nat} (hd : 0 < d) (hv : v < 100) (hk : k < 2) (hkw : k < wdt v) : z_ev d i_X12_digit [.int (nI v), .int (nI k)] S I J (some (.int (dgt v k))) S I J := by
  obtain ⟨d, rfl⟩ := z_dep hd
  unfold dgt
  refine e_X12_digit (b_X12_digit_0 (fun z => ?_) (fun z => b_X12_digit_6 ⟨?_, rfl, rfl, rfl⟩))
  · rw [z_lit 10, nI_leI (by decide) (by omega)] at z
    refine b_X12_digit_13 (fun z2 => b_X12_digit_27 (by decide) ⟨?_, rfl, rfl, rfl⟩) (fun z2 => b_X12_digit_17 (by decide) ⟨?_, rfl, rfl, rfl⟩)
    · rw [z_lit 0, nI_eq (by omega) (by decide)] at z2
      rw [if_neg (by omega), if_neg z2, z_lit 10, pk_rem (by omega) (by decide) (by decide), z_lit 48, nI_add]
    · rw [z_lit 0, nI_eq (by omega) (by decide)] at z2
      rw [if_neg (by omega), if_pos z2, z_lit 10, pk_div (by omega) (by decide) (by decide), z_lit 48, nI_add]
  · rw [z_lit 10, nI_leI (by decide) (by omega)] at z
    rw [if_pos (by omega), z_lit 48, nI_add]
end C23

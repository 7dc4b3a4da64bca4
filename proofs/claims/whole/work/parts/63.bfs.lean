/-! PURE: a queue that is worked off -/
def BQ (n : Nat) (E : Nat → Nat → Prop) (a N : Nat) (q F : Nat → Nat) (i : Nat) : Prop := (0 < N ∧ q 0 = a ∧ F a = 0 ∧ i ≤ N ∧ ∀ j, j < N → F (q j) ≤ j) ∧ (∀ j, j < N → q j < n) ∧ (∀ j j', j < j' → j' < N → q j ≠ q j') ∧ (∀ j, j < N → rch n E a (F (q j)) (q j)) ∧ (∀ j j', j ≤ j' → j' < N → F (q j) ≤ F (q j')) ∧ (i < N → ∀ j, j < N → F (q j) ≤ F (q i) + 1) ∧ ∀ j, j < i → ∀ z, z < n → E (q j) z → ∃ j', j' < N ∧ q j' = z ∧ F z ≤ F (q j) + 1
/-- a point is in the queue -/
def inq (N : Nat) (q : Nat → Nat) (x : Nat) : Prop := ∃ j, j < N ∧ q j = x
section B
variable {n : Nat} {E : Nat → Nat → Prop} {a : Nat}
theorem BQ.start (ha : a < n) (F : Nat → Nat) (hF : F a = 0) : BQ n E a 1 (fun _ => a) F 0 := by
  refine ⟨⟨by decide, rfl, hF, by decide, fun j hj => by rw [hF]; omega⟩, fun _ _ => ha, fun j j' h1 h2 => by omega, fun _ _ => ?_, fun _ _ _ _ => Nat.le_refl _, fun _ _ _ => Nat.le_succ _, fun j hj => by omega⟩
  rw [hF]
  exact rfl
theorem BQ.len {N i : Nat} {q F : Nat → Nat} (h : BQ n E a N q F i) : N ≤ n := z_holes n N q h.2.1 h.2.2.1
theorem BQ.add {N i z : Nat} {q F : Nat → Nat} (h : BQ n E a N q F i) (hi : i < N) (hz : z < n) (hE : E (q i) z) (hn : ¬ inq N q z) : BQ n E a (N + 1) (zput q N z) (zput F z (F (q i) + 1)) i := by
  obtain ⟨⟨h1, h2, h3, h4, h4'⟩, h5, h6, h7, h8, h9, h10⟩ := h
  have hq : ∀ j, j < N → zput q N z j = q j := fun j hj => zput_n (by omega)
  have hqz : ∀ j, j < N → q j ≠ z := fun j hj e => hn ⟨j, hj, e⟩
  have hF : ∀ j, j < N → zput F z (F (q i) + 1) (q j) = F (q j) := fun j hj => zput_n (hqz j hj)
  refine ⟨⟨by omega, by rw [hq 0 h1]; exact h2, ?_, by omega, ?_⟩, ?_, ?_, ?_, ?_, ?_, ?_⟩
  · rw [zput_n (by rw [← h2]; exact hqz 0 h1)]; exact h3
  · intro j hj
    by_cases e : j = N
    · rw [e, zput_s, zput_s]
      have := h4' i hi
      omega
    · rw [hq j (by omega), hF j (by omega)]; exact h4' j (by omega)
  · intro j hj
    by_cases e : j = N
    · rw [e, zput_s]; exact hz
    · rw [hq j (by omega)]; exact h5 j (by omega)
  · intro j j' hj hj'
    by_cases e : j' = N
    · rw [e, zput_s, hq j (by omega)]; exact hqz j (by omega)
    · rw [hq j (by omega), hq j' (by omega)]; exact h6 j j' hj (by omega)
  · intro j hj
    by_cases e : j = N
    · rw [e, zput_s, zput_s]
      exact ⟨hz, q i, h5 i hi, h7 i hi, hE⟩
    · rw [hq j (by omega), hF j (by omega)]; exact h7 j (by omega)
  · intro j j' hj hj'
    by_cases e : j' = N
    · rw [e, zput_s, zput_s]
      by_cases e2 : j = N
      · rw [e2, zput_s, zput_s]; exact Nat.le_refl _
      · rw [hq j (by omega), hF j (by omega)]; exact h9 hi j (by omega)
    · rw [hq j (by omega), hF j (by omega), hq j' (by omega), hF j' (by omega)]; exact h8 j j' hj (by omega)
  · intro _ j hj
    rw [hq i hi, hF i hi]
    by_cases e : j = N
    · rw [e, zput_s, zput_s]; exact Nat.le_refl _
    · rw [hq j (by omega), hF j (by omega)]; exact h9 hi j (by omega)
  · intro j hj z' hz' hE'
    rw [hq j (by omega)] at hE'
    obtain ⟨j', g1, g2, g3⟩ := h10 j hj z' hz' hE'
    refine ⟨j', by omega, by rw [hq j' g1]; exact g2, ?_⟩
    rw [hq j (by omega), hF j (by omega), ← g2, hF j' g1, g2]; exact g3
theorem BQ.next {N i : Nat} {q F : Nat → Nat} (h : BQ n E a N q F i) (hi : i < N) (hall : ∀ z, z < n → E (q i) z → inq N q z) : BQ n E a N q F (i + 1) := by
  obtain ⟨⟨h1, h2, h3, h4, h4'⟩, h5, h6, h7, h8, h9, h10⟩ := h
  refine ⟨⟨h1, h2, h3, by omega, h4'⟩, h5, h6, h7, h8, fun hi' j hj => ?_, fun j hj z hz hE => ?_⟩
  · have e1 := h9 hi j hj
    have e2 := h8 i (i + 1) (by omega) hi'
    omega
  · by_cases e : j = i
    · subst e
      obtain ⟨j', g1, g2⟩ := hall z hz hE
      exact ⟨j', g1, g2, by rw [← g2]; exact h9 hi j' g1⟩
    · exact h10 j (by omega) z hz hE
theorem BQ.fin {N : Nat} {q F : Nat → Nat} (h : BQ n E a N q F N) (x : Nat) : (inq N q x → fr n E a x = nI (F x)) ∧ (¬ inq N q x → fr n E a x = -1) := by
  obtain ⟨⟨h1, h2, h3, h4, h4'⟩, h5, h6, h7, h8, h9, h10⟩ := h
  refine fr_lab (D := inq N q) (F := F) ⟨0, h1, h2⟩ h3 ?_ ?_ x
  · rintro x ⟨j, hj, rfl⟩
    exact h7 j hj
  · rintro y ⟨j, hj, rfl⟩ z hz hE
    obtain ⟨j', g1, g2, g3⟩ := h10 j hj z hz hE
    exact ⟨⟨j', g1, g2⟩, g3⟩
theorem inq_put {N z x : Nat} {q : Nat → Nat} : inq (N + 1) (zput q N z) x ↔ inq N q x ∨ x = z := by
  constructor
  · rintro ⟨j, hj, e⟩
    by_cases ej : j = N
    · rw [ej, zput_s] at e; exact Or.inr e.symm
    · rw [zput_n ej] at e; exact Or.inl ⟨j, by omega, e⟩
  · rintro (⟨j, hj, e⟩ | e)
    · exact ⟨j, by omega, by rw [zput_n (by omega)]; exact e⟩
    · exact ⟨N, by omega, by rw [zput_s]; exact e.symm⟩
end B
/-! THE MODEL: how far it is -/
/-- what may change: the row of distances from b on, and the queue -/
def MF (S : zS) (I0 I : zI) (m b : Nat) : Prop := (∀ h, h ≠ z_rv S m 29 → h ≠ z_rv S m 30 → I h = I0 h) ∧ ∀ j, j < b ∨ b + 20 ≤ j → I (z_rv S m 29) j = I0 (z_rv S m 29) j
def MK (S : zS) (m : Nat) : Prop := z_kd S m = 13 ∧ z_kd S (z_rv S m 29) = 100 ∧ z_ln S (z_rv S m 29) = 40 ∧ z_kd S (z_rv S m 30) = 100 ∧ z_ln S (z_rv S m 30) = 20 ∧ z_rv S m 29 ≠ z_rv S m 30 ∧ z_rv S m 0 ≠ z_rv S m 29 ∧ z_rv S m 0 ≠ z_rv S m 30
section M6
variable {d m s n a b : Nat} {t : Nat → Nat → Nat} {iv : Nat → Nat} {S : zS} {I I0 : zI} {J : zJ}
theorem MF.refl : MF S I0 I0 m b := ⟨fun _ _ _ => rfl, fun _ _ => rfl⟩
theorem MF.trans {I1 : zI} (h : MF S I0 I m b) (h' : MF S I I1 m b) : MF S I0 I1 m b := ⟨fun a h1 h2 => by rw [h'.1 a h1 h2]; exact h.1 a h1 h2, fun j hj => by rw [h'.2 j hj]; exact h.2 j hj⟩
theorem MF.far {k : Nat} {v : Int32} (h : MF S I0 I m b) (hk1 : b ≤ k) (hk2 : k < b + 20) : MF S I0 (z_u2 I (z_rv S m 29) k v) m b := ⟨fun a h1 h2 => by rw [z_u2_row h1]; exact h.1 a h1 h2, fun j hj => by rw [z_u2_nk (by omega)]; exact h.2 j hj⟩
theorem MF.line {k : Nat} {v : Int32} (h : MF S I0 I m b) (hK : MK S m) : MF S I0 (z_u2 I (z_rv S m 30) k v) m b := ⟨fun a h1 h2 => by rw [z_u2_row h2]; exact h.1 a h1 h2, fun j hj => by rw [z_u2_row hK.2.2.2.2.2.1]; exact h.2 j hj⟩
theorem MF.ms (h : MF S I0 I m b) (hK : MK S m) (hm : MS S I0 m s n t) : MS S I m s n t := hm.fr (h.1 _ hK.2.2.2.2.2.2.1 hK.2.2.2.2.2.2.2)
/-- the queue and the labels are in the rows -/
def BI (S : zS) (I : zI) (m b n N : Nat) (q F : Nat → Nat) : Prop := (∀ j, j < N → I (z_rv S m 30) j = nI (q j)) ∧ (∀ x, x < n → inq N q x → I (z_rv S m 29) (b + x) = nI (F x)) ∧ ∀ x, x < n → ¬ inq N q x → I (z_rv S m 29) (b + x) = -1
theorem BI.fr {N : Nat} {q F : Nat → Nat} {E : Nat → Nat → Prop} {x : Nat} (h : BI S I m b n N q F) (hB : BQ n E a N q F N) (hx : x < n) : I (z_rv S m 29) (b + x) = fr n E a x := by
  by_cases e : inq N q x
  · rw [h.2.1 x hx e, (hB.fin x).1 e]
  · rw [h.2.2 x hx e, (hB.fin x).2 e]
theorem BI.add {N i z : Nat} {q F : Nat → Nat} (h : BI S I m b n N q F) (hK : MK S m) (hz : z < n) (hn : ¬ inq N q z) {l : Nat} : BI S (z_u2 (z_u2 I (z_rv S m 29) (b + z) (nI l)) (z_rv S m 30) N (nI z)) m b n (N + 1) (zput q N z) (zput F z l) := by
  have hne := hK.2.2.2.2.2.1
  refine ⟨fun j hj => ?_, fun x hx hq => ?_, fun x hx hq => ?_⟩
  · by_cases e : j = N
    · rw [e, z_u2_same, zput_s]
    · rw [z_u2_nk e, z_u2_row (fun e => hne e.symm), zput_n e]; exact h.1 j (by omega)
  · rw [z_u2_row hne]
    by_cases e : x = z
    · rw [e, z_u2_same, zput_s]
    · rw [z_u2_nk (by omega), zput_n e]
      rcases inq_put.mp hq with q1 | q1
      · exact h.2.1 x hx q1
      · exact absurd q1 e
  · rw [z_u2_row hne]
    have hx2 : ¬ inq N q x := fun q1 => hq (inq_put.mpr (Or.inl q1))
    have e : x ≠ z := fun q1 => hq (inq_put.mpr (Or.inr q1))
    rw [z_u2_nk (by omega)]; exact h.2.2 x hx hx2
theorem nI_nm1 {k : Nat} (hk : k < 2 ^ 31) : nI k ≠ -1 := fun e => by
  have h := nI_pos hk
  rw [e] at h
  exact h (by decide)
def lfQ (S : zS) (I0 : zI) (J : zJ) (m b n : Nat) (E : Nat → Nat → Prop) (a0 : Nat) : zQ := fun v S' I' J' => v = none ∧ S' = S ∧ J' = J ∧ MF S I0 I' m b ∧ ∀ x, x < n → I' (z_rv S m 29) (b + x) = fr n E a0 x
theorem m_laysFar {to : Nat} (hd : 2 < d) (hK : MK S m) (hM : MS S I0 m s n t) (hg : Grp n t iv) (ha : a < 2 ^ n) (hto : to < 2) : ∃ I', z_ev d i_X12_laysFar [.ref m, .int (nI s), .int (nI a), .int (nI to)] S I0 J none S I' J ∧ MF S I0 I' m (20 * to) ∧ ∀ x, x < n → I' (z_rv S m 29) (20 * to + x) = fr n (arc n t a) 0 x := by
  obtain ⟨d, rfl⟩ := z_dep (d := d) (by omega)
  have hk := hM.1.1
  have hn := hg.le
  have hn0 := hg.pos
  have ha31 := z_lt31 hn ha
  have hne := hK.2.2.2.2.2.1
  suffices hw : z_wp (d + 1) i_X12_laysFar [.ref m, .int (nI s), .int (nI a), .int (nI to)] S I0 J (lfQ S I0 J m (20 * to) n (arc n t a) 0) by
    obtain ⟨v, S', I', J', x1, rfl, rfl, rfl, x2, x3⟩ := hw
    exact ⟨I', x1, x2, x3⟩
  have e20 : ∀ k, (20 : Int32) * nI to + nI k = nI (20 * to + k) := fun k => by rw [z_lit 20, pk_mul, nI_add]
  have e20' : (20 : Int32) * nI to = nI (20 * to) := by rw [z_lit 20, pk_mul]
  have in29 : ∀ k, k < 20 → vp_in (nI (20 * to + k)) (z_ln S (z_rv S m 29)) := fun k hk' => by rw [hK.2.2.1]; exact vp_in_nI (by omega) (by decide)
  have in30 : ∀ k, k < 20 → vp_in (nI k) (z_ln S (z_rv S m 30)) := fun k hk' => by rw [hK.2.2.2.2.1]; exact vp_in_nI (by omega) (by decide)
  have i29 : z_isI (z_kd S (z_rv S m 29)) = true := by rw [hK.2.1]; rfl
  have i30 : z_isI (z_kd S (z_rv S m 30)) = true := by rw [hK.2.2.2.1]; rfl
  refine w_X12_laysFar (b_X12_laysFar_0 ?_)
  suffices H : ∀ k, k ≤ 20 → ∀ I x4 v5 v6 v7, MF S I0 I m (20 * to) → (∀ x, x < k → I (z_rv S m 29) (20 * to + x) = -1) → x4 = nI k → Go d i_X12_laysFar 3 [.ref m, .int (nI s), .int (nI a), .int (nI to), .int x4, v5, v6, v7] [] S I J (lfQ S I0 J m (20 * to) n (arc n t a) 0) from H 0 (by omega) I0 _ _ _ _ MF.refl (fun x hx => by omega) rfl
  refine z_up_to 20 ?_ ?_
  · rintro I x4 v5 v6 v7 hF h1 rfl
    refine b_X12_laysFar_3 (fun _ => ?_) (fun c => absurd (nI_le (Nat.le_refl 20) (by decide)) c)
    refine b_X12_laysFar_29 hk ⟨hK.2.1, by rw [e20']; exact in29 0 (by decide)⟩ hk ⟨hK.2.2.2.1, in30 0 (by decide)⟩ rfl ?_
    rw [e20', nI_clamp (by omega), show Int32.toNatClampNeg 0 = 0 from rfl]
    -- the queue
    suffices H2 : ∀ c, ∀ I N q F i, n - i < c → MF S I0 I m (20 * to) → BQ n (arc n t a) 0 N q F i → BI S I m (20 * to) n N q F → ∀ x4 x5 v6 v7, x4 = nI N → x5 = nI i → Go d i_X12_laysFar 52 [.ref m, .int (nI s), .int (nI a), .int (nI to), .int x4, .int x5, v6, v7] [] S I J (lfQ S I0 J m (20 * to) n (arc n t a) 0) by
      refine H2 (n + 1) _ 1 (fun _ => 0) (fun _ => 0) 0 (by omega) ((hF.far (Nat.le_refl _) (by omega)).line hK) (BQ.start hn0 _ rfl) ⟨fun j hj => ?_, fun x hx ⟨j, hj, e⟩ => ?_, fun x hx hq => ?_⟩ _ _ _ _ rfl rfl
      · rw [show j = 0 by omega, z_u2_same]; rfl
      · rw [← e, z_u2_row hne, Nat.add_zero, z_u2_same]; rfl
      · have hx0 : x ≠ 0 := fun e => hq ⟨0, by decide, e.symm⟩
        rw [z_u2_row hne, z_u2_nk (by omega)]; exact h1 x (by omega)
    intro c
    induction c with
    | zero => intro I N q F i hc; omega
    | succ c ih =>
      rintro I N q F i hc hF hB hI x4 x5 v6 v7 rfl rfl
      have hN := hB.len
      have hiN := hB.1.2.2.2.1
      refine b_X12_laysFar_52 (fun c1 => ?_) (fun c1 => b_X12_laysFar_59 ?_)
      · rw [nI_leI (by omega) (by omega)] at c1
        have e : i = N := by omega
        rw [e] at hB
        exact b_X12_laysFar_171 ⟨rfl, rfl, rfl, hF, fun x hx => hI.fr hB hx⟩
      · rw [nI_leI (by omega) (by omega)] at c1
        have hi : i < N := by omega
        have hqi := hB.2.1 i hi
        suffices H3 : ∀ l, l ≤ n → 1 ≤ l → ∀ I N q F, i < N → q i < n → MF S I0 I m (20 * to) → BQ n (arc n t a) 0 N q F i → BI S I m (20 * to) n N q F → (∀ s', s' < l → s' ≠ 0 → a.testBit s' = true → inq N q (t (q i) s')) → ∀ x6 v7, x6 = nI l → Go d i_X12_laysFar 62 [.ref m, .int (nI s), .int (nI a), .int (nI to), .int (nI N), .int (nI i), .int x6, v7] [] S I J (lfQ S I0 J m (20 * to) n (arc n t a) 0) from H3 1 hn0 (Nat.le_refl _) I N q F hi hqi hF hB hI (fun s' h1 h2 => by omega) _ _ rfl
        refine z_up_to n ?_ ?_
        · rintro _ I N q F hi hqi hF hB hI hall x6 v7 rfl
          have hN := hB.len
          refine b_X12_laysFar_62 hk ⟨_, _, _, _, m_many (by omega) (hF.ms hK hM), ?_⟩
          refine b_X12_laysFar_69 (fun _ => b_X12_laysFar_165 (ih I N q F (i + 1) (by omega) hF (hB.next hi ?_) hI _ _ _ _ rfl (nI_1 i))) (fun c => absurd (nI_le (Nat.le_refl _) (by omega)) c)
          rintro z hz ⟨s', g1, g2, g3, rfl⟩
          exact hall s' g1 g2 g3
        · rintro l hl ih3 hl1 I N q F hi hqi hF hB hI hall x6 v7 rfl
          have hN := hB.len
          have hM' := hF.ms hK hM
          refine b_X12_laysFar_62 hk ⟨_, _, _, _, m_many (by omega) hM', ?_⟩
          refine b_X12_laysFar_69 (fun c => absurd c (nI_ge hl (by omega))) (fun _ => ?_)
          have hz := hg.lt hqi hl
          refine b_X12_laysFar_72 hk ⟨i30, in30 i (by omega)⟩ hk ⟨_, _, _, _, by rw [nI_clamp (by omega), hI.1 i hi]; exact m_times (by omega) hM' hqi hl, ?_⟩
          refine b_X12_laysFar_86 ⟨_, _, _, _, m_has (by omega) ha31 (by omega), ?_⟩
          refine b_X12_laysFar_94 (fun c2 => b_X12_laysFar_159 (ih3 (by omega) I N q F hi hqi hF hB hI (fun s' h1 h2 h3 => ?_) _ _ (nI_1 l))) (fun c2 => ?_)
          · rw [z_tn0] at c2
            by_cases e : s' = l
            · rw [e, c2] at h3; cases h3
            · exact hall s' (by omega) h2 h3
          · rw [z_tn1] at c2
            refine b_X12_laysFar_97 hk ⟨i29, by rw [e20]; exact in29 _ (by omega)⟩ (fun c3 => ?_) (fun c3 => b_X12_laysFar_113 (ih3 (by omega) I N q F hi hqi hF hB hI (fun s' h1 h2 h3 => ?_) _ _ (nI_1 l)))
            · rw [e20, nI_clamp (by omega)] at c3
              have hnq : ¬ inq N q (t (q i) l) := fun e => by
                obtain ⟨j, g1, g2⟩ := e
                have hb : F (t (q i) l) < 2 ^ 31 := by
                  have := hB.1.2.2.2.2 j g1
                  rw [← g2]
                  omega
                rw [hI.2.1 _ hz ⟨j, g1, g2⟩] at c3
                exact nI_nm1 hb c3
              have hN' := (hB.add hi hz ⟨l, hl, by omega, c2, rfl⟩ hnq).len
              have hv : I (z_rv S m 29) (Int32.toNatClampNeg (20 * nI to + I (z_rv S m 30) (nI i).toNatClampNeg)) = nI (F (q i)) := by
                rw [nI_clamp (by omega), hI.1 i hi, e20, nI_clamp (by omega)]; exact hI.2.1 _ hqi ⟨i, hi, rfl⟩
              refine b_X12_laysFar_116 hk hk hk ⟨i30, in30 i (by omega)⟩ ⟨i29, by rw [nI_clamp (by omega), hI.1 i hi, e20]; exact in29 _ (by omega)⟩ ⟨hK.2.1, by rw [e20]; exact in29 _ (by omega)⟩ rfl hk ⟨hK.2.2.2.1, in30 N (by omega)⟩ ?_
              rw [hv, e20, nI_clamp (by omega), nI_clamp (by omega), nI_1, nI_1, nI_1]
              have hp : zput q N (t (q i) l) i = q i := zput_n (by omega)
              refine ih3 (by omega) _ (N + 1) (zput q N (t (q i) l)) (zput F (t (q i) l) (F (q i) + 1)) (by omega) (by rw [hp]; exact hqi) ((hF.far (by omega) (by omega)).line hK) (hB.add hi hz ⟨l, hl, by omega, c2, rfl⟩ hnq) (hI.add (i := i) hK hz hnq) (fun s' h1 h2 h3 => ?_) _ _ rfl
              rw [hp, inq_put]
              by_cases e : s' = l
              · rw [e]; exact Or.inr rfl
              · exact Or.inl (hall s' (by omega) h2 h3)
            · rw [e20, nI_clamp (by omega)] at c3
              by_cases e : s' = l
              · rw [e]
                rcases Classical.em (inq N q (t (q i) l)) with w | w
                · exact w
                · exact absurd (hI.2.2 _ hz w) c3
              · exact hall s' (by omega) h2 h3
  · rintro k hk' ih I x4 v5 v6 v7 hF h1 rfl
    refine b_X12_laysFar_3 (fun c => absurd c (nI_ge hk' (by decide))) (fun _ => ?_)
    refine b_X12_laysFar_10 hk ⟨hK.2.1, by rw [e20]; exact in29 k hk'⟩ (ih _ _ _ _ _ (hF.far ?_ ?_) (fun x hx => ?_) (nI_1 k))
    · rw [e20, nI_clamp (by omega)]; omega
    · rw [e20, nI_clamp (by omega)]; omega
    · rw [e20, nI_clamp (by omega)]
      by_cases e : x = k
      · rw [e, z_u2_same]
      · rw [z_u2_nk (by omega)]; exact h1 x (by omega)
end M6

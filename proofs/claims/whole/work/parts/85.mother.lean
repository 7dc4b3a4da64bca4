/-! THE MODEL: alike, other -/
theorem i32_pp (x y : Int32) : (x - y) + ((1 : Int32) - 1) = (x + 1) - (y + 1) := by
  apply z_inj
  simp only [Int32.toBitVec_add, Int32.toBitVec_sub, show Int32.toBitVec 1 = 1#32 from rfl, show Int32.toBitVec 0 = 0#32 from rfl]
  bv_omega
theorem i32_pz (x y : Int32) : (x - y) + ((1 : Int32) - 0) = (x + 1) - y := by
  apply z_inj
  simp only [Int32.toBitVec_add, Int32.toBitVec_sub, show Int32.toBitVec 1 = 1#32 from rfl, show Int32.toBitVec 0 = 0#32 from rfl]
  bv_omega
theorem i32_zp (x y : Int32) : (x - y) + ((0 : Int32) - 1) = x - (y + 1) := by
  apply z_inj
  simp only [Int32.toBitVec_add, Int32.toBitVec_sub, show Int32.toBitVec 1 = 1#32 from rfl, show Int32.toBitVec 0 = 0#32 from rfl]
  bv_omega
theorem i32_zz (x y : Int32) : (x - y) + ((0 : Int32) - 0) = x - y := by
  apply z_inj
  simp only [Int32.toBitVec_add, Int32.toBitVec_sub, show Int32.toBitVec 1 = 1#32 from rfl, show Int32.toBitVec 0 = 0#32 from rfl]
  bv_omega
theorem i32_s0 {x y : Int32} : x - y = 0 ↔ x = y := by
  rw [← Int32.toBitVec_inj, ← Int32.toBitVec_inj, Int32.toBitVec_sub, show Int32.toBitVec 0 = 0#32 from rfl]
  constructor
  · intro h
    bv_omega
  · intro h
    bv_omega
theorem z_k21 : ∀ j, j < 21 → ¬ (20 : Int32) ≤ nI j - 1 := by decide +kernel
theorem z_k21s : ∀ j, j < 21 → nI j - 1 + 1 = nI (j + 1) - 1 := by decide +kernel
section M18
variable {d m : Nat} {N : Nat → Nat} {T : Nat → Nat → Nat → Nat} {V : Nat → Nat → Nat} {P : Nat → Nat} {S : zS} {I I0 : zI} {J : zJ}
/-- the first network's distances are laid -/
def FH (S : zS) (I : zI) (m : Nat) (N : Nat → Nat) (T : Nat → Nat → Nat → Nat) (V : Nat → Nat → Nat) (P : Nat → Nat) : Prop := (∀ x y, x < N 0 → y < N 0 → I (z_rv S m 32) (20 * x + y) = gF N T V P 0 x y) ∧ ∀ x, x < N 0 → I (z_rv S m 29) x = gF N T V P 0 0 x
theorem zc_fd {n : Nat} {t : Nat → Nat → Nat} {iv : Nat → Nat} {st : Nat} (hg : Grp n t iv) (h0 : st.testBit 0 = false) : zc n st = zcn (fun x => fd n t iv st 0 x = 1) n := by
  rw [zc_zcn]
  refine zcn_congr (fun i hi => ?_)
  rw [fd_arc hg hg.pos hi]
  constructor
  · intro h
    exact ⟨i, hi, fun e => (by rw [e, h0] at h; cases h), h, hg.l0 hi⟩
  · rintro ⟨s, h1, _, h2, h3⟩
    rw [hg.l0 h1] at h3
    rw [← h3]; exact h2
theorem m_layFirst (hd : 3 < d) (h : MSS S I m N T P) (hG : GS N T V P) : ∃ I', z_ev d i_X12_laysFars [.ref m, .int 0, .int (nI (P 0)), .int 0] S I J none S I' J ∧ MQy I I' m ∧ FH S I' m N T V P := by
  obtain ⟨I1, a1, a2, a3, a4⟩ := m_laysFars (d := d) (J := J) (s := 0) (a := P 0) (b := 0) hd h.1 (h.2 0 (by decide)).1 (hG 0 (by decide)).1 (hG 0 (by decide)).2.1 (by decide)
  refine ⟨I1, a1, a2.mq h.1, fun x y hx hy => ?_, fun x hx => ?_⟩
  · have := a4 x y hx hy
    rw [Nat.mul_zero, Nat.zero_add] at this
    exact this
  · have := a3 x hx
    rw [Nat.mul_zero, Nat.zero_add] at this
    rw [this]
    exact (fd_0 (hG 0 (by decide)).1 hx).symm
def ldQ (S : zS) (I0 : zI) (J : zJ) (m : Nat) (N : Nat → Nat) (T : Nat → Nat → Nat → Nat) (V : Nat → Nat → Nat) (P : Nat → Nat) (a : Nat) : zQ := fun v S' I' J' => ∃ r : Bool, v = some (.int (nI r.toNat)) ∧ S' = S ∧ J' = J ∧ MQy I0 I' m ∧ FH S I' m N T V P ∧ (r = true → N 0 = N 1 ∧ ∃ φ, LexMin (N 0) (I01 N T V P a) φ ∧ ∀ g, g < N 0 → I' (z_rv S m 31) g = nI (φ g)) ∧ (r = false → N 0 = N 1 → ∀ φ, ¬ I01 N T V P a φ)
theorem m_leads {a : Nat} (hd : 25 < d) (h : MSS S I m N T P) (hG : GS N T V P) (hH : FH S I m N T V P) (ha : a < 2 ^ N 1) (ha0 : a.testBit 0 = false) : z_wp d i_X12_leads [.ref m, .int (nI a)] S I J (ldQ S I J m N T V P a) := by
  obtain ⟨d, rfl⟩ := z_dep (d := d) (by omega)
  have hL := h.1
  have hk := hL.k
  have hg0 := (hG 0 (by decide)).1
  have hg1 := (hG 1 (by decide)).1
  have hn0 := hg0.le
  have hn1 := hg1.le
  have z2 := zc_le (N 1) a
  have z1 := zc_le (N 0) (P 0)
  refine w_X12_leads (b_X12_leads_0 hk ⟨_, _, _, _, m_many (s := 0) (by omega) (h.2 0 (by decide)).1, ?_⟩)
  refine b_X12_leads_5 hk ⟨_, _, _, _, m_many (s := 1) (by omega) (h.2 1 (by decide)).1, ?_⟩
  refine b_X12_leads_10 (fun c => b_X12_leads_28 z_fit0 ⟨false, rfl, rfl, rfl, MQy.refl, hH, fun q => (by cases q), fun _ q => ?_⟩) (fun c => ?_)
  · exact absurd (congrArg nI q) c
  rw [nI_eq (by omega) (by omega)] at c
  refine b_X12_leads_13 hk ⟨_, _, _, _, m_steps (s := 0) (by omega) hL.ma (by omega), ?_⟩
  rw [show I (z_rv S m 0) (665 * 0 + 1) = nI (P 0) from (h.2 0 (by decide)).2]
  refine b_X12_leads_18 ⟨_, _, _, _, m_bits (by omega) hn0 (hG 0 (by decide)).2.1, ?_⟩
  refine b_X12_leads_21 ⟨_, _, _, _, m_bits (by omega) hn1 ha, ?_⟩
  have hg1' : Grp (N 0) (T 1) (V 1) := by rw [c]; exact hg1
  obtain ⟨n, hn⟩ : ∃ n, n = N 0 := ⟨_, rfl⟩
  obtain ⟨F, hF⟩ : ∃ F, F = gF N T V P 0 := ⟨_, rfl⟩
  obtain ⟨F', hF'⟩ : ∃ F', F' = fd (N 0) (T 1) (V 1) a := ⟨_, rfl⟩
  have eI : ∀ φ, I01 N T V P a φ ↔ (IS n F F' φ ∧ φ 0 = 0) := fun φ => by rw [hn, hF, hF']; exact Iff.rfl
  have iso : ∀ (k : Int32) φ, I01 N T V P a φ → zcn (fun x => F' 0 x = k) n = zcn (fun x => F 0 x = k) n := fun k φ hφ => by
    rw [eI] at hφ
    refine zcn_bij (f := φ) hφ.1.2.1 hφ.1.2.2.1 (fun i hi => ?_)
    rw [hφ.1.2.2.2 0 i (by rw [hn]; exact hg0.pos) hi, hφ.2]
  refine b_X12_leads_25 (fun c2 => ?_) (fun c2 => b_X12_leads_28 z_fit0 ⟨false, rfl, rfl, rfl, MQy.refl, hH, fun q => (by cases q), fun _ _ φ hφ => c2 ?_⟩)
  · obtain ⟨I1, a1, a2, a3, a4⟩ := m_laysFars (d := d) (J := J) (s := 1) (a := a) (b := 1) (by omega) hL (h.2 1 (by decide)).1 hg1 ha (by decide)
    have hq1 := a2.mq hL
    have hH1 : FH S I1 m N T V P := ⟨fun x y hx hy => by rw [a2.2.2 _ (by omega)]; exact hH.1 x y hx hy, fun x hx => by rw [a2.2.1 x (by omega)]; exact hH.2 x hx⟩
    have f1 : ∀ x, x < n → I1 (z_rv S m 29) x = F 0 x := fun x hx => by rw [hF]; exact hH1.2 x (by rw [← hn]; exact hx)
    have f2 : ∀ x, x < n → I1 (z_rv S m 29) (20 + x) = F' 0 x := fun x hx => by
      have := a3 x (by rw [← c, ← hn]; exact hx)
      rw [Nat.mul_one] at this
      rw [this, hF', ← c]
      exact (fd_0 hg1' (by rw [← hn]; exact hx)).symm
    have hA : FA S I1 m n F F' := fun x y hx hy => by
      rw [hn] at hx hy
      refine ⟨by rw [hF]; exact hH1.1 x y hx hy, ?_⟩
      have := a4 x y (by rw [← c]; exact hx) (by rw [← c]; exact hy)
      rw [Nat.mul_one, ← c] at this
      rw [hF']; exact this
    refine b_X12_leads_30 hk ⟨_, _, _, _, a1, b_X12_leads_37 ?_⟩
    have hms0 : MS S I1 m 0 n (T 0) := by rw [hn]; exact ((h.fr hq1).2 0 (by decide)).1
    have hn20 : n ≤ 20 := by omega
    suffices H : ∀ j, j ≤ 21 → ∀ x2 v3 v4, x2 = nI j - 1 → Go d i_X12_leads 39 [.ref m, .int (nI a), .int x2, v3, v4] [] S I1 J (ldQ S I J m N T V P a) from H 0 (by omega) _ _ _ rfl
    refine z_up_to 21 ?_ ?_
    · rintro x2 v3 v4 rfl
      refine b_X12_leads_39 (fun _ => ?_) (fun q => absurd (by decide) q)
      have h31ne : m ≠ z_rv S m 31 := by rw [hL.a31.1]; omega
      obtain ⟨I2, hI2⟩ : ∃ I2, I2 = z_u2 (z_u2 I1 (z_rv S m 31) 0 0) m 33 1 := ⟨_, rfl⟩
      have hF2 : LF S I1 I2 m := by rw [hI2]; exact (LF.refl.w hL).f
      refine b_X12_leads_117 hk (hL.a31.wr (i := 0) (by decide) (by decide)) hk hk ?_
      rw [show Int32.toNatClampNeg 0 = 0 from rfl, ← hI2]
      have hms2 : MS S I2 m 0 n (T 0) := hms0.fr (hF2.1 _ (by rw [hL.a0.1]; omega) (by rw [hL.a0.1, hL.a31.1]; omega))
      refine ⟨_, _, _, _, m_many (s := 0) (by omega) hms2, ?_⟩
      have hpos : 0 < n := by rw [hn]; exact hg0.pos
      have himg0 : img n (fun _ => 0) 1 = 1 := (zset_eq (z_pw hpos) (fun i hi => by
        rw [b_pow]
        exact ⟨fun e => ⟨0, by decide, e.symm⟩, fun ⟨_, _, e⟩ => e.symm⟩)).symm
      have hdg : ∀ x y, x < n → y < n → F x x = F' y y := fun x y hx hy => by
        rw [hn] at hx hy
        rw [hF, hF']
        unfold gF
        rw [fd_self hg0 hx, fd_self hg1' hy]
      have hrec := m_goesOn (S := S) (J := J) (F := F) (F' := F') hL hn20 hdg n d 1 (fun _ => 0) I2 (by omega) (by omega) hpos (hF2.fa hL hA) (fun g hg => by
        rw [hI2, z_u2_row (fun e => h31ne e.symm), show g = 0 by omega, z_u2_same]; rfl) ⟨fun g _ => hpos, fun g h _ _ _ => by omega, fun g h _ _ => by rw [show g = 0 by omega, show h = 0 by omega]; exact hdg 0 0 hpos hpos⟩ (by rw [hI2, z_u2_same, himg0]; rfl)
      refine b_X12_leads_136 hk (hrec.mono ?_)
      rintro v S1 I3 J1 ⟨r, rfl, rfl, rfl, u1, u2, u3, u4⟩
      have hq3 := (hq1.trans (hF2.mq hL)).trans (u1.mq hL)
      have row : ∀ h, h ≠ m → h ≠ z_rv S1 m 31 → I3 h = I1 h := fun h g1 g2 => by rw [u1.1 h g1 g2]; exact hF2.1 h g1 g2
      have hH3 : FH S1 I3 m N T V P := ⟨fun x y hx hy => by rw [row _ (by rw [hL.a32.1]; omega) (by rw [hL.a32.1, hL.a31.1]; omega)]; exact hH1.1 x y hx hy, fun x hx => by rw [row _ (by rw [hL.a29.1]; omega) (by rw [hL.a29.1, hL.a31.1]; omega)]; exact hH1.2 x hx⟩
      have e1 : ∀ φ, (IS n F F' φ ∧ Ext1 1 (fun _ => 0) φ) ↔ I01 N T V P a φ := fun φ => by
        rw [eI]
        exact ⟨fun q => ⟨q.1, (q.2 0 (by decide)).symm⟩, fun q => ⟨q.1, fun g hg => by rw [show g = 0 by omega, q.2]⟩⟩
      refine b_X12_leads_139 (z_fitb r) ⟨r, rfl, rfl, rfl, hq3, hH3, fun q => ⟨c, ?_⟩, fun q _ φ hφ => ?_⟩
      · obtain ⟨φ, w1, w2⟩ := u3 q
        rw [← hn]
        exact ⟨φ, w1.cg e1, w2⟩
      · have := (e1 φ).mpr hφ
        exact (u4 q).1 φ this.1 this.2
    · rintro j hj ih x2 v3 v4 rfl
      refine b_X12_leads_39 (fun q => absurd q (z_k21 j hj)) (fun _ => b_X12_leads_45 ?_)
      obtain ⟨k, hk'⟩ : ∃ k : Int32, k = nI j - 1 := ⟨_, rfl⟩
      rw [← hk']
      suffices H2 : ∀ y, y ≤ n → ∀ x3 x4, x3 = nI (zcn (fun x => F 0 x = k) y) - nI (zcn (fun x => F' 0 x = k) y) → x4 = nI y → Go d i_X12_leads 50 [.ref m, .int (nI a), .int k, .int x3, .int x4] [] S I1 J (ldQ S I J m N T V P a) from H2 0 (by omega) _ _ (by show (0 : Int32) = nI 0 - nI 0; decide) rfl
      refine z_up_to n ?_ ?_
      · rintro x3 x4 rfl rfl
        refine b_X12_leads_50 hk ⟨_, _, _, _, m_many (s := 0) (by omega) hms0, ?_⟩
        refine b_X12_leads_57 (fun _ => ?_) (fun q => absurd (nI_le (Nat.le_refl _) (by omega)) q)
        refine b_X12_leads_105 (fun q => b_X12_leads_111 (ih _ _ _ (by rw [hk']; exact z_k21s j hj))) (fun q => b_X12_leads_109 z_fit0 ⟨false, rfl, rfl, rfl, hq1, hH1, fun q => (by cases q), fun _ _ φ hφ => q ?_⟩)
        rw [i32_s0, iso k φ hφ]
      · rintro y hy ih2 x3 x4 rfl rfl
        refine b_X12_leads_50 hk ⟨_, _, _, _, m_many (s := 0) (by omega) hms0, ?_⟩
        refine b_X12_leads_57 (fun q => absurd q (nI_ge hy (by omega))) (fun _ => ?_)
        have r1 := hL.a29.rd (i := y) (by omega) (by decide)
        have r2 : z_isI (z_kd S (z_rv S m 29)) = true ∧ vp_in (20 + nI y) (z_ln S (z_rv S m 29)) := by
          rw [show (20 : Int32) + nI y = nI (20 + y) from nI_add 20 y]; exact hL.a29.rd (by omega) (by decide)
        have v1 : I1 (z_rv S m 29) (nI y).toNatClampNeg = F 0 y := by rw [nI_clamp (by omega)]; exact f1 y hy
        have v2 : I1 (z_rv S m 29) (Int32.toNatClampNeg (20 + nI y)) = F' 0 y := by
          rw [show (20 : Int32) + nI y = nI (20 + y) from nI_add 20 y, nI_clamp (by omega)]; exact f2 y hy
        refine b_X12_leads_60 hk r1 (fun q1 => b_X12_leads_76 hk r2 (fun q2 => b_X12_leads_95 (ih2 _ _ ?_ (nI_1 y))) (fun q2 => b_X12_leads_91 (ih2 _ _ ?_ (nI_1 y)))) (fun q1 => b_X12_leads_72 hk r2 (fun q2 => b_X12_leads_95 (ih2 _ _ ?_ (nI_1 y))) (fun q2 => b_X12_leads_91 (ih2 _ _ ?_ (nI_1 y))))
        · rw [v1] at q1; rw [v2] at q2
          rw [zcn_f (p := fun x => F 0 x = k) q1, zcn_f (p := fun x => F' 0 x = k) q2]; exact i32_zz _ _
        · rw [v1] at q1; rw [v2] at q2
          rw [zcn_f (p := fun x => F 0 x = k) q1, zcn_t (p := fun x => F' 0 x = k) q2, ← nI_1]; exact i32_zp _ _
        · rw [v1] at q1; rw [v2] at q2
          rw [zcn_t (p := fun x => F 0 x = k) q1, zcn_f (p := fun x => F' 0 x = k) q2, ← nI_1]; exact i32_pz _ _
        · rw [v1] at q1; rw [v2] at q2
          rw [zcn_t (p := fun x => F 0 x = k) q1, zcn_t (p := fun x => F' 0 x = k) q2, ← nI_1, ← nI_1]; exact i32_pp _ _
  · have e1 : zc (N 0) (P 0) = zcn (fun x => F 0 x = 1) n := by rw [hn, hF]; exact zc_fd hg0 (hG 0 (by decide)).2.2
    have e2 : zc (N 1) a = zcn (fun x => F' 0 x = 1) n := by rw [hn, hF', ← c]; exact zc_fd hg1' ha0
    rw [e1, e2, iso 1 φ hφ]
theorem m_alike (x1 : Int32) (hd : 26 < d) (h : MSS S I m N T P) (hG : GS N T V P) : ∃ I', z_ev d i_X12_alike [.ref m, .int x1] S I J (some (.int (aAlike N T V P x1))) S I' J ∧ MQy I I' m := by
  obtain ⟨d, rfl⟩ := z_dep (d := d) (by omega)
  have hL := h.1
  refine aQ.ex (w_X12_alike (b_X12_alike_0 h.1.k h.1.k ⟨_, _, _, _, m_isEl 0 x1 (by omega) h.th hG, ?_⟩))
  have e0 : (El 2 0 ∧ El (N (ix 0)) x1) ↔ El (N 0) x1 := ⟨fun q => q.2, fun q => ⟨⟨0, by decide, rfl⟩, q⟩⟩
  rw [zb_congr e0]
  refine b_X12_alike_11 (fun c => ?_) (fun c => b_X12_alike_14 ⟨z_someI ?_, rfl, rfl, mq_th⟩)
  · rw [zb_1] at c
    have e : aAlike N T V P x1 = _ := zq_t c
    rw [e]
    obtain ⟨x, hx, rfl⟩ := c
    have hn := (hG 0 (by decide)).1.le
    rw [ix_nI (by omega)]
    obtain ⟨I1, a1, a2, a3⟩ := m_layFirst (d := d) (J := J) (by omega) h.th hG
    have h1 := h.th.fr a2
    refine b_X12_alike_17 hL.k ⟨_, _, _, _, m_steps (s := 0) (by omega) hL.ma (by omega), ?_⟩
    rw [show z_u2 I m 1 0 (z_rv S m 0) (665 * 0 + 1) = nI (P 0) from (h.th.2 0 (by decide)).2]
    refine b_X12_alike_24 hL.k ⟨_, _, _, _, a1, ?_⟩
    refine b_X12_alike_28 hL.k ⟨_, _, _, _, m_steps (s := 1) (by omega) hL.ma (by omega), ?_⟩
    rw [show I1 (z_rv S m 0) (665 * 1 + 1) = nI (P 1) from (h1.2 1 (by decide)).2]
    refine b_X12_alike_34 hL.k ((m_leads (by omega) h1 hG a3 (hG 1 (by decide)).2.1 (hG 1 (by decide)).2.2).mono ?_)
    rintro v S1 I3 J1 ⟨r, rfl, rfl, rfl, u1, u2, u3, u4⟩
    cases r with
    | false =>
      refine b_X12_alike_37 (fun _ => b_X12_alike_49 ⟨z_someI ?_, rfl, rfl, (mq_th.trans a2).trans u1⟩) (fun c => absurd rfl c)
      by_cases hN : N 0 = N 1
      · rw [zq_t hN, lxa_f (u4 rfl hN)]
      · rw [zq_f hN]
    | true =>
      obtain ⟨hN, φ, w1, w2⟩ := u3 rfl
      refine b_X12_alike_37 (fun c => absurd c (by decide)) (fun _ => b_X12_alike_40 hL.k (hL.a31.rd (by omega) (by decide)) ⟨z_someI ?_, rfl, rfl, (mq_th.trans a2).trans u1⟩)
      rw [zq_t hN, nI_clamp (by omega), w2 x hx, lxa_t w1 hx]
  · rw [zb_0] at c
    exact (zq_f c).symm
theorem m_other (hd : 26 < d) (h : MSS S I m N T P) (hG : GS N T V P) : ∃ I', z_ev d i_X12_other [.ref m] S I J (some (.int (aOther N T V P))) S I' J ∧ MQy I I' m := by
  obtain ⟨d, rfl⟩ := z_dep (d := d) (by omega)
  have hL := h.1
  have hg0 := (hG 0 (by decide)).1
  have hg1 := (hG 1 (by decide)).1
  have hn0 := hg0.le
  have hn1 := hg1.le
  refine aQ.ex (w_X12_other (b_X12_other_0 hL.k hL.k ⟨_, _, _, _, m_many (s := 0) (by omega) (h.th.2 0 (by decide)).1, ?_⟩))
  refine b_X12_other_10 hL.k ⟨_, _, _, _, m_many (s := 1) (by omega) (h.th.2 1 (by decide)).1, ?_⟩
  refine b_X12_other_15 (fun c => ?_) (fun c => b_X12_other_18 ⟨z_someI (zq_f (fun q => c (congrArg nI q))).symm, rfl, rfl, mq_th⟩)
  rw [nI_eq (by omega) (by omega)] at c
  rw [show aOther N T V P = _ from zq_t c]
  refine b_X12_other_21 hL.k ⟨_, _, _, _, m_steps (s := 0) (by omega) hL.ma (by omega), ?_⟩
  rw [show z_u2 I m 1 0 (z_rv S m 0) (665 * 0 + 1) = nI (P 0) from (h.th.2 0 (by decide)).2]
  have hz := zc_le (N 0) (P 0)
  refine b_X12_other_26 ⟨_, _, _, _, m_bits (by omega) hn0 (hG 0 (by decide)).2.1, ?_⟩
  refine b_X12_other_29 (fun c2 => ?_) (fun c2 => b_X12_other_33 ⟨z_someI ?_, rfl, rfl, mq_th⟩)
  · rw [z_lit 4, nI_leI (by omega) (by decide)] at c2
    rw [zq_t c2]
    obtain ⟨I1, a1, a2, a3⟩ := m_layFirst (d := d) (J := J) (by omega) h.th hG
    refine b_X12_other_36 hL.k ⟨_, _, _, _, m_steps (s := 0) (by omega) hL.ma (by omega), ?_⟩
    rw [show z_u2 I m 1 0 (z_rv S m 0) (665 * 0 + 1) = nI (P 0) from (h.th.2 0 (by decide)).2]
    refine b_X12_other_43 hL.k ⟨_, _, _, _, a1, b_X12_other_47 ?_⟩
    have hp1 : 1 ≤ N 1 := hg1.pos
    obtain ⟨M, hM⟩ : ∃ M, M = 2 ^ (N 1 - 1) := ⟨_, rfl⟩
    have hM2 : 2 ^ N 1 = 2 * M := by
      rw [hM, ← Nat.pow_succ']
      congr 1
      omega
    have hMl : 2 * M < 2 ^ 31 := by rw [← hM2]; exact Nat.pow_lt_pow_right (by decide) (by omega)
    suffices H : ∀ k, k ≤ M → ∀ I' x1, MQy I I' m → FH S I' m N T V P → (∀ b, b < 2 * k → ¬ OkS N T V P b) → x1 = nI (2 * k) → Go d i_X12_other 49 [.ref m, .int x1] [] S I' J (aQ S J (zq (∃ a, OkS N T V P a) (nI (zleast (OkS N T V P))) (-1)) (fun I' => MQy I I' m)) from H 0 (by omega) I1 _ (mq_th.trans a2) a3 (fun b hb => by omega) rfl
    refine z_up_to M ?_ ?_
    · rintro I' x1 hq hH hno rfl
      refine b_X12_other_49 hL.k ⟨_, _, _, _, m_many (s := 1) (by omega) ((h.fr hq).2 1 (by decide)).1, ?_⟩
      have none_ : ¬ ∃ a, OkS N T V P a := by
        rintro ⟨b, q⟩
        have q1 := q.1
        rw [c, hM2] at q1
        exact hno b q1 q
      refine b_X12_other_56 (fun _ => b_X12_other_91 ⟨z_someI (zq_f none_).symm, rfl, rfl, hq⟩) (fun q => absurd ?_ q)
      rw [z_shl1 (by omega), hM2]
      exact nI_le (Nat.le_refl _) hMl
    · rintro k hk ih I' x1 hq hH hno rfl
      have h1 := h.fr hq
      refine b_X12_other_49 hL.k ⟨_, _, _, _, m_many (s := 1) (by omega) (h1.2 1 (by decide)).1, ?_⟩
      refine b_X12_other_56 (fun q => ?_) (fun _ => ?_)
      · rw [z_shl1 (by omega), hM2, nI_leI hMl (by omega)] at q
        omega
      have hkl : 2 * k < 2 ^ N 1 := by omega
      have hkl0 : 2 * k < 2 ^ N 0 := by rw [c]; exact hkl
      have hb0 : (2 * k).testBit 0 = false := by
        rw [Nat.testBit_zero]
        have : 2 * k % 2 = 0 := by omega
        rw [this]; rfl
      refine b_X12_other_60 ⟨_, _, _, _, m_bits (by omega) hn0 hkl0, ?_⟩
      refine b_X12_other_64 hL.k ⟨_, _, _, _, m_steps (s := 0) (by omega) hL.ma (by omega), ?_⟩
      rw [show I' (z_rv S m 0) (665 * 0 + 1) = nI (P 0) from (h1.2 0 (by decide)).2]
      refine b_X12_other_69 ⟨_, _, _, _, m_bits (by omega) hn0 (hG 0 (by decide)).2.1, ?_⟩
      have hzk := zc_le (N 0) (2 * k)
      have e2 : nI (2 * k) + 2 = nI (2 * (k + 1)) := nI_add (2 * k) 2
      have next : ∀ I2, MQy I I2 m → FH S I2 m N T V P → ¬ OkS N T V P (2 * k) → Go d i_X12_other 85 [.ref m, .int (nI (2 * k))] [] S I2 J (aQ S J (zq (∃ a, OkS N T V P a) (nI (zleast (OkS N T V P))) (-1)) (fun I' => MQy I I' m)) := fun I2 g1 g2 g3 => b_X12_other_85 (ih I2 _ g1 g2 (fun b hb q => by
        by_cases eb : b = 2 * k
        · rw [eb] at q; exact g3 q
        · by_cases eb2 : b = 2 * k + 1
          · have hb2 := q.2.1
            rw [eb2, Nat.testBit_zero] at hb2
            have : (2 * k + 1) % 2 = 1 := by omega
            rw [this] at hb2; cases hb2
          · exact hno b (by omega) q) e2)
      refine b_X12_other_72 (fun q => next I' hq hH (fun w => q (congrArg nI w.2.2.1))) (fun q => ?_)
      rw [nI_eq (by omega) (by omega)] at q
      refine b_X12_other_75 hL.k ((m_leads (by omega) h1 hG hH hkl hb0).mono ?_)
      rintro v S1 I3 J1 ⟨r, rfl, rfl, rfl, u1, u2, u3, u4⟩
      cases r with
      | false => exact b_X12_other_80 (fun _ => next I3 (hq.trans u1) u2 (fun w => by
          obtain ⟨φ, w2⟩ := w.2.2.2
          exact u4 rfl c φ w2)) (fun c => absurd rfl c)
      | true =>
        obtain ⟨_, φ, w1, _⟩ := u3 rfl
        have ok : OkS N T V P (2 * k) := ⟨hkl0, hb0, q, φ, w1.1⟩
        refine b_X12_other_80 (fun c => absurd c (by decide)) (fun _ => b_X12_other_83 ⟨z_someI ?_, rfl, rfl, hq.trans u1⟩)
        rw [zq_t ⟨2 * k, ok⟩, zleast_eq ok (fun j hj => hno j hj)]
  · rw [z_lit 4, nI_leI (by omega) (by decide)] at c2
    exact (zq_f c2).symm
end M18

/-! PURE: the answers on symmetries -/
noncomputable def lst (n st : Nat) : Nat := zleast (fun k => st.testBit k = true)
def AAl (n : Nat) (F : Nat → Nat → Int32) (st : Nat) : Prop := st ≠ 0 ∧ orbt n F (lst n st) = st
def FAl (n : Nat) (F : Nat → Nat → Int32) : Prop := ∀ x, x < n → ∀ y, y < n → F 0 x = F 0 y → (orbt n F x).testBit y = true
section A2
variable (N : Nat → Nat) (T : Nat → Nat → Nat → Nat) (V : Nat → Nat → Nat) (P : Nat → Nat)
noncomputable def gF (s : Nat) : Nat → Nat → Int32 := fd (N s) (T s) (V s) (P s)
noncomputable def stK (s : Nat) : Nat := crdn (S0 (N s) (gF N T V P s))
noncomputable def owK (s : Nat) : Nat := crdn (fun φ => GM (N s) (T s) (T s) φ ∧ Own (N s) (P s) (P s) φ)
noncomputable def aSym (x1 : Int32) : Int64 := zq (El 2 x1) (lN (stK N T V P (ix x1)) * lN (N (ix x1))) (-2)
noncomputable def aAlikeTo (x1 x2 : Int32) : Int32 := zq (El 2 x1 ∧ El (N (ix x1)) x2) (nI (orbt (N (ix x1)) (gF N T V P (ix x1)) (ix x2))) (-2)
noncomputable def rgv (s : Nat) (w : Int32) : Int32 := if w = 0 then nI (zb (AAl (N s) (gF N T V P s) (P s))) else if w = 1 then nI (zb (FAl (N s) (gF N T V P s))) else if w = 2 then nI (zb (lN (stK N T V P s) = (nI (owK N T P s)).toInt64)) else if w = 3 then nI (owK N T P s) else -2
noncomputable def aRegular (x1 x2 : Int32) : Int32 := zq (El 2 x1) (rgv N T V P (ix x1) x2) (-2)
/-- maps of the first network on the second group with some steps, 0 on 0 -/
def I01 (a : Nat) (φ : Nat → Nat) : Prop := IS (N 0) (gF N T V P 0) (fd (N 0) (T 1) (V 1) a) φ ∧ φ 0 = 0
noncomputable def aAlike (x1 : Int32) : Int32 := zq (El (N 0) x1) (zq (N 0 = N 1) (lxa (N 0) (I01 N T V P (P 1)) (ix x1)) (-1)) (-2)
def OkS (a : Nat) : Prop := a < 2 ^ N 0 ∧ a.testBit 0 = false ∧ zc (N 0) a = zc (N 0) (P 0) ∧ ∃ φ, I01 N T V P a φ
noncomputable def aOther : Int32 := zq (N 0 = N 1) (zq (zc (N 0) (P 0) ≤ 4) (zq (∃ a, OkS N T V P a) (nI (zleast (OkS N T V P))) (-1)) (-4)) (-5)
end A2
/-! THE MODEL: calls that ask for symmetries -/
section M17
variable {d m s : Nat} {N : Nat → Nat} {T : Nat → Nat → Nat → Nat} {V : Nat → Nat → Nat} {P : Nat → Nat} {S : zS} {I I0 : zI} {J : zJ}
theorem gF_dg (hG : GS N T V P) (hs : s < 2) : ∀ x y, x < N s → y < N s → gF N T V P s x x = gF N T V P s y y := fun x y hx hy => by
  unfold gF
  rw [fd_self (hG s hs).1 hx, fd_self (hG s hs).1 hy]
theorem m_laysSame (hd : 4 < d) (h : MSS S I m N T P) (hG : GS N T V P) (hs : s < 2) : ∃ I', z_ev d i_X12_laysSame [.ref m, .int (nI s)] S I J none S I' J ∧ MQy I I' m ∧ FA S I' m (N s) (gF N T V P s) (gF N T V P s) := by
  obtain ⟨d, rfl⟩ := z_dep (d := d) (by omega)
  have hL := h.1
  have hg := (hG s hs).1
  obtain ⟨I1, a1, a2, a3, a4⟩ := m_laysFars (d := d) (J := J) (a := P s) (b := 0) (by omega) hL (h.2 s hs).1 hg (hG s hs).2.1 (by decide)
  have h1 := h.fr (a2.mq hL)
  obtain ⟨I2, b1, b2, b3, b4⟩ := m_laysFars (d := d) (J := J) (a := P s) (b := 1) (by omega) hL (h1.2 s hs).1 hg (hG s hs).2.1 (by decide)
  refine ⟨I2, e_X12_laysSame (b_X12_laysSame_0 hL.k ⟨_, _, _, _, m_steps (by omega) hL.ma (by omega), ?_⟩), (a2.mq hL).trans (b2.mq hL), fun x y hx hy => ⟨?_, ?_⟩⟩
  · rw [(h.2 s hs).2]
    refine b_X12_laysSame_7 hL.k ⟨_, _, _, _, a1, ?_⟩
    refine b_X12_laysSame_11 hL.k ⟨_, _, _, _, m_steps (by omega) hL.ma (by omega), ?_⟩
    rw [(h1.2 s hs).2]
    exact b_X12_laysSame_18 hL.k ⟨_, _, _, _, b1, b_X12_laysSame_22 ⟨rfl, rfl, rfl, rfl⟩⟩
  · have hn := hg.le
    rw [b2.2.2 _ (by omega)]
    have := a4 x y hx hy
    rw [Nat.mul_zero, Nat.zero_add] at this
    exact this
  · have := b4 x y hx hy
    rw [Nat.mul_one] at this
    exact this
theorem m_staying (hd : 26 < d) (h : MSS S I m N T P) (hG : GS N T V P) (hs : s < 2) : ∃ I', z_ev d i_X12_staying [.ref m, .int (nI s)] S I J (some (.long (lN (stK N T V P s)))) S I' J ∧ MQy I I' m := by
  obtain ⟨d, rfl⟩ := z_dep (d := d) (by omega)
  have hL := h.1
  have hg := (hG s hs).1
  have hn := hg.le
  obtain ⟨I1, a1, a2, a3⟩ := m_laysSame (d := d) (J := J) (by omega) h hG hs
  obtain ⟨n, hnn⟩ : ∃ n, n = N s := ⟨_, rfl⟩
  obtain ⟨F, hF⟩ : ∃ F, F = gF N T V P s := ⟨_, rfl⟩
  have hdg := gF_dg hG hs
  have hpos := hg.pos
  have hms : ∀ I', MQy I I' m → MS S I' m s n (T s) := fun I' hq => by rw [hnn]; exact ((h.fr hq).2 s hs).1
  rw [← hnn, ← hF] at a3 hdg
  rw [← hnn] at hn hpos
  obtain ⟨he, hhe⟩ : ∃ he : Nat → Nat, he = fun l => zcn (fun y => ∃ φ, (S0 n F φ ∧ ∀ j, j < l → φ (j + 1) = j + 1) ∧ φ (l + 1) = y) n := ⟨_, rfl⟩
  have hcount : stK N T V P s = prd1 he (n - 1) := by
    unfold stK
    rw [← hnn, ← hF, hhe]
    refine crdn_eq (chain_count (mk := fun j => j + 1) (s0_pg hpos) (fun j hj => by omega) (Crd.one (a := rowm n (fun x => x)) ⟨⟨is_id, rowm_in hpos⟩, fun j hj => rowm_in (by omega)⟩ (fun φ h => ?_)))
    refine h.1.1.ext is_id (fun x hx => ?_)
    rw [rowm_in hx]
    rcases Nat.eq_zero_or_pos x with e | e
    · rw [e]; exact h.1.2
    · have := h.2 (x - 1) (by omega)
      rw [show x - 1 + 1 = x by omega] at this
      exact this
  rw [hcount]
  suffices hw : z_wp (d + 1) i_X12_staying [.ref m, .int (nI s)] S I J (fun v S' I' J' => v = some (.long (lN (prd1 he (n - 1)))) ∧ S' = S ∧ J' = J ∧ MQy I I' m) by
    obtain ⟨v, S', I', J', x1, rfl, rfl, rfl, x2⟩ := hw
    exact ⟨I', x1, x2⟩
  refine w_X12_staying (b_X12_staying_0 hL.k ⟨_, _, _, _, a1, b_X12_staying_5 ?_⟩)
  suffices H : ∀ k, k ≤ n → 1 ≤ k → ∀ I' j2 v3 x4 v5 v6, LF S I1 I' m → j2 = lN (prd1 he (k - 1)) → x4 = nI k → Go d i_X12_staying 10 [.ref m, .int (nI s), .long j2, v3, .int x4, v5, v6] [] S I' J (fun v S' I' J' => v = some (.long (lN (prd1 he (n - 1)))) ∧ S' = S ∧ J' = J ∧ MQy I I' m) from H 1 hpos (Nat.le_refl _) I1 _ _ _ _ _ LF.refl rfl rfl
  refine z_up_to n ?_ ?_
  · rintro _ I' j2 v3 x4 v5 v6 hFr rfl rfl
    refine b_X12_staying_10 hL.k ⟨_, _, _, _, m_many (by omega) (hms I' (a2.trans (hFr.mq hL))), ?_⟩
    exact b_X12_staying_17 (fun _ => b_X12_staying_80 ⟨rfl, rfl, rfl, a2.trans (hFr.mq hL)⟩) (fun c => absurd (nI_le (Nat.le_refl _) (by omega)) c)
  · rintro k hk ih hk1 I' j2 v3 x4 v5 v6 hFr rfl rfl
    refine b_X12_staying_10 hL.k ⟨_, _, _, _, m_many (by omega) (hms I' (a2.trans (hFr.mq hL))), ?_⟩
    refine b_X12_staying_17 (fun c => absurd c (nI_ge hk (by omega))) (fun _ => b_X12_staying_20 ?_)
    suffices H2 : ∀ y, y ≤ n → ∀ I' x5 x6, LF S I1 I' m → x5 = nI (zcn (fun y => ∃ φ, IS n F F φ ∧ (∀ g, g < k → φ g = g) ∧ φ k = y) y) → x6 = nI y → Go d i_X12_staying 26 [.ref m, .int (nI s), .long (lN (prd1 he (k - 1))), v3, .int (nI k), .int x5, .int x6] [] S I' J (fun v S' I' J' => v = some (.long (lN (prd1 he (n - 1)))) ∧ S' = S ∧ J' = J ∧ MQy I I' m) from H2 0 (by omega) I' _ _ hFr rfl rfl
    refine z_up_to n ?_ ?_
    · rintro I' x5 x6 hFr rfl rfl
      refine b_X12_staying_26 hL.k ⟨_, _, _, _, m_many (by omega) (hms I' (a2.trans (hFr.mq hL))), ?_⟩
      refine b_X12_staying_33 (fun _ => b_X12_staying_68 (ih (by omega) I' _ _ _ _ _ hFr ?_ (nI_1 k))) (fun c => absurd (nI_le (Nat.le_refl _) (by omega)) c)
      have hz := zcn_le (fun y => ∃ φ, IS n F F φ ∧ (∀ g, g < k → φ g = g) ∧ φ k = y) n
      rw [nI_l (by omega), lN_mm]
      refine congrArg lN ?_
      obtain ⟨l, hl⟩ : ∃ l, k = l + 1 := ⟨k - 1, by omega⟩
      rw [hl, show l + 1 + 1 - 1 = l + 1 by omega, show l + 1 - 1 = l by omega]
      show _ = prd1 he l * he l
      rw [hhe]
      refine congrArg (fun z => prd1 _ l * z) (zcn_congr (fun y _ => ⟨fun ⟨φ, q1, q2, q3⟩ => ⟨φ, ⟨⟨q1, q2 0 (by omega)⟩, fun j hj => q2 (j + 1) (by omega)⟩, q3⟩, fun ⟨φ, q1, q2⟩ => ⟨φ, q1.1.1, fun g hg => ?_, q2⟩⟩))
      rcases Nat.eq_zero_or_pos g with e | e
      · rw [e]; exact q1.1.2
      · have := q1.2 (g - 1) (by omega)
        rw [show g - 1 + 1 = g by omega] at this
        exact this
    · rintro y hy ih2 I' x5 x6 hFr rfl rfl
      refine b_X12_staying_26 hL.k ⟨_, _, _, _, m_many (by omega) (hms I' (a2.trans (hFr.mq hL))), ?_⟩
      refine b_X12_staying_33 (fun c => absurd c (nI_ge hy (by omega))) (fun _ => ?_)
      refine b_X12_staying_36 hL.k ⟨_, _, _, _, m_many (by omega) (hms I' (a2.trans (hFr.mq hL))), ?_⟩
      obtain ⟨I2, c1, c2⟩ := m_canLead (d := d) (J := J) (by omega) hL hn hdg (hFr.fa hL a3) hk hy
      refine b_X12_staying_48 hL.k ⟨_, _, _, _, c1, ?_⟩
      refine b_X12_staying_51 (fun c => b_X12_staying_58 (ih2 I2 _ _ (hFr.trans c2) ?_ (nI_1 y))) (fun c => b_X12_staying_54 (ih2 I2 _ _ (hFr.trans c2) ?_ (nI_1 y)))
      · rw [zb_0] at c
        rw [zcn_f (p := fun y => ∃ φ, IS n F F φ ∧ (∀ g, g < k → φ g = g) ∧ φ k = y) c]
        exact i32_add0 _
      · rw [zb_1] at c
        rw [zcn_t (p := fun y => ∃ φ, IS n F F φ ∧ (∀ g, g < k → φ g = g) ∧ φ k = y) c]
        exact nI_1 _
theorem m_symmetries (x1 : Int32) (hd : 27 < d) (h : MSS S I m N T P) (hG : GS N T V P) : ∃ I', z_ev d i_X12_symmetries [.ref m, .int x1] S I J (some (.long (aSym N T V P x1))) S I' J ∧ MQy I I' m := by
  obtain ⟨d, rfl⟩ := z_dep (d := d) (by omega)
  suffices hw : z_wp (d + 1) i_X12_symmetries [.ref m, .int x1] S I J (fun v S' I' J' => v = some (.long (aSym N T V P x1)) ∧ S' = S ∧ J' = J ∧ MQy I I' m) by
    obtain ⟨v, S', I', J', x1, rfl, rfl, rfl, x2⟩ := hw
    exact ⟨I', x1, x2⟩
  refine w_X12_symmetries (b_X12_symmetries_0 h.1.k ⟨_, _, _, _, m_isSlot x1 (by omega), ?_⟩)
  refine b_X12_symmetries_9 (fun c => b_X12_symmetries_27 ⟨?_, rfl, rfl, mq_th⟩) (fun c => ?_)
  · rw [zb_0] at c
    rw [show aSym N T V P x1 = -2 from zq_f c]
  · rw [zb_1] at c
    have e : aSym N T V P x1 = _ := zq_t c
    obtain ⟨s, hs, rfl⟩ := c
    have es : ix (nI s) = s := ix_nI (by omega)
    rw [es] at e
    rw [e]
    have hn := (hG s hs).1.le
    obtain ⟨I', a1, a2⟩ := m_staying (d := d) (J := J) (by omega) h.th hG hs
    refine b_X12_symmetries_12 h.1.k ⟨_, _, _, _, a1, ?_⟩
    refine b_X12_symmetries_17 h.1.k ⟨_, _, _, _, m_many (by omega) ((h.th.fr a2).2 s hs).1, b_X12_symmetries_22 ⟨?_, rfl, rfl, mq_th.trans a2⟩⟩
    rw [nI_l (by omega)]
theorem m_alikeTo (x1 x2 : Int32) (hd : 25 < d) (h : MSS S I m N T P) (hG : GS N T V P) : ∃ I', z_ev d i_X12_alikeTo [.ref m, .int x1, .int x2] S I J (some (.int (aAlikeTo N T V P x1 x2))) S I' J ∧ MQy I I' m := by
  obtain ⟨d, rfl⟩ := z_dep (d := d) (by omega)
  refine aQ.ex (w_X12_alikeTo (b_X12_alikeTo_0 h.1.k h.1.k ⟨_, _, _, _, m_isEl x1 x2 (by omega) h.th hG, ?_⟩))
  refine b_X12_alikeTo_11 (fun c => ?_) (fun c => b_X12_alikeTo_14 ⟨z_someI ?_, rfl, rfl, mq_th⟩)
  · rw [zb_1] at c
    have e : aAlikeTo N T V P x1 x2 = _ := zq_t c
    obtain ⟨⟨s, hs, rfl⟩, c3⟩ := c
    have es : ix (nI s) = s := ix_nI (by omega)
    rw [es] at c3 e
    obtain ⟨x, hx, rfl⟩ := c3
    have hn := (hG s hs).1.le
    rw [ix_nI (by omega)] at e
    rw [e]
    obtain ⟨I1, a1, a2, a3⟩ := m_laysSame (d := d) (J := J) (by omega) h.th hG hs
    obtain ⟨I2, b1, b2⟩ := m_alikeBits (d := d) (J := J) (by omega) h.1 ((h.th.fr a2).2 s hs).1 (hG s hs).1 (gF_dg hG hs) a3 hx
    exact b_X12_alikeTo_17 h.1.k ⟨_, _, _, _, a1, b_X12_alikeTo_22 h.1.k ⟨_, _, _, _, b1, b_X12_alikeTo_28 ⟨rfl, rfl, rfl, (mq_th.trans a2).trans (b2.mq h.1)⟩⟩⟩
  · rw [zb_0] at c
    exact (zq_f c).symm
theorem lst_spec {n st : Nat} (hl : st < 2 ^ n) (h0 : st ≠ 0) : lst n st < n ∧ st.testBit (lst n st) = true ∧ ∀ j, j < lst n st → st.testBit j = false := by
  obtain ⟨i, h1, h2⟩ := z_ne_bit hl h0
  obtain ⟨g1, g2⟩ := zleast_spec (p := fun k => st.testBit k = true) ⟨i, h2⟩
  refine ⟨?_, g1, fun j hj => by
    cases hb : st.testBit j with
    | false => rfl
    | true => exact absurd hb (g2 j hj)⟩
  rcases Nat.lt_or_ge (lst n st) n with q | q
  · exact q
  · have := z_tb_big hl q
    have g1' : st.testBit (lst n st) = true := g1
    rw [this] at g1'; cases g1'
theorem m_areArcsAlike (hd : 26 < d) (h : MSS S I m N T P) (hG : GS N T V P) (hs : s < 2) : ∃ I', z_ev d i_X12_areArcsAlike [.ref m, .int (nI s)] S I J (some (.int (nI (zb (AAl (N s) (gF N T V P s) (P s)))))) S I' J ∧ MQy I I' m := by
  obtain ⟨d, rfl⟩ := z_dep (d := d) (by omega)
  have hL := h.1
  have hg := (hG s hs).1
  have hn := hg.le
  have hp := (hG s hs).2.1
  refine aQ.ex (w_X12_areArcsAlike (b_X12_areArcsAlike_0 hL.k ⟨_, _, _, _, m_steps (by omega) hL.ma (by omega), ?_⟩))
  rw [(h.2 s hs).2]
  refine b_X12_areArcsAlike_5 (fun c => ?_) (fun c => b_X12_areArcsAlike_8 z_fit0 ⟨z_someI ?_, rfl, rfl, MQy.refl⟩)
  · rw [z_eq0 (z_lt31 hn hp)] at c
    obtain ⟨k1, k2, k3⟩ := lst_spec hp c
    obtain ⟨I1, a1, a2, a3⟩ := m_laysSame (d := d) (J := J) (by omega) h hG hs
    have h1 := h.fr a2
    obtain ⟨I2, b1, b2⟩ := m_alikeBits (d := d) (J := J) (by omega) hL (h1.2 s hs).1 hg (gF_dg hG hs) a3 k1
    have h2 := h1.fr (b2.mq hL)
    refine b_X12_areArcsAlike_10 hL.k ⟨_, _, _, _, a1, ?_⟩
    refine b_X12_areArcsAlike_15 hL.k ⟨_, _, _, _, m_steps (by omega) hL.ma (by omega), ?_⟩
    rw [(h1.2 s hs).2]
    refine b_X12_areArcsAlike_22 ⟨_, _, _, _, ev_ntz (by omega) (z_lt31 hn hp) (by omega) k2 k3, ?_⟩
    refine b_X12_areArcsAlike_25 hL.k ⟨_, _, _, _, b1, ?_⟩
    refine b_X12_areArcsAlike_28 hL.k ⟨_, _, _, _, m_steps (by omega) hL.ma (by omega), ?_⟩
    rw [(h2.2 s hs).2]
    refine b_X12_areArcsAlike_33 (fun c2 => b_X12_areArcsAlike_40 z_fit0 ⟨z_someI ?_, rfl, rfl, a2.trans (b2.mq hL)⟩) (fun c2 => b_X12_areArcsAlike_36 z_fit1 ⟨z_someI ?_, rfl, rfl, a2.trans (b2.mq hL)⟩)
    · rw [nI_eq (z_lt31 hn (orbt_lt _)) (z_lt31 hn hp)] at c2
      rw [zb_f (fun q => c2 q.2)]; rfl
    · rw [nI_eq (z_lt31 hn (orbt_lt _)) (z_lt31 hn hp)] at c2
      rw [zb_t (show AAl (N s) (gF N T V P s) (P s) from ⟨c, c2⟩)]; rfl
  · rw [z_eq0 (z_lt31 hn hp)] at c
    rw [zb_f (fun q => q.1 c)]; rfl
/-- points as far from 0 -/
theorem orbt_far {n x y : Nat} {F : Nat → Nat → Int32} (hn : 0 < n) (hx : x < n) (h : (orbt n F x).testBit y = true) : F 0 x = F 0 y := by
  obtain ⟨hy, φ, h1, h2⟩ := orbt_bit.mp h
  have := h1.1.2.2.2 0 x hn hx
  rw [h1.2, h2] at this
  exact this
theorem m_areFarAlike (hd : 26 < d) (h : MSS S I m N T P) (hG : GS N T V P) (hs : s < 2) : ∃ I', z_ev d i_X12_areFarAlike [.ref m, .int (nI s)] S I J (some (.int (nI (zb (FAl (N s) (gF N T V P s)))))) S I' J ∧ MQy I I' m := by
  obtain ⟨d, rfl⟩ := z_dep (d := d) (by omega)
  have hL := h.1
  have hg := (hG s hs).1
  have hn := hg.le
  have hpos := hg.pos
  obtain ⟨I1, a1, a2, a3⟩ := m_laysSame (d := d) (J := J) (by omega) h hG hs
  have hdg := gF_dg hG hs
  have h00 : ∀ x, x < N s → gF N T V P s 0 x = gF N T V P s 0 0 → x = 0 := by
    intro x hx e
    unfold gF at e
    rw [fd_self hg hpos, fd_0 hg hx] at e
    rcases fr_ex (E := arc (N s) (T s) (P s)) hpos x with ⟨q1, _⟩ | ⟨k, q1, q2, q3, _⟩
    · rw [q1] at e; exact absurd e (by decide)
    · rw [q2, z_eq0 (by omega)] at e
      subst e
      exact q3
  obtain ⟨F, hF⟩ : ∃ F, F = gF N T V P s := ⟨_, rfl⟩
  rw [← hF] at a3 hdg h00 ⊢
  obtain ⟨n, hnn⟩ : ∃ n, n = N s := ⟨_, rfl⟩
  have hms : ∀ I', MQy I I' m → MS S I' m s n (T s) := fun I' hq => by rw [hnn]; exact ((h.fr hq).2 s hs).1
  have hg2 : Grp n (T s) (V s) := by rw [hnn]; exact hg
  rw [← hnn] at a3 hdg h00 hn hpos ⊢
  refine aQ.ex (w_X12_areFarAlike (b_X12_areFarAlike_0 hL.k ⟨_, _, _, _, a1, b_X12_areFarAlike_5 ?_⟩))
  suffices H : ∀ x, x ≤ n → 1 ≤ x → (∀ x', x' < x → 1 ≤ x' → (∀ y, y < x' → F 0 y ≠ F 0 x') → orbt n F x' = zset n (fun y => F 0 y = F 0 x')) → ∀ I' x2 v3 v4, LF2 S I1 I' m → x2 = nI x → Go d i_X12_areFarAlike 7 [.ref m, .int (nI s), .int x2, v3, v4] [] S I' J (aQ S J (nI (zb (FAl n F))) (fun I' => MQy I I' m)) from H 1 hpos (Nat.le_refl _) (fun x' h1 h2 => by omega) I1 _ _ _ LF2.refl rfl
  refine z_up_to n ?_ ?_
  · rintro _ hall I' x2 v3 v4 hFr rfl
    refine b_X12_areFarAlike_7 hL.k ⟨_, _, _, _, m_many (by omega) (hms I' (a2.trans (hFr.mq hL))), ?_⟩
    refine b_X12_areFarAlike_13 (fun _ => b_X12_areFarAlike_92 z_fit1 ⟨z_someI ?_, rfl, rfl, a2.trans (hFr.mq hL)⟩) (fun c => absurd (nI_le (Nat.le_refl _) (by omega)) c)
    rw [zb_t]
    · rfl
    · intro x hx y hy e
      obtain ⟨r, r1, r2⟩ := z_least (p := fun z => z < n ∧ F 0 z = F 0 x) ⟨x, hx, rfl⟩
      have r3 : ∀ z, z < r → F 0 z ≠ F 0 r := fun z hz q => r2 z hz ⟨by omega, by rw [q]; exact r1.2⟩
      rcases Nat.eq_zero_or_pos r with q | q
      · rw [q] at r1
        have x0 := h00 x hx r1.2.symm
        have y0 := h00 y hy (by rw [← e]; exact r1.2.symm)
        rw [x0, y0]
        exact orbt_self hpos hpos
      · have hr := hall r r1.1 q r3
        have b1 : (orbt n F r).testBit x = true := by rw [hr]; exact (zset_bit _ _ _).mpr ⟨hx, r1.2.symm⟩
        have b2 : (orbt n F r).testBit y = true := by rw [hr]; exact (zset_bit _ _ _).mpr ⟨hy, by rw [← e]; exact r1.2.symm⟩
        exact orbt_tr hpos hx (orbt_sym hpos r1.1 b1) b2
  · rintro x hx ih hx1 hall I' x2 v3 v4 hFr rfl
    refine b_X12_areFarAlike_7 hL.k ⟨_, _, _, _, m_many (by omega) (hms I' (a2.trans (hFr.mq hL))), ?_⟩
    refine b_X12_areFarAlike_13 (fun c => absurd c (nI_ge hx (by omega))) (fun _ => b_X12_areFarAlike_16 ?_)
    have hA' := hFr.fa hL a3
    suffices H2 : ∀ y, y ≤ n → ∀ x3 x4, x3 = nI (zset n (fun z => z < y ∧ F 0 z = F 0 x)) → x4 = nI y → Go d i_X12_areFarAlike 21 [.ref m, .int (nI s), .int (nI x), .int x3, .int x4] [] S I' J (aQ S J (nI (zb (FAl n F))) (fun I' => MQy I I' m)) by
      refine H2 0 (by omega) _ _ ?_ rfl
      rw [zset_none (fun i _ q => by omega)]; rfl
    have v32 : ∀ y, y < n → I' (z_rv S m 32) y = F 0 y := fun y hy => by
      have := (hA' 0 y hpos hy).1
      rw [Nat.mul_zero, Nat.zero_add] at this
      exact this
    refine z_up_to n ?_ ?_
    · rintro x3 x4 rfl rfl
      refine b_X12_areFarAlike_21 hL.k ⟨_, _, _, _, m_many (by omega) (hms I' (a2.trans (hFr.mq hL))), ?_⟩
      refine b_X12_areFarAlike_28 (fun _ => ?_) (fun c => absurd (nI_le (Nat.le_refl _) (by omega)) c)
      have eas : zset n (fun z => z < n ∧ F 0 z = F 0 x) = zset n (fun z => F 0 z = F 0 x) := zset_congr (fun i hi => ⟨fun q => q.2, fun q => ⟨hi, q⟩⟩)
      rw [eas]
      have has := zset_lt n (fun z => F 0 z = F 0 x)
      have hpx := Nat.two_pow_pos x
      have eq1 : nI (zset n (fun z => F 0 z = F 0 x)) &&& ((1 <<< (nI x &&& 31)) - 1) = 0 ↔ ∀ y, y < x → F 0 y ≠ F 0 x := by
        rw [z_shl1 (by omega), z_lit 1, pk_sub (by omega), z_and, z_eq0 (Nat.lt_of_le_of_lt Nat.and_le_left (z_lt31 hn has))]
        constructor
        · intro q y hy e
          have : (zset n (fun z => F 0 z = F 0 x) &&& (2 ^ x - 1)).testBit y = true := by
            rw [Nat.testBit_and, (zset_bit _ _ _).mpr ⟨by omega, e⟩, Nat.testBit_two_pow_sub_one]
            simp [hy]
          rw [q, Nat.zero_testBit] at this; cases this
        · intro q
          refine z_ext (n := n) (Nat.lt_of_le_of_lt Nat.and_le_left has) (Nat.two_pow_pos n) (fun i hi => ?_)
          rw [Nat.testBit_and, Nat.zero_testBit, Nat.testBit_two_pow_sub_one]
          cases hb : (zset n (fun z => F 0 z = F 0 x)).testBit i with
          | false => rfl
          | true =>
            have := ((zset_bit _ _ _).mp hb).2
            have hni : ¬ i < x := fun q2 => q i q2 this
            simp [hni]
      refine b_X12_areFarAlike_64 (fun c => b_X12_areFarAlike_86 (ih (by omega) (fun x' h1 h2 h3 => ?_) I' _ _ _ hFr (nI_1 x))) (fun c => ?_)
      · rw [eq1] at c
        by_cases e : x' = x
        · rw [e] at h3; exact absurd h3 c
        · exact hall x' (by omega) h2 h3
      · rw [eq1] at c
        obtain ⟨I2, b1, b2⟩ := m_alikeBits (d := d) (J := J) (by omega) hL (hms I' (a2.trans (hFr.mq hL))) hg2 hdg hA' hx
        refine b_X12_areFarAlike_74 hL.k ⟨_, _, _, _, b1, ?_⟩
        refine b_X12_areFarAlike_80 (fun c2 => b_X12_areFarAlike_86 (ih (by omega) (fun x' h1 h2 h3 => ?_) I2 _ _ _ (hFr.trans b2) (nI_1 x))) (fun c2 => b_X12_areFarAlike_84 z_fit0 ⟨z_someI ?_, rfl, rfl, a2.trans ((hFr.trans b2).mq hL)⟩)
        · rw [nI_eq (z_lt31 hn (orbt_lt _)) (z_lt31 hn has)] at c2
          by_cases e : x' = x
          · rw [e]; exact c2
          · exact hall x' (by omega) h2 h3
        · rw [nI_eq (z_lt31 hn (orbt_lt _)) (z_lt31 hn has)] at c2
          rw [zb_f]
          · rfl
          · intro q
            exact c2 (z_ext (orbt_lt _) has (fun i hi => by
              rw [Bool.eq_iff_iff, zset_bit]
              exact ⟨fun w => ⟨hi, (orbt_far hpos hx w).symm⟩, fun w => q x hx i hi w.2.symm⟩))
    · rintro y hy ih2 x3 x4 rfl rfl
      refine b_X12_areFarAlike_21 hL.k ⟨_, _, _, _, m_many (by omega) (hms I' (a2.trans (hFr.mq hL))), ?_⟩
      refine b_X12_areFarAlike_28 (fun c => absurd c (nI_ge hy (by omega))) (fun _ => ?_)
      refine b_X12_areFarAlike_31 hL.k (hL.a32.rd (by omega) (by decide)) hL.k (hL.a32.rd (by omega) (by decide)) (fun c => b_X12_areFarAlike_55 (ih2 _ _ ?_ (nI_1 y))) (fun c => b_X12_areFarAlike_48 (ih2 _ _ ?_ (nI_1 y)))
      · rw [nI_clamp (by omega), nI_clamp (by omega), v32 y hy, v32 x hx] at c
        rw [z_lit 0, z_or, Nat.or_zero]
        refine congrArg nI (zset_congr (fun i _ => ⟨fun q => ⟨by omega, q.2⟩, fun q => ⟨?_, q.2⟩⟩))
        by_cases e : i = y
        · rw [e] at q; exact absurd q.2 c
        · omega
      · rw [nI_clamp (by omega), nI_clamp (by omega), v32 y hy, v32 x hx] at c
        rw [z_shl1 (by omega), z_or]
        refine congrArg nI (zset_add (p := fun z => z < y ∧ F 0 z = F 0 x) (q := fun z => z < y + 1 ∧ F 0 z = F 0 x) hy (fun i _ => ⟨fun q => ?_, fun q => ?_⟩)).symm
        · by_cases e : i = y
          · exact Or.inr e
          · exact Or.inl ⟨by omega, q.2⟩
        · rcases q with q | q
          · exact ⟨by omega, q.2⟩
          · exact ⟨by omega, by rw [q]; exact c⟩
theorem m_regular (x1 x2 : Int32) (hd : 28 < d) (h : MSS S I m N T P) (hG : GS N T V P) : ∃ I', z_ev d i_X12_regular [.ref m, .int x1, .int x2] S I J (some (.int (aRegular N T V P x1 x2))) S I' J ∧ MQy I I' m := by
  obtain ⟨d, rfl⟩ := z_dep (d := d) (by omega)
  refine aQ.ex (w_X12_regular (b_X12_regular_0 h.1.k ⟨_, _, _, _, m_isSlot x1 (by omega), ?_⟩))
  refine b_X12_regular_9 (fun c => ?_) (fun c => b_X12_regular_12 ⟨z_someI ?_, rfl, rfl, mq_th⟩)
  · rw [zb_1] at c
    have e : aRegular N T V P x1 x2 = _ := zq_t c
    obtain ⟨s, hs, rfl⟩ := c
    have es : ix (nI s) = s := ix_nI (by omega)
    rw [es] at e
    rw [e]
    refine b_X12_regular_15 (Go.sw _ (fun q hq hx => ?_) (fun hno => ?_))
    · simp only [List.mem_cons, List.not_mem_nil, or_false] at hq
      rcases hq with rfl | rfl | rfl | rfl
      · have hx' : x2 = 0 := hx
        subst hx'
        obtain ⟨I', a1, a2⟩ := m_areArcsAlike (d := d) (J := J) (by omega) h.th hG hs
        refine b_X12_regular_48 h.1.k ⟨_, _, _, _, a1, b_X12_regular_53 (fun c => b_X12_regular_60 ⟨z_someI ?_, rfl, rfl, mq_th.trans a2⟩) (fun c => b_X12_regular_56 ⟨z_someI ?_, rfl, rfl, mq_th.trans a2⟩)⟩
        · rw [zb_0] at c
          unfold rgv; rw [if_pos rfl, zb_f c]; rfl
        · rw [zb_1] at c
          unfold rgv; rw [if_pos rfl, zb_t c]; rfl
      · have hx' : x2 = 1 := hx
        subst hx'
        obtain ⟨I', a1, a2⟩ := m_areFarAlike (d := d) (J := J) (by omega) h.th hG hs
        refine b_X12_regular_62 h.1.k ⟨_, _, _, _, a1, b_X12_regular_67 (fun c => b_X12_regular_74 ⟨z_someI ?_, rfl, rfl, mq_th.trans a2⟩) (fun c => b_X12_regular_70 ⟨z_someI ?_, rfl, rfl, mq_th.trans a2⟩)⟩
        · rw [zb_0] at c
          unfold rgv; rw [if_neg (by decide), if_pos rfl, zb_f c]; rfl
        · rw [zb_1] at c
          unfold rgv; rw [if_neg (by decide), if_pos rfl, zb_t c]; rfl
      · have hx' : x2 = 2 := hx
        subst hx'
        obtain ⟨I', a1, a2⟩ := m_staying (d := d) (J := J) (by omega) h.th hG hs
        obtain ⟨I2, b1, b2⟩ := m_own (d := d) (J := J) (by omega) (h.th.fr a2) hG hs
        refine b_X12_regular_76 h.1.k ⟨_, _, _, _, a1, b_X12_regular_81 h.1.k ⟨_, _, _, _, b1, b_X12_regular_86 (fun c => b_X12_regular_95 ⟨z_someI ?_, rfl, rfl, (mq_th.trans a2).trans b2⟩) (fun c => b_X12_regular_91 ⟨z_someI ?_, rfl, rfl, (mq_th.trans a2).trans b2⟩)⟩⟩
        · rw [lg_cmp_eq] at c
          unfold rgv owK; rw [if_neg (by decide), if_neg (by decide), if_pos rfl, zb_f c]; rfl
        · rw [lg_cmp_eq] at c
          unfold rgv owK; rw [if_neg (by decide), if_neg (by decide), if_pos rfl, zb_t c]; rfl
      · have hx' : x2 = 3 := hx
        subst hx'
        obtain ⟨I2, b1, b2⟩ := m_own (d := d) (J := J) (by omega) h.th hG hs
        exact b_X12_regular_97 h.1.k ⟨_, _, _, _, b1, b_X12_regular_102 ⟨z_someI (by unfold rgv; rw [if_neg (by decide), if_neg (by decide), if_neg (by decide), if_pos rfl]; rfl), rfl, rfl, mq_th.trans b2⟩⟩
    · simp only [List.mem_cons, List.not_mem_nil, or_false, forall_eq_or_imp, forall_eq] at hno
      obtain ⟨h0, h1, h2, h3⟩ := hno
      exact b_X12_regular_103 ⟨z_someI (by unfold rgv; rw [if_neg h0, if_neg h1, if_neg h2, if_neg h3]), rfl, rfl, mq_th⟩
  · rw [zb_0] at c
    exact (zq_f c).symm
end M17

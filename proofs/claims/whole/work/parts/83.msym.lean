/-! THE MODEL: symmetries of a network -/
/-- what laying distances may change -/
def WF (S : zS) (I0 I : zI) (m b : Nat) : Prop := (∀ h, h ≠ z_rv S m 29 → h ≠ z_rv S m 30 → h ≠ z_rv S m 32 → I h = I0 h) ∧ (∀ j, j < 20 * b ∨ 20 * b + 20 ≤ j → I (z_rv S m 29) j = I0 (z_rv S m 29) j) ∧ ∀ j, j < 400 * b ∨ 400 * b + 400 ≤ j → I (z_rv S m 32) j = I0 (z_rv S m 32) j
/-- the search's row, its set, the pin -/
def LF2 (S : zS) (I0 I : zI) (m : Nat) : Prop := (∀ h, h ≠ m → h ≠ z_rv S m 31 → I h = I0 h) ∧ ∀ k, k ≠ 33 → k ≠ 34 → k ≠ 35 → I m k = I0 m k
theorem lN_mm (a b : Nat) : lN a * lN b = lN (a * b) := (Int64.ofNat_mul a b).symm
section M16
variable {d m s n : Nat} {t : Nat → Nat → Nat} {iv : Nat → Nat} {st : Nat} {F F' : Nat → Nat → Int32} {S : zS} {I I0 I1 : zI} {J : zJ}
theorem WF.mq {b : Nat} (h : WF S I0 I m b) (hL : MLay S m) : MQy I0 I m := by
  have e1 := hL.a29.1
  have e2 := hL.a30.1
  have e3 := hL.a32.1
  refine ⟨fun a h1 h2 => h.1 a (by omega) (by omega) (by omega), fun k _ _ => ?_⟩
  rw [h.1 m (by omega) (by omega) (by omega)]
theorem LF2.refl : LF2 S I0 I0 m := ⟨fun _ _ _ => rfl, fun _ _ _ _ => rfl⟩
theorem LF2.trans (h : LF2 S I0 I m) (h' : LF2 S I I1 m) : LF2 S I0 I1 m := ⟨fun a h1 h2 => by rw [h'.1 a h1 h2]; exact h.1 a h1 h2, fun k h1 h2 h3 => by rw [h'.2 k h1 h2 h3]; exact h.2 k h1 h2 h3⟩
theorem LF.lf2 (h : LF S I0 I m) : LF2 S I0 I m := ⟨h.1, fun k hk _ _ => h.2 k hk⟩
theorem LF2.f {k : Nat} {v : Int32} (h : LF2 S I0 I m) (hk : k = 33 ∨ k = 34 ∨ k = 35) : LF2 S I0 (z_u2 I m k v) m := ⟨fun a h1 h2 => by rw [z_u2_row h1]; exact h.1 a h1 h2, fun j h1 h2 h3 => by rw [z_u2_nk (by omega)]; exact h.2 j h1 h2 h3⟩
theorem LF2.w {k : Nat} {v : Int32} (h : LF2 S I0 I m) (hL : MLay S m) : LF2 S I0 (z_u2 I (z_rv S m 31) k v) m := ⟨fun a h1 h2 => by rw [z_u2_row h2]; exact h.1 a h1 h2, fun j h1 h2 h3 => by rw [z_u2_row (by rw [hL.a31.1]; omega)]; exact h.2 j h1 h2 h3⟩
theorem LF2.fa (h : LF2 S I0 I m) (hL : MLay S m) (hF : FA S I0 m n F F') : FA S I m n F F' := fun x y hx hy => by
  rw [h.1 _ (by rw [hL.a32.1]; omega) (by rw [hL.a32.1, hL.a31.1]; omega)]
  exact hF x y hx hy
theorem LF2.mq (h : LF2 S I0 I m) (hL : MLay S m) : MQy I0 I m := by
  have e := hL.a31.1
  exact ⟨fun a h1 h2 => h.1 a h1 (by omega), fun k _ hk => h.2 k (by omega) (by omega) (by omega)⟩
theorem m_laysFars {a b : Nat} (hd : 3 < d) (hL : MLay S m) (hM : MS S I0 m s n t) (hg : Grp n t iv) (ha : a < 2 ^ n) (hb : b < 2) : ∃ I', z_ev d i_X12_laysFars [.ref m, .int (nI s), .int (nI a), .int (nI b)] S I0 J none S I' J ∧ WF S I0 I' m b ∧ (∀ x, x < n → I' (z_rv S m 29) (20 * b + x) = fr n (arc n t a) 0 x) ∧ ∀ x y, x < n → y < n → I' (z_rv S m 32) (400 * b + 20 * x + y) = fd n t iv a x y := by
  obtain ⟨d, rfl⟩ := z_dep (d := d) (by omega)
  have hk := hL.k
  have hn := hg.le
  obtain ⟨I1, a1, a2, a3⟩ := m_laysFar (d := d) (J := J) (by omega) hL.mk hM hg ha hb
  have n32 : z_rv S m 32 ≠ z_rv S m 29 ∧ z_rv S m 32 ≠ z_rv S m 30 ∧ z_rv S m 32 ≠ z_rv S m 0 := by rw [hL.a32.1, hL.a29.1, hL.a30.1, hL.a0.1]; omega
  suffices hw : z_wp (d + 1) i_X12_laysFars [.ref m, .int (nI s), .int (nI a), .int (nI b)] S I0 J (fun v S' I' J' => v = none ∧ S' = S ∧ J' = J ∧ WF S I0 I' m b ∧ (∀ x, x < n → I' (z_rv S m 29) (20 * b + x) = fr n (arc n t a) 0 x) ∧ ∀ x y, x < n → y < n → I' (z_rv S m 32) (400 * b + 20 * x + y) = fd n t iv a x y) by
    obtain ⟨v, S', I', J', x1, rfl, rfl, rfl, x2⟩ := hw
    exact ⟨I', x1, x2⟩
  refine w_X12_laysFars (b_X12_laysFars_0 hk ⟨_, _, _, _, a1, b_X12_laysFars_7 ?_⟩)
  -- what holds all along
  obtain ⟨G, hG⟩ : ∃ G : zI → Prop, G = fun I => (∀ h, h ≠ z_rv S m 32 → I h = I1 h) ∧ ∀ j, j < 400 * b ∨ 400 * b + 400 ≤ j → I (z_rv S m 32) j = I1 (z_rv S m 32) j := ⟨_, rfl⟩
  have gms : ∀ I, G I → MS S I m s n t := fun I h => by
    rw [hG] at h
    exact (a2.ms hL.mk hM).fr (h.1 _ (fun e => n32.2.2 e.symm))
  have g29 : ∀ I, G I → ∀ x, x < n → I (z_rv S m 29) (20 * b + x) = fr n (arc n t a) 0 x := fun I h x hx => by
    rw [hG] at h
    rw [h.1 _ (fun e => n32.1 e.symm)]; exact a3 x hx
  have gw : ∀ I, G I → WF S I0 I m b := fun I h => by
    rw [hG] at h
    refine ⟨fun c h1 h2 h3 => by rw [h.1 c h3]; exact a2.1 c h1 h2, fun j hj => by rw [h.1 _ (fun e => n32.1 e.symm)]; exact a2.2 j hj, fun j hj => ?_⟩
    rw [h.2 j hj, a2.1 _ n32.1 n32.2.1]
  suffices H : ∀ x, x ≤ n → ∀ I x4 v5, G I → (∀ g y, g < x → y < n → I (z_rv S m 32) (400 * b + 20 * g + y) = fd n t iv a g y) → x4 = nI x → Go d i_X12_laysFars 10 [.ref m, .int (nI s), .int (nI a), .int (nI b), .int x4, v5] [] S I J (fun v S' I' J' => v = none ∧ S' = S ∧ J' = J ∧ WF S I0 I' m b ∧ (∀ x, x < n → I' (z_rv S m 29) (20 * b + x) = fr n (arc n t a) 0 x) ∧ ∀ x y, x < n → y < n → I' (z_rv S m 32) (400 * b + 20 * x + y) = fd n t iv a x y) from H 0 (by omega) I1 _ _ (by rw [hG]; exact ⟨fun _ _ => rfl, fun _ _ => rfl⟩) (fun g y hg => by omega) rfl
  refine z_up_to n ?_ ?_
  · rintro I x4 v5 hGI hrow rfl
    refine b_X12_laysFars_10 hk ⟨_, _, _, _, m_many (by omega) (gms I hGI), ?_⟩
    exact b_X12_laysFars_17 (fun _ => b_X12_laysFars_74 ⟨rfl, rfl, rfl, gw I hGI, g29 I hGI, fun x y hx hy => hrow x y hx hy⟩) (fun c => absurd (nI_le (Nat.le_refl _) (by omega)) c)
  · rintro x hx ih I x4 v5 hGI hrow rfl
    refine b_X12_laysFars_10 hk ⟨_, _, _, _, m_many (by omega) (gms I hGI), ?_⟩
    refine b_X12_laysFars_17 (fun c => absurd c (nI_ge hx (by omega))) (fun _ => b_X12_laysFars_20 ?_)
    suffices H2 : ∀ y, y ≤ n → ∀ I x5, G I → (∀ g y, g < x → y < n → I (z_rv S m 32) (400 * b + 20 * g + y) = fd n t iv a g y) → (∀ y', y' < y → I (z_rv S m 32) (400 * b + 20 * x + y') = fd n t iv a x y') → x5 = nI y → Go d i_X12_laysFars 23 [.ref m, .int (nI s), .int (nI a), .int (nI b), .int (nI x), .int x5] [] S I J (fun v S' I' J' => v = none ∧ S' = S ∧ J' = J ∧ WF S I0 I' m b ∧ (∀ x, x < n → I' (z_rv S m 29) (20 * b + x) = fr n (arc n t a) 0 x) ∧ ∀ x y, x < n → y < n → I' (z_rv S m 32) (400 * b + 20 * x + y) = fd n t iv a x y) from H2 0 (by omega) I _ hGI hrow (fun y' hy' => by omega) rfl
    refine z_up_to n ?_ ?_
    · rintro I x5 hGI hrow hr2 rfl
      refine b_X12_laysFars_23 hk ⟨_, _, _, _, m_many (by omega) (gms I hGI), ?_⟩
      refine b_X12_laysFars_30 (fun _ => b_X12_laysFars_68 (ih I _ _ hGI (fun g y hg hy => ?_) (nI_1 x))) (fun c => absurd (nI_le (Nat.le_refl _) (by omega)) c)
      by_cases e : g = x
      · rw [e]; exact hr2 y hy
      · exact hrow g y (by omega) hy
    · rintro y hy ih2 I x5 hGI hrow hr2 rfl
      refine b_X12_laysFars_23 hk ⟨_, _, _, _, m_many (by omega) (gms I hGI), ?_⟩
      refine b_X12_laysFars_30 (fun c => absurd c (nI_ge hy (by omega))) (fun _ => ?_)
      refine b_X12_laysFars_33 hk hk ⟨_, _, _, _, m_farOf (by omega) hL (gms I hGI) hg hb (g29 I hGI) hx hy, ?_⟩
      have e : (400 : Int32) * nI b + 20 * nI x + nI y = nI (400 * b + 20 * x + y) := by rw [z_lit 400, z_lit 20, pk_mul, pk_mul, nI_add, nI_add]
      refine b_X12_laysFars_61 (by rw [e]; exact hL.a32.wr (by omega) (by decide)) ?_
      rw [e, nI_clamp (by omega)]
      have hG2 : G (z_u2 I (z_rv S m 32) (400 * b + 20 * x + y) (fr n (arc n t a) 0 (t (iv x) y))) := by
        rw [hG] at hGI ⊢
        exact ⟨fun h hh => by rw [z_u2_row hh]; exact hGI.1 h hh, fun j hj => by rw [z_u2_nk (by omega)]; exact hGI.2 j hj⟩
      refine ih2 _ _ hG2 (fun g y' hg hy' => ?_) (fun y' hy' => ?_) (nI_1 y)
      · rw [z_u2_nk (by omega)]; exact hrow g y' hg hy'
      · by_cases e2 : y' = y
        · rw [e2, z_u2_same]; rfl
        · rw [z_u2_nk (by omega)]; exact hr2 y' (by omega)
/-- whether points ahead of one can stay, and it be led so -/
theorem img_id {x : Nat} (hx : x ≤ n) : img n (fun g => g) x = 2 ^ x - 1 := (zset_eq (by have := Nat.pow_le_pow_right (show 0 < 2 by decide) hx; have := Nat.two_pow_pos x; omega) (fun i hi => by
  rw [Nat.testBit_two_pow_sub_one, decide_eq_true_eq]
  exact ⟨fun h => ⟨i, h, rfl⟩, fun ⟨g, h1, h2⟩ => by have h2' : g = i := h2; omega⟩)).symm
theorem pi_id {x : Nat} (hx : x ≤ n) : PI n x F F (fun g => g) := ⟨fun g hg => Nat.lt_of_lt_of_le hg hx, fun g h _ _ e => e, fun g h _ _ => rfl⟩
theorem m_canLead {x y : Nat} (hd : 23 < d) (hL : MLay S m) (hn : n ≤ 20) (hdg : ∀ x y, x < n → y < n → F x x = F y y) (hA : FA S I0 m n F F) (hx : x < n) (hy : y < n) : ∃ I', z_ev d i_X12_canLead [.ref m, .int (nI x), .int (nI y), .int (nI n)] S I0 J (some (.int (nI (zb (∃ φ, IS n F F φ ∧ (∀ g, g < x → φ g = g) ∧ φ x = y))))) S I' J ∧ LF S I0 I' m := by
  obtain ⟨d, rfl⟩ := z_dep (d := d) (by omega)
  have hk := hL.k
  have h31ne : m ≠ z_rv S m 31 := by rw [hL.a31.1]; omega
  have hp := Nat.two_pow_pos x
  refine aQ.ex (w_X12_canLead (b_X12_canLead_0 hk ?_))
  have e33 : (1 : Int32) <<< (nI x &&& 31) - 1 = nI (img n (fun g => g) x) := by
    rw [z_shl1 (by omega), img_id (by omega)]
    exact pk_sub (b := 1) (by omega)
  rw [e33]
  suffices H : ∀ k, k ≤ x → ∀ I x4, LF S I0 I m → I m 33 = nI (img n (fun g => g) x) → (∀ g, g < k → I (z_rv S m 31) g = nI g) → x4 = nI k → Go d i_X12_canLead 12 [.ref m, .int (nI x), .int (nI y), .int (nI n), .int x4] [] S I J (aQ S J (nI (zb (∃ φ, IS n F F φ ∧ (∀ g, g < x → φ g = g) ∧ φ x = y))) (fun I' => LF S I0 I' m)) from H 0 (by omega) _ _ LF.refl.f z_u2_same (fun g hg => by omega) rfl
  refine z_up_to x ?_ ?_
  · rintro I x4 hF h33 hl rfl
    refine b_X12_canLead_12 (fun _ => ?_) (fun c => absurd (nI_le (Nat.le_refl _) (by omega)) c)
    refine b_X12_canLead_33 hk ⟨_, _, _, _, by rw [h33]; exact m_has (by omega) (z_lt31 hn (zset_lt _ _)) (by omega), ?_⟩
    refine b_X12_canLead_41 (fun c => b_X12_canLead_53 z_fit0 ⟨z_someI ?_, rfl, rfl, hF⟩) (fun c => ?_)
    · rw [z_tn1] at c
      obtain ⟨_, g, q1, q2⟩ := (zset_bit _ _ _).mp c
      rw [zb_f]
      · rfl
      · rintro ⟨φ, p1, p2, p3⟩
        have q2' : g = y := q2
        have := p1.2.2.1 x g hx (by omega) (by rw [p3, p2 g q1, q2'])
        omega
    · rw [z_tn0] at c
      have hny : ∀ g, g < x → (fun g => g) g ≠ y := fun g hg e => by
        have : (img n (fun g => g) x).testBit y = true := (zset_bit _ _ _).mpr ⟨hy, g, hg, e⟩
        rw [this] at c; cases c
      refine b_X12_canLead_44 hk ⟨_, _, _, _, m_mayLead (by omega) hL (hF.fa hL hA) hn hx hy (fun g hg => ⟨hl g hg, by omega⟩), ?_⟩
      refine b_X12_canLead_50 (fun c2 => ?_) (fun c2 => b_X12_canLead_53 z_fit0 ⟨z_someI ?_, rfl, rfl, hF⟩)
      · rw [zb_1] at c2
        obtain ⟨I1, hI1⟩ : ∃ I1, I1 = z_u2 (z_u2 I (z_rv S m 31) x (nI y)) m 33 (nI (img n (zput (fun g => g) x y) (x + 1))) := ⟨_, rfl⟩
        have e1 : z_u2 I (z_rv S m 31) x (nI y) m 33 ||| (1 <<< (nI y &&& 31)) = nI (img n (zput (fun g => g) x y) (x + 1)) := by
          rw [z_u2_row h31ne, h33, z_shl1 (by omega), z_or, img_put hy]
        have hF1 : LF S I0 I1 m := by rw [hI1]; exact (hF.w hL).f
        refine b_X12_canLead_55 hk (hL.a31.wr (by omega) (by decide)) hk hk rfl hk ?_
        rw [nI_clamp (by omega), e1, ← hI1, nI_1]
        have hrec := m_goesOn (S := S) (J := J) (F := F) (F' := F) hL hn hdg n d (x + 1) (zput (fun g => g) x y) I1 (by omega) (by omega) (by omega) (hF1.fa hL hA) (fun g hg => by
          by_cases e : g = x
          · rw [e, zput_s, hI1, z_u2_row (fun e => h31ne e.symm), z_u2_same]
          · rw [zput_n e, hI1, z_u2_row (fun e => h31ne e.symm), z_u2_nk e]; exact hl g (by omega)) ((pi_id (by omega)).add hy c2 hny (hdg x y hx hy)) (by rw [hI1, z_u2_same])
        refine hrec.mono ?_
        rintro v S1 I3 J1 ⟨r, rfl, rfl, rfl, u1, u2, u3, u4⟩
        refine b_X12_canLead_82 (z_fitb r) ⟨z_someI ?_, rfl, rfl, hF1.trans u1⟩
        cases r with
        | false =>
          rw [zb_f]
          · rfl
          · rintro ⟨φ, p1, p2, p3⟩
            exact (u4 rfl).1 φ p1 (ext_put.mpr ⟨fun g hg => (p2 g hg).symm, p3⟩)
        | true =>
          obtain ⟨φ, ⟨⟨w1, w2⟩, _⟩, _⟩ := u3 rfl
          obtain ⟨w5, w6⟩ := ext_put.mp w2
          rw [zb_t ⟨φ, w1, fun g hg => (w5 g hg).symm, w6⟩]; rfl
      · rw [zb_0] at c2
        rw [zb_f]
        · rfl
        · rintro ⟨φ, p1, p2, p3⟩
          exact c2 (by rw [← p3]; exact p1.may hx (fun g hg => (p2 g hg).symm))
  · rintro k hk' ih I x4 hF h33 hl rfl
    refine b_X12_canLead_12 (fun c => absurd c (nI_ge hk' (by omega))) (fun _ => ?_)
    refine b_X12_canLead_18 hk (hL.a31.wr (by omega) (by decide)) (ih _ _ (hF.w hL) (by rw [z_u2_row h31ne]; exact h33) (fun g hg => ?_) (nI_1 k))
    rw [nI_clamp (by omega)]
    by_cases e : g = k
    · rw [e, z_u2_same]
    · rw [z_u2_nk e]; exact hl g (by omega)
/-- the points that are alike as seen from 0 -/
theorem m_alikeBits {x : Nat} (hd : 23 < d) (hL : MLay S m) (hM : MS S I0 m s n t) (hg : Grp n t iv) (hdg : ∀ x y, x < n → y < n → F x x = F y y) (hA : FA S I0 m n F F) (hx : x < n) : ∃ I', z_ev d i_X12_alikeBits [.ref m, .int (nI s), .int (nI x)] S I0 J (some (.int (nI (orbt n F x)))) S I' J ∧ LF2 S I0 I' m := by
  obtain ⟨d, rfl⟩ := z_dep (d := d) (by omega)
  have hk := hL.k
  have hn := hg.le
  have h31ne : m ≠ z_rv S m 31 := by rw [hL.a31.1]; omega
  have h0ne : z_rv S m 0 ≠ m ∧ z_rv S m 0 ≠ z_rv S m 31 := by rw [hL.a0.1, hL.a31.1]; omega
  have lms : ∀ I, LF2 S I0 I m → MS S I m s n t := fun I h => hM.fr (h.1 _ h0ne.1 h0ne.2)
  refine aQ.ex (w_X12_alikeBits (b_X12_alikeBits_0 ?_))
  suffices H : ∀ y, y ≤ n → ∀ I x3 x4, LF2 S I0 I m → x3 = nI (zset n (fun z => z < y ∧ ∃ φ, S0 n F φ ∧ φ x = z)) → x4 = nI y → Go d i_X12_alikeBits 5 [.ref m, .int (nI s), .int (nI x), .int x3, .int x4] [] S I J (aQ S J (nI (orbt n F x)) (fun I' => LF2 S I0 I' m)) by
    refine H 0 (by omega) I0 _ _ LF2.refl ?_ rfl
    rw [zset_none (fun i _ ⟨q, _⟩ => by omega)]; rfl
  refine z_up_to n ?_ ?_
  · rintro I x3 x4 hF rfl rfl
    refine b_X12_alikeBits_5 hk ⟨_, _, _, _, m_many (by omega) (lms I hF), ?_⟩
    refine b_X12_alikeBits_12 (fun _ => b_X12_alikeBits_98 ⟨z_someI (congrArg nI ?_), rfl, rfl, hF⟩) (fun c => absurd (nI_le (Nat.le_refl _) (by omega)) c)
    exact zset_congr (fun i hi => ⟨fun q => q.2, fun q => ⟨hi, q⟩⟩)
  · rintro y hy ih I x3 x4 hF rfl rfl
    refine b_X12_alikeBits_5 hk ⟨_, _, _, _, m_many (by omega) (lms I hF), ?_⟩
    refine b_X12_alikeBits_12 (fun c => absurd c (nI_ge hy (by omega))) (fun _ => ?_)
    obtain ⟨I1, hI1⟩ : ∃ I1, I1 = z_u2 I (z_rv S m 31) 0 0 := ⟨_, rfl⟩
    have hF1 : LF2 S I0 I1 m := by rw [hI1]; exact hF.w hL
    -- y is none of them
    have skipz : (∀ φ, S0 n F φ → φ x = y → False) → nI (zset n (fun z => z < y ∧ ∃ φ, S0 n F φ ∧ φ x = z)) = nI (zset n (fun z => z < y + 1 ∧ ∃ φ, S0 n F φ ∧ φ x = z)) := fun hno => congrArg nI (zset_congr (fun i _ => ⟨fun q => ⟨by omega, q.2⟩, fun q => ⟨by
      obtain ⟨q1, φ, q2, q3⟩ := q
      by_cases e : i = y
      · exact absurd (hno φ q2 (by rw [q3, e])) id
      · omega, q.2⟩⟩))
    have cont : (∀ φ, S0 n F φ → φ x = y → False) → Go d i_X12_alikeBits 44 [.ref m, .int (nI s), .int (nI x), .int (nI (zset n (fun z => z < y ∧ ∃ φ, S0 n F φ ∧ φ x = z))), .int (nI y)] [] S I1 J (aQ S J (nI (orbt n F x)) (fun I' => LF2 S I0 I' m)) := fun hno => b_X12_alikeBits_44 (ih I1 _ _ hF1 (skipz hno) (nI_1 y))
    have go : (x = 0 ↔ y = 0) → Go d i_X12_alikeBits 47 [.ref m, .int (nI s), .int (nI x), .int (nI (zset n (fun z => z < y ∧ ∃ φ, S0 n F φ ∧ φ x = z))), .int (nI y)] [] S I1 J (aQ S J (nI (orbt n F x)) (fun I' => LF2 S I0 I' m)) := by
      intro hxy
      have himg0 : img n (fun _ => 0) 1 ||| 2 ^ y = 1 ||| 2 ^ y := by
        have : img n (fun _ => 0) 1 = 2 ^ 0 := (zset_eq (z_pw hg.pos) (fun i hi => by
          rw [b_pow]
          exact ⟨fun e => ⟨0, by decide, e.symm⟩, fun ⟨_, _, e⟩ => e.symm⟩)).symm
        rw [this]
      obtain ⟨I2, hI2⟩ : ∃ I2, I2 = z_u2 (z_u2 (z_u2 I1 m 34 (nI x)) m 35 (nI y)) m 33 (nI (img n (fun _ => 0) 1 ||| 2 ^ y)) := ⟨_, rfl⟩
      have e33 : (1 : Int32) ||| (1 <<< (nI y &&& 31)) = nI (img n (fun _ => 0) 1 ||| 2 ^ y) := by
        rw [z_shl1 (by omega), himg0]
        exact z_or 1 (2 ^ y)
      have hF2 : LF2 S I0 I2 m := by rw [hI2]; exact ((hF1.f (Or.inr (Or.inl rfl))).f (Or.inr (Or.inr rfl))).f (Or.inl rfl)
      refine b_X12_alikeBits_47 hk hk hk hk ?_
      rw [e33, ← hI2]
      refine ⟨_, _, _, _, m_many (by omega) (lms I2 hF2), ?_⟩
      have hrec := m_goesPinned (S := S) (J := J) (F := F) (F' := F) (p := x) (p' := y) hL hn hdg hx hy n d 1 (fun _ => 0) I2 (by omega) (by omega) hg.pos (hF2.fa hL hA) (fun g hg => by
        rw [hI2, z_u2_row (fun e => h31ne e.symm), z_u2_row (fun e => h31ne e.symm), z_u2_row (fun e => h31ne e.symm), hI1, show g = 0 by omega, z_u2_same]; rfl) ⟨fun g _ => hg.pos, fun g h _ _ _ => by omega, fun g h _ _ => by rw [show g = 0 by omega, show h = 0 by omega]⟩ (by rw [hI2, z_u2_same]) (by rw [hI2, z_u2_nk (by decide), z_u2_nk (by decide), z_u2_same]) (by rw [hI2, z_u2_nk (by decide), z_u2_same]) (fun q => (hxy.mp (by omega)).symm) (fun q g hg e => by
        have := hxy.mpr e.symm
        omega)
      refine b_X12_alikeBits_76 hk (hrec.mono ?_)
      rintro v S1 I3 J1 ⟨r, rfl, rfl, rfl, u1, u2, u3, u4⟩
      have hF3 : LF2 S1 I0 I3 m := hF2.trans u1.lf2
      cases r with
      | false =>
        refine b_X12_alikeBits_79 (fun _ => b_X12_alikeBits_89 (ih I3 _ _ hF3 ?_ (nI_1 y))) (fun c => absurd rfl c)
        rw [z_lit 0, z_or, Nat.or_zero]
        exact skipz (fun φ p1 p2 => (u4 rfl).1 φ p1.1 (fun g hg => by rw [show g = 0 by omega, p1.2]) p2)
      | true =>
        refine b_X12_alikeBits_79 (fun c => absurd c (by decide)) (fun _ => b_X12_alikeBits_82 (ih I3 _ _ hF3 ?_ (nI_1 y)))
        obtain ⟨φ, w1, w2, w3⟩ := u3 rfl
        rw [z_shl1 (by omega), z_or]
        refine congrArg nI (zset_add (p := fun z => z < y ∧ ∃ φ, S0 n F φ ∧ φ x = z) (q := fun z => z < y + 1 ∧ ∃ φ, S0 n F φ ∧ φ x = z) hy (fun i _ => ⟨fun q => ?_, fun q => ?_⟩)).symm
        · by_cases e : i = y
          · exact Or.inr e
          · exact Or.inl ⟨by omega, q.2⟩
        · rcases q with q | q
          · exact ⟨by omega, q.2⟩
          · exact ⟨by omega, φ, ⟨w1, (w2 0 (by decide)).symm⟩, by rw [q]; exact w3⟩
    refine b_X12_alikeBits_15 hk (hL.a31.wr (i := 0) (by decide) (by decide)) (fun c => ?_) (fun c => ?_)
    · rw [z_eq0 (by omega)] at c
      rw [show Int32.toNatClampNeg 0 = 0 from rfl, ← hI1]
      refine b_X12_alikeBits_30 (fun c2 => b_X12_alikeBits_40 (fun _ => go ?_) (fun q => absurd rfl q)) (fun c2 => b_X12_alikeBits_36 (fun q => absurd q (by decide)) (fun _ => cont (fun φ p1 p2 => ?_)))
      · rw [z_eq0 (by omega)] at c2
        omega
      · rw [z_eq0 (by omega)] at c2
        exact c (p1.1.2.2.1 x 0 hx hg.pos (by rw [p2, p1.2, c2]))
    · rw [z_eq0 (by omega)] at c
      rw [show Int32.toNatClampNeg 0 = 0 from rfl, ← hI1]
      refine b_X12_alikeBits_26 (fun c2 => b_X12_alikeBits_40 (fun q => absurd q (by decide)) (fun _ => cont (fun φ p1 p2 => ?_))) (fun c2 => b_X12_alikeBits_36 (fun _ => go ?_) (fun q => absurd rfl q))
      · rw [z_eq0 (by omega)] at c2
        rw [c, p1.2] at p2
        omega
      · rw [z_eq0 (by omega)] at c2
        omega
end M16

/-! THE CLASS: maps of groups, what the makers' images lead to -/
def Off (q h : Nat) : Prop := h < q ∨ q + 4 < h
def QLay (S : zS) (q : Nat) : Prop := z_kd S q = 4 ∧ Ar S q 5 (q + 1) 100 20 ∧ Ar S q 6 (q + 2) 100 20 ∧ Ar S q 7 (q + 3) 100 20 ∧ Ar S q 8 (q + 4) 100 20
/-- a row that is only read -/
def RD (S : zS) (I : zI) (q h n : Nat) (f : Nat → Int32) : Prop := z_isI (z_kd S h) = true ∧ n ≤ z_ln S h ∧ z_ln S h < 2 ^ 31 ∧ Off q h ∧ ∀ x, x < n → I h x = f x
def GX (S : zS) (I : zI) (q n : Nat) (t t' : Nat → Nat → Nat) (mv mv' fv tv : Nat → Int32) : Prop := QLay S q ∧ (CT S I (z_rv S q 0) n t ∧ Off q (z_rv S q 0) ∧ Off q (z_rv S (z_rv S q 0) 1)) ∧ (CT S I (z_rv S q 1) n t' ∧ Off q (z_rv S q 1) ∧ Off q (z_rv S (z_rv S q 1) 1)) ∧ RD S I q (z_rv S (z_rv S q 0) 5) n mv ∧ RD S I q (z_rv S (z_rv S q 1) 5) n mv' ∧ RD S I q (z_rv S q 2) n fv ∧ RD S I q (z_rv S q 3) n tv
def ftt (mv mv' fv tv : Nat → Int32) (x y : Nat) : Prop := mv x = mv' y ∧ fv x = tv y
section C12
variable {d q n : Nat} {t t' : Nat → Nat → Nat} {iv iv' : Nat → Nat} {mv mv' fv tv : Nat → Int32} {S : zS} {I I0 : zI} {J : zJ}
theorem RD.fr {h : Nat} {f : Nat → Int32} (hR : RD S I0 q h n f) (hF : ∀ h, Off q h → I h = I0 h) : RD S I q h n f := ⟨hR.1, hR.2.1, hR.2.2.1, hR.2.2.2.1, fun x hx => by rw [hF h hR.2.2.2.1]; exact hR.2.2.2.2 x hx⟩
theorem RD.at {h x : Nat} {f : Nat → Int32} (hR : RD S I q h n f) (hx : x < n) : (z_isI (z_kd S h) = true ∧ vp_in (nI x) (z_ln S h)) ∧ I h (nI x).toNatClampNeg = f x := by
  obtain ⟨h1, h2, h3, h4, h5⟩ := hR
  exact ⟨⟨h1, vp_in_nI (by omega) h3⟩, by rw [nI_clamp (by omega)]; exact h5 x hx⟩
theorem GX.fr (h : GX S I0 q n t t' mv mv' fv tv) (hF : ∀ h, Off q h → I h = I0 h) : GX S I q n t t' mv mv' fv tv := by
  obtain ⟨h1, ⟨a1, a2, a3⟩, ⟨b1, b2, b3⟩, h4, h5, h6, h7⟩ := h
  exact ⟨h1, ⟨a1.fr (by rw [hF _ a2]) (hF _ a3), a2, a3⟩, ⟨b1.fr (by rw [hF _ b2]) (hF _ b3), b2, b3⟩, h4.fr hF, h5.fr hF, h6.fr hF, h7.fr hF⟩
theorem c_fits {x y : Nat} (hd : 0 < d) (h : GX S I q n t t' mv mv' fv tv) (hx : x < n) (hy : y < n) : z_ev d i_X3_fits [.ref q, .int (nI x), .int (nI y)] S I J (some (.int (nI (zb (ftt mv mv' fv tv x y))))) S I J := by
  obtain ⟨d, rfl⟩ := z_dep hd
  obtain ⟨h1, ⟨a1, a2, a3⟩, ⟨b1, b2, b3⟩, h4, h5, h6, h7⟩ := h
  obtain ⟨p1, p2⟩ := h4.at hx
  obtain ⟨p3, p4⟩ := h5.at hy
  obtain ⟨p5, p6⟩ := h6.at hx
  obtain ⟨p7, p8⟩ := h7.at hy
  refine e_X3_fits (b_X3_fits_0 h1.1 a1.1 p1 h1.1 b1.1 p3 (fun c => b_X3_fits_40 z_fit0 ⟨?_, rfl, rfl, rfl⟩) (fun c => b_X3_fits_21 h1.1 p5 h1.1 p7 (fun c2 => b_X3_fits_40 z_fit0 ⟨?_, rfl, rfl, rfl⟩) (fun c2 => b_X3_fits_36 z_fit1 ⟨?_, rfl, rfl, rfl⟩)))
  · rw [p2, p4] at c
    rw [zb_f (fun r => c r.1)]; rfl
  · rw [p6, p8] at c2
    rw [zb_f (fun r => c2 r.2)]; rfl
  · rw [p2, p4] at c
    rw [p6, p8] at c2
    rw [zb_t ⟨c, c2⟩]; rfl
def spQ (S : zS) (I0 : zI) (J : zJ) (q n : Nat) (t t' : Nat → Nat → Nat) (fit : Nat → Nat → Prop) (mk mi : Nat → Nat) (hm : Nat) : zQ := fun v S' I' J' => ∃ r : Bool, v = some (.int (nI r.toNat)) ∧ S' = S ∧ J' = J ∧ (∀ h, h < q + 3 ∨ q + 4 < h → I' h = I0 h) ∧ (r = true → ∃ K im, SPR n t t' fit mk mi hm K im ∧ ∀ x, x < n → K x → I' (q + 3) x = nI (im x)) ∧ (r = false → ∀ φ, GMS n t t' fit φ → (∀ j, j < hm → φ (mk j) = mi j) → False)
theorem c_spread {mk mi : Nat → Nat} {hm : Nat} (hd : 1 < d) (hX : GX S I0 q n t t' mv mv' fv tv) (hg : Grp n t iv) (hg' : Grp n t' iv') (hm20 : hm ≤ 20) (hmk : ∀ j, j < hm → I0 (q + 1) j = nI (mk j) ∧ mk j < n) (hmi : ∀ j, j < hm → I0 (q + 2) j = nI (mi j) ∧ mi j < n) : z_wp d i_X3_spread [.ref q, .int (nI hm)] S I0 J (spQ S I0 J q n t t' (ftt mv mv' fv tv) mk mi hm) := by
  obtain ⟨d, rfl⟩ := z_dep (d := d) (by omega)
  have hn := hg.le
  have hQ := hX.1
  have hk := hQ.1
  obtain ⟨a5, a6, a7, a8⟩ := hQ.2
  have e5 := a5.1
  have e6 := a6.1
  have e7 := a7.1
  have e8 := a8.1
  obtain ⟨fit, hfit⟩ : ∃ fit, fit = ftt mv mv' fv tv := ⟨_, rfl⟩
  rw [← hfit]
  obtain ⟨good, hgood⟩ : ∃ good : (Nat → Nat) → Prop, good = fun φ => GMS n t t' fit φ ∧ ∀ j, j < hm → φ (mk j) = mi j := ⟨_, rfl⟩
  obtain ⟨GI, hGI⟩ : ∃ GI : zI → Nat → (Nat → Nat) → (Nat → Nat) → Nat → Prop, GI = fun I N qf im i => (∀ h, h < q + 3 ∨ q + 4 < h → I h = I0 h) ∧ (0 < N ∧ qf 0 = 0 ∧ im 0 = 0 ∧ i ≤ N) ∧ (∀ j, j < N → qf j < n) ∧ (∀ j j', j < j' → j' < N → qf j ≠ qf j') ∧ (∀ j, j < N → I (q + 4) j = nI (qf j)) ∧ (∀ j, j < N → I (q + 3) (qf j) = nI (im (qf j)) ∧ im (qf j) < n) ∧ (∀ j j', j < N → j' < N → im (qf j) = im (qf j') → j = j') ∧ (∀ j, j < N → qf j ≠ 0 → fit (qf j) (im (qf j))) ∧ (∀ φ, good φ → ∀ j, j < N → φ (qf j) = im (qf j)) ∧ (∀ j, j < i → ∀ m, m < hm → inq N qf (t (qf j) (mk m)) ∧ im (t (qf j) (mk m)) = t' (im (qf j)) (mi m)) := ⟨_, rfl⟩
  have c0 : Int32.toNatClampNeg 0 = 0 := rfl
  refine w_X3_spread (b_X3_spread_0 hk (a8.wr (i := 0) (by decide) (by decide)) hk (a7.wr (i := 0) (by decide) (by decide)) rfl ?_)
  rw [c0, e7, e8]
  have start : GI (z_u2 (z_u2 I0 (q + 4) 0 0) (q + 3) 0 0) 1 (fun _ => 0) (fun _ => 0) 0 := by
    rw [hGI]
    refine ⟨fun h hh => by rw [z_u2_row (by omega), z_u2_row (by omega)], ⟨by decide, rfl, rfl, by decide⟩, fun _ _ => hg.pos, fun j j' h1 h2 => by omega, fun j hj => ?_, fun j hj => ⟨?_, hg.pos⟩, fun j j' h1 h2 _ => by omega, fun j hj h0 => absurd rfl h0, fun φ hφ j hj => ?_, fun j hj => by omega⟩
    · rw [z_u2_row (by omega), show j = 0 by omega, z_u2_same]; rfl
    · rw [z_u2_same]; rfl
    · rw [hgood] at hφ
      exact hφ.1.1.z hg hg'
  -- the loop over the queue
  suffices H : ∀ c I N qf im i, n - i < c → GI I N qf im i → ∀ x2 x3 x4 x5 v6 v7 v8 v9, x2 = nI (zset n (inq N qf)) → x3 = nI (zset n (fun y => ∃ j, j < N ∧ im (qf j) = y)) → x4 = nI N → x5 = nI i → Go d i_X3_spread 24 [.ref q, .int (nI hm), .int x2, .int x3, .int x4, .int x5, v6, v7, v8, v9] [] S I J (spQ S I0 J q n t t' fit mk mi hm) by
    have z1 : (1 : Nat) = zset n (inq 1 (fun _ => 0)) := zset_eq (by have := Nat.pow_le_pow_right (show 0 < 2 by decide) hg.pos; omega) (fun i hi => by
      rw [show (1 : Nat) = 2 ^ 0 from rfl, b_pow]
      exact ⟨fun e => ⟨0, by decide, e.symm⟩, fun ⟨_, _, e⟩ => e.symm⟩)
    have z2 : (1 : Nat) = zset n (fun y => ∃ j, j < 1 ∧ (fun _ : Nat => 0) ((fun _ : Nat => 0) j) = y) := zset_eq (by have := Nat.pow_le_pow_right (show 0 < 2 by decide) hg.pos; omega) (fun i hi => by
      rw [show (1 : Nat) = 2 ^ 0 from rfl, b_pow]
      exact ⟨fun e => ⟨0, by decide, e.symm⟩, fun ⟨_, _, e⟩ => e.symm⟩)
    exact H (n + 1) _ 1 _ _ 0 (by omega) start _ _ _ _ _ _ _ _ (congrArg nI z1) (congrArg nI z2) rfl rfl
  have done : ∀ I N qf im, GI I N qf im N → ∀ x2 x3 x4 x5 v6 v7 v8 v9, Go d i_X3_spread 201 [.ref q, .int (nI hm), .int x2, .int x3, .int x4, .int x5, v6, v7, v8, v9] [] S I J (spQ S I0 J q n t t' fit mk mi hm) := by
    intro I N qf im hG x2 x3 x4 x5 v6 v7 v8 v9
    rw [hGI] at hG
    obtain ⟨g1, ⟨g2, g3, g4, _⟩, g6, g7, g8, g9, g10, g11, g12, g13⟩ := hG
    refine b_X3_spread_201 z_fit1 ⟨true, rfl, rfl, rfl, g1, fun _ => ⟨inq N qf, im, ⟨⟨⟨0, g2, g3⟩, g4, fun j hj => (hmi j hj).2⟩, ?_, ?_, ?_, ?_, ?_⟩, ?_⟩, fun r => (by cases r)⟩
    · rintro x hx ⟨j, hj, rfl⟩
      exact (g9 j hj).2
    · rintro x hx ⟨j, hj, rfl⟩ m hm'
      exact g13 j hj m hm'
    · rintro x hx y hy ⟨j, hj, rfl⟩ ⟨j', hj', rfl⟩ e
      rw [g10 j j' hj hj' e]
    · rintro x hx ⟨j, hj, rfl⟩ h0
      exact g11 j hj h0
    · rintro φ h1 h2 x hx ⟨j, hj, rfl⟩
      exact g12 φ (by rw [hgood]; exact ⟨h1, h2⟩) j hj
    · rintro x hx ⟨j, hj, rfl⟩
      exact (g9 j hj).1
  intro c
  induction c with
  | zero => intro I N qf im i hc; omega
  | succ c ihc =>
    rintro I N qf im i hc hG x2 x3 x4 x5 v6 v7 v8 v9 rfl rfl rfl rfl
    have hG' := hG
    rw [hGI] at hG'
    obtain ⟨g1, ⟨g2, g3, g4, g5⟩, g6, g7, g8, g9, g10, g11, g12, g13⟩ := hG'
    have hNn : N ≤ n := z_holes n N qf g6 g7
    have hX' : GX S I q n t t' mv mv' fv tv := hX.fr (fun h hh => g1 h (by unfold Off at hh; omega))
    have hCf := hX'.2.1.1
    refine b_X3_spread_24 (fun c1 => ?_) (fun c1 => b_X3_spread_31 hk hCf.1 (fun c2 => ?_) (fun c2 => ?_))
    · rw [nI_leI (by omega) (by omega)] at c1
      rw [show i = N by omega] at hG
      exact done I N qf im hG _ _ _ _ _ _ _ _
    · rw [hCf.2.1, nI_leI (by omega) (by omega)] at c2
      rw [show i = N by omega] at hG
      exact done I N qf im hG _ _ _ _ _ _ _ _
    · rw [nI_leI (by omega) (by omega)] at c1
      have hi : i < N := by omega
      refine b_X3_spread_43 hk (a8.rd (by omega) (by decide)) ?_
      rw [e8, nI_clamp (by omega), g8 i hi]
      have hqi := g6 i hi
      suffices H2 : ∀ m, m ≤ hm → ∀ I N qf im, GI I N qf im i → i < N → (∀ m', m' < m → inq N qf (t (qf i) (mk m')) ∧ im (t (qf i) (mk m')) = t' (im (qf i)) (mi m')) → ∀ x2 x3 x4 x6 x7 v8 v9, x2 = nI (zset n (inq N qf)) → x3 = nI (zset n (fun y => ∃ j, j < N ∧ im (qf j) = y)) → x4 = nI N → x6 = nI (qf i) → x7 = nI m → Go d i_X3_spread 55 [.ref q, .int (nI hm), .int x2, .int x3, .int x4, .int (nI i), .int x6, .int x7, v8, v9] [] S I J (spQ S I0 J q n t t' fit mk mi hm) from H2 0 (by omega) I N qf im hG hi (fun m' h => by omega) _ _ _ _ _ _ _ rfl rfl rfl rfl rfl
      refine z_up_to hm ?_ ?_
      · rintro I N qf im hG hi hp x2 x3 x4 x6 x7 v8 v9 rfl rfl rfl rfl rfl
        refine b_X3_spread_55 (fun _ => b_X3_spread_195 (ihc I N qf im (i + 1) (by omega) ?_ _ _ _ _ _ _ _ _ rfl rfl rfl (nI_1 i))) (fun c => absurd (nI_le (Nat.le_refl _) (by omega)) c)
        rw [hGI] at hG ⊢
        obtain ⟨g1, ⟨g2, g3, g4, g5⟩, g6, g7, g8, g9, g10, g11, g12, g13⟩ := hG
        refine ⟨g1, ⟨g2, g3, g4, by omega⟩, g6, g7, g8, g9, g10, g11, g12, fun j hj m hm' => ?_⟩
        by_cases e : j = i
        · rw [e]; exact hp m hm'
        · exact g13 j (by omega) m hm'
      · rintro m hm' ih2 I N qf im hG hi hp x2 x3 x4 x6 x7 v8 v9 rfl rfl rfl rfl rfl
        have hG' := hG
        rw [hGI] at hG'
        obtain ⟨g1, ⟨g2, g3, g4, g5⟩, g6, g7, g8, g9, g10, g11, g12, g13⟩ := hG'
        have hNn : N ≤ n := z_holes n N qf g6 g7
        have hX' : GX S I q n t t' mv mv' fv tv := hX.fr (fun h hh => g1 h (by unfold Off at hh; omega))
        have hqi := g6 i hi
        obtain ⟨k1, k2⟩ := hmk m hm'
        obtain ⟨i1, i2⟩ := hmi m hm'
        obtain ⟨w1, w2⟩ := g9 i hi
        have hz := hg.lt hqi k2
        have hy := hg'.lt w2 i2
        have hkl := z_lt31 hn (zset_lt n (inq N qf))
        have hul := z_lt31 hn (zset_lt n (fun y => ∃ j, j < N ∧ im (qf j) = y))
        refine b_X3_spread_55 (fun c => absurd c (nI_ge hm' (by omega))) (fun _ => ?_)
        refine b_X3_spread_61 hk hk (a5.rd (by omega) (by decide)) hX'.2.1.1.1 ⟨_, _, _, _, by rw [e5, nI_clamp (by omega), g1 _ (by omega), k1]; exact c_times (by omega) hX'.2.1.1 hqi k2, ?_⟩
        refine b_X3_spread_77 hk hk (a7.rd (by omega) (by decide)) hk (a6.rd (by omega) (by decide)) hX'.2.2.1.1.1 ⟨_, _, _, _, by rw [e6, e7, nI_clamp (by omega), nI_clamp (by omega), w1, g1 _ (by omega), i1]; exact c_times (by omega) hX'.2.2.1.1 w2 i2, ?_⟩
        -- what a good map does here
        have gz : ∀ φ, good φ → φ (t (qf i) (mk m)) = t' (im (qf i)) (mi m) := fun φ hφ => by
          have h1 := g12 φ hφ i hi
          rw [hgood] at hφ
          rw [hφ.1.1.m hqi k2, h1, hφ.2 m hm']
        refine b_X3_spread_100 (fun c1 => ?_) (fun c1 => ?_)
        · rw [z_bit0 hkl (by omega), ← Bool.not_eq_true, zset_bit] at c1
          have hnq : ¬ inq N qf (t (qf i) (mk m)) := fun r => c1 ⟨hz, r⟩
          have bad : (∀ φ, good φ → False) → ∀ x2 x3 x4 x5 x6 x7 x8 x9, Go d i_X3_spread 152 [.ref q, .int (nI hm), .int x2, .int x3, .int x4, .int x5, .int x6, .int x7, .int x8, .int x9] [] S I J (spQ S I0 J q n t t' fit mk mi hm) := fun hb x2 x3 x4 x5 x6 x7 x8 x9 => b_X3_spread_152 z_fit0 ⟨false, rfl, rfl, rfl, g1, fun r => (by cases r), fun _ φ h1 h2 => hb φ (by rw [hgood]; exact ⟨h1, h2⟩)⟩
          have hlt : N < n := by
            rcases Nat.lt_or_ge N n with r | r
            · exact r
            · have := z_holes n (N + 1) (zput qf N (t (qf i) (mk m))) (fun j hj => by
                by_cases e : j = N
                · rw [e, zput_s]; exact hz
                · rw [zput_n e]; exact g6 j (by omega)) (fun j j' h1 h2 => by
                by_cases e : j' = N
                · rw [e, zput_s, zput_n (by omega)]; exact fun e2 => hnq ⟨j, by omega, e2⟩
                · rw [zput_n e, zput_n (by omega)]; exact g7 j j' h1 (by omega))
              omega
          refine b_X3_spread_125 (fun c2 => bad (fun φ hφ => ?_) _ _ _ _ _ _ _ _) (fun c2 => ?_)
          · rw [z_bit0 hul (by omega), Bool.not_eq_false, zset_bit] at c2
            obtain ⟨_, j, r1, r2⟩ := c2
            have h1 := g12 φ hφ j r1
            have h2 := gz φ hφ
            have hφ' := hφ
            rw [hgood] at hφ'
            exact hnq ⟨j, r1, hφ'.1.1.inj (g6 j r1) hz (by rw [h1, h2, r2])⟩
          · rw [z_bit0 hul (by omega), ← Bool.not_eq_true, zset_bit] at c2
            refine b_X3_spread_134 hk ⟨_, _, _, _, c_fits (by omega) hX' hz hy, ?_⟩
            have hz0 : t (qf i) (mk m) ≠ 0 := fun e => hnq ⟨0, g2, by rw [e]; exact g3⟩
            refine b_X3_spread_142 (fun c3 => bad (fun φ hφ => ?_) _ _ _ _ _ _ _ _) (fun c3 => b_X3_spread_145 (fun _ => ?_) (fun c4 => absurd (nI_lt (a := N) (b := 20) (by omega) (by decide)) c4))
            · rw [zb_0] at c3
              have h2 := gz φ hφ
              rw [hgood] at hφ
              have h3 := hφ.1.2 _ hz hz0
              rw [h2, hfit] at h3
              exact c3 h3
            · rw [zb_1] at c3
              refine b_X3_spread_154 hk (a7.wr (by omega) (by decide)) hk (a8.wr (by omega) (by decide)) ?_
              rw [e7, e8, nI_clamp (by omega), nI_clamp (by omega), z_shl1 (by omega), z_or, z_shl1 (by omega), z_or, nI_1, nI_1]
              obtain ⟨z, ez⟩ : ∃ z, z = t (qf i) (mk m) := ⟨_, rfl⟩
              obtain ⟨y, ey⟩ : ∃ y, y = t' (im (qf i)) (mi m) := ⟨_, rfl⟩
              rw [← ez] at hz hnq hz0 c3 ⊢
              rw [← ey] at hy c2 c3 ⊢
              have hq1 : ∀ j, j < N → zput qf N z j = qf j := fun j hj => zput_n (by omega)
              have hqz : ∀ j, j < N → qf j ≠ z := fun j hj e => hnq ⟨j, hj, e⟩
              have hi1 : ∀ j, j < N → zput im z y (qf j) = im (qf j) := fun j hj => zput_n (hqz j hj)
              refine ih2 _ (N + 1) (zput qf N z) (zput im z y) ?_ (by omega) (fun m' hm2 => ?_) _ _ _ _ _ _ _ (congrArg nI ?_) (congrArg nI ?_) rfl (by rw [hq1 i hi]) rfl
              · rw [hGI]
                refine ⟨fun h hh => by rw [z_u2_row (by omega), z_u2_row (by omega)]; exact g1 h hh, ⟨by omega, by rw [hq1 0 g2]; exact g3, by rw [zput_n (fun e => hz0 e.symm)]; exact g4, by omega⟩, fun j hj => ?_, fun j j' h1 h2 => ?_, fun j hj => ?_, fun j hj => ?_, fun j j' h1 h2 e => ?_, fun j hj h0 => ?_, fun φ hφ j hj => ?_, fun j hj m2 hm2 => ?_⟩
                · by_cases e : j = N
                  · rw [e, zput_s]; exact hz
                  · rw [hq1 j (by omega)]; exact g6 j (by omega)
                · by_cases e : j' = N
                  · rw [e, zput_s, hq1 j (by omega)]; exact hqz j (by omega)
                  · rw [hq1 j (by omega), hq1 j' (by omega)]; exact g7 j j' h1 (by omega)
                · by_cases e : j = N
                  · rw [e, zput_s, z_u2_same]
                  · rw [z_u2_nk e, z_u2_row (by omega), hq1 j (by omega)]; exact g8 j (by omega)
                · rw [z_u2_row (by omega)]
                  by_cases e : j = N
                  · rw [e, zput_s, zput_s, z_u2_same]; exact ⟨rfl, hy⟩
                  · rw [hq1 j (by omega), hi1 j (by omega), z_u2_nk (hqz j (by omega))]; exact g9 j (by omega)
                · by_cases e1 : j = N
                  · by_cases e2 : j' = N
                    · omega
                    · rw [e1, zput_s, zput_s, hq1 j' (by omega), hi1 j' (by omega)] at e
                      exact absurd ⟨hy, j', by omega, e.symm⟩ c2
                  · by_cases e2 : j' = N
                    · rw [e2, zput_s, zput_s, hq1 j (by omega), hi1 j (by omega)] at e
                      exact absurd ⟨hy, j, by omega, e⟩ c2
                    · rw [hq1 j (by omega), hi1 j (by omega), hq1 j' (by omega), hi1 j' (by omega)] at e
                      exact g10 j j' (by omega) (by omega) e
                · by_cases e : j = N
                  · rw [e, zput_s, zput_s, hfit]; exact c3
                  · rw [hq1 j (by omega)] at h0 ⊢
                    rw [hi1 j (by omega)]; exact g11 j (by omega) h0
                · by_cases e : j = N
                  · rw [e, zput_s, zput_s, ez, ey]; exact gz φ hφ
                  · rw [hq1 j (by omega), hi1 j (by omega)]; exact g12 φ hφ j (by omega)
                · rw [hq1 j (by omega), hi1 j (by omega), inq_put]
                  obtain ⟨r1, r2⟩ := g13 j hj m2 hm2
                  obtain ⟨j2, r3, r4⟩ := r1
                  refine ⟨Or.inl ⟨j2, r3, r4⟩, ?_⟩
                  rw [← r4, hi1 j2 r3, r4]; exact r2
              · rw [hq1 i hi, hi1 i hi, inq_put]
                by_cases e : m' = m
                · rw [e, ← ez, zput_s, ey]; exact ⟨Or.inr rfl, rfl⟩
                · obtain ⟨r1, r2⟩ := hp m' (by omega)
                  obtain ⟨j2, r3, r4⟩ := r1
                  refine ⟨Or.inl ⟨j2, r3, r4⟩, ?_⟩
                  rw [← r4, hi1 j2 r3, r4]; exact r2
              · exact (zset_add (p := inq N qf) (q := inq (N + 1) (zput qf N z)) hz (fun j _ => inq_put)).symm
              · refine (zset_add (p := fun y' => ∃ j, j < N ∧ im (qf j) = y') (q := fun y' => ∃ j, j < N + 1 ∧ zput im z y (zput qf N z j) = y') hy (fun j _ => ⟨?_, ?_⟩)).symm
                · rintro ⟨j2, r1, r2⟩
                  by_cases e : j2 = N
                  · rw [e, zput_s, zput_s] at r2; exact Or.inr r2.symm
                  · rw [hq1 j2 (by omega), hi1 j2 (by omega)] at r2; exact Or.inl ⟨j2, by omega, r2⟩
                · rintro (⟨j2, r1, r2⟩ | r)
                  · exact ⟨j2, by omega, by rw [hq1 j2 r1, hi1 j2 r1]; exact r2⟩
                  · exact ⟨N, by omega, by rw [zput_s, zput_s]; exact r.symm⟩
        · rw [z_bit0 hkl (by omega), Bool.not_eq_false, zset_bit] at c1
          obtain ⟨_, j, r1, r2⟩ := c1
          obtain ⟨w3, w4⟩ := g9 j r1
          rw [r2] at w3 w4
          refine b_X3_spread_111 hk (a7.rd (by omega) (by decide)) (fun c2 => b_X3_spread_189 (ih2 I N qf im hG hi (fun m' hm2 => ?_) _ _ _ _ _ _ _ rfl rfl rfl rfl (nI_1 m))) (fun c2 => b_X3_spread_123 z_fit0 ⟨false, rfl, rfl, rfl, g1, fun r => (by cases r), fun _ φ h1 h2 => c2 ?_⟩)
          · rw [e7, nI_clamp (by omega), w3, nI_eq (by omega) (by omega)] at c2
            by_cases e : m' = m
            · rw [e]; exact ⟨⟨j, r1, r2⟩, c2⟩
            · exact hp m' (by omega)
          · have hgφ : good φ := by rw [hgood]; exact ⟨h1, h2⟩
            rw [e7, nI_clamp (by omega), w3, ← gz φ hgφ, ← r2, g12 φ hgφ j r1]
end C12

/-! THE CLASS: maps of groups, the search -/
section C13
variable {d q n M : Nat} {t t' : Nat → Nat → Nat} {iv iv' : Nat → Nat} {mv mv' fv tv : Nat → Int32} {mk mi : Nat → Nat} {S : zS} {I I0 : zI} {J : zJ}
def tiQ (S : zS) (I0 : zI) (J : zJ) (q n : Nat) (t t' : Nat → Nat → Nat) (fit : Nat → Nat → Prop) (mk mi : Nat → Nat) (l y : Nat) : zQ := fun v S' I' J' => ∃ r : Bool, v = some (.int (nI r.toNat)) ∧ S' = S ∧ J' = J ∧ (∀ h, h < q + 2 ∨ q + 4 < h → I' h = I0 h) ∧ (∀ j, j < l → I' (q + 2) j = I0 (q + 2) j) ∧ I' (q + 2) l = nI y ∧ (r = true → ∃ K im, SPR n t t' fit mk (zput mi l y) (l + 1) K im ∧ ∀ x, x < n → K x → I' (q + 3) x = nI (im x)) ∧ (r = false → ∀ φ, GMS n t t' fit φ → (∀ j, j < l → φ (mk j) = mi j) → φ (mk l) = y → False)
theorem c_tryImage {l y : Nat} (hd : 2 < d) (hX : GX S I0 q n t t' mv mv' fv tv) (hg : Grp n t iv) (hg' : Grp n t' iv') (hM : M ≤ 20) (hmk : ∀ j, j < M → I0 (q + 1) j = nI (mk j) ∧ mk j < n ∧ mk j ≠ 0) (hl : l < M) (hmi : ∀ j, j < l → I0 (q + 2) j = nI (mi j) ∧ mi j < n) (hy : y < n) : z_wp d i_X3_tryImage [.ref q, .int (nI l), .int (nI y)] S I0 J (tiQ S I0 J q n t t' (ftt mv mv' fv tv) mk mi l y) := by
  obtain ⟨d, rfl⟩ := z_dep (d := d) (by omega)
  have hQ := hX.1
  have hk := hQ.1
  obtain ⟨a5, a6, a7, a8⟩ := hQ.2
  have e5 := a5.1
  have e6 := a6.1
  have hn := hg.le
  obtain ⟨I1, hI1⟩ : ∃ I1, I1 = z_u2 I0 (q + 2) l (nI y) := ⟨_, rfl⟩
  have f1 : ∀ h, h ≠ q + 2 → I1 h = I0 h := fun h hh => by rw [hI1, z_u2_row hh]
  have hX1 : GX S I1 q n t t' mv mv' fv tv := hX.fr (fun h hh => f1 h (by unfold Off at hh; omega))
  obtain ⟨k1, k2, k3⟩ := hmk l hl
  refine w_X3_tryImage (b_X3_tryImage_0 hk (a6.wr (by omega) (by decide)) hk (a5.rd (by omega) (by decide)) hk ?_)
  rw [e5, e6, nI_clamp (by omega), ← hI1, f1 _ (by omega), k1]
  refine ⟨_, _, _, _, c_fits (by omega) hX1 k2 hy, ?_⟩
  have i0 : ∀ j, j < l → I1 (q + 2) j = I0 (q + 2) j := fun j hj => by rw [hI1, z_u2_nk (by omega)]
  have i1 : I1 (q + 2) l = nI y := by rw [hI1, z_u2_same]
  refine b_X3_tryImage_18 (fun c => b_X3_tryImage_35 z_fit0 ⟨false, rfl, rfl, rfl, fun h hh => f1 h (by omega), i0, i1, fun r => (by cases r), fun _ φ h1 h2 h3 => ?_⟩) (fun c => ?_)
  · rw [zb_0] at c
    have := h1.2 _ k2 k3
    rw [h3] at this
    exact c this
  · have hsp := c_spread (d := d) (J := J) (hm := l + 1) (mk := mk) (mi := zput mi l y) (by omega) hX1 hg hg' (by omega) (fun j hj => by rw [f1 _ (by omega)]; exact ⟨(hmk j (by omega)).1, (hmk j (by omega)).2.1⟩) (fun j hj => by
      by_cases e : j = l
      · rw [e, zput_s]; exact ⟨i1, hy⟩
      · rw [zput_n e, i0 j (by omega)]; exact hmi j (by omega))
    refine b_X3_tryImage_21 hk ?_
    rw [nI_1]
    refine hsp.mono ?_
    rintro v S' I2 J' ⟨r, rfl, rfl, rfl, p1, p2, p3⟩
    have fr2 : ∀ h, h < q + 2 ∨ q + 4 < h → I2 h = I0 h := fun h hh => by rw [p1 h (by omega), f1 h (by omega)]
    have i02 : ∀ j, j < l → I2 (q + 2) j = I0 (q + 2) j := fun j hj => by rw [p1 _ (by omega)]; exact i0 j hj
    have i12 : I2 (q + 2) l = nI y := by rw [p1 _ (by omega)]; exact i1
    cases r with
    | false =>
      refine b_X3_tryImage_28 (fun _ => b_X3_tryImage_35 z_fit0 ⟨false, rfl, rfl, rfl, fr2, i02, i12, fun r => (by cases r), fun _ φ h1 h2 h3 => p3 rfl φ h1 (fun j hj => ?_)⟩) (fun c => absurd rfl c)
      by_cases e : j = l
      · rw [e, zput_s]; exact h3
      · rw [zput_n e]; exact h2 j (by omega)
    | true => exact b_X3_tryImage_28 (fun c => absurd c (by decide)) (fun _ => b_X3_tryImage_31 z_fit1 ⟨true, rfl, rfl, rfl, fr2, i02, i12, p2, fun r => (by cases r)⟩)
def cpQ (S : zS) (I0 : zI) (J : zJ) (q n : Nat) (t t' : Nat → Nat → Nat) (fit : Nat → Nat → Prop) (mk mi : Nat → Nat) (M l : Nat) : zQ := fun v S' I' J' => ∃ r : Bool, v = some (.int (nI r.toNat)) ∧ S' = S ∧ J' = J ∧ (∀ h, h < q + 2 ∨ q + 4 < h → I' h = I0 h) ∧ (∀ j, j < l → I' (q + 2) j = I0 (q + 2) j) ∧ (r = true → ∃ φ, LexK n t t' fit mk mi M l φ ∧ ∀ x, x < n → I' (q + 3) x = nI (φ x)) ∧ (r = false → ∀ φ, GMS n t t' fit φ → (∀ j, j < l → φ (mk j) = mi j) → False)
theorem c_complete (hg : Grp n t iv) (hg' : Grp n t' iv') (hM : M ≤ 20) (hMk : Mkr n t M mk) : ∀ c d l mi I0, M ≤ l + c → c + 2 < d → l ≤ M → GX S I0 q n t t' mv mv' fv tv → I0 q 4 = nI M → (∀ j, j < M → I0 (q + 1) j = nI (mk j)) → (∀ j, j < l → I0 (q + 2) j = nI (mi j) ∧ mi j < n) → (∃ K im, SPR n t t' (ftt mv mv' fv tv) mk mi l K im ∧ ∀ x, x < n → K x → I0 (q + 3) x = nI (im x)) → z_wp d i_X3_complete [.ref q, .int (nI l)] S I0 J (cpQ S I0 J q n t t' (ftt mv mv' fv tv) mk mi M l) := by
  intro c
  induction c with
  | zero =>
    intro d l mi I0 h1 hd hl hX h4 hmk hmi hS
    obtain ⟨d, rfl⟩ := z_dep (d := d) (by omega)
    have e : l = M := by omega
    subst e
    obtain ⟨K, im, s1, s2⟩ := hS
    have hgm := s1.gm hg hg' hMk
    refine w_X3_complete (b_X3_complete_0 hX.1.1 (fun _ => b_X3_complete_14 z_fit1 ⟨true, rfl, rfl, rfl, fun _ _ => rfl, fun _ _ => rfl, fun _ => ⟨rowm n im, ⟨⟨hgm, fun j hj => ?_⟩, fun ψ h1 h2 => Or.inl (fun j hj => ?_)⟩, fun x hx => ?_⟩, fun r => (by cases r)⟩) (fun c => absurd (by rw [h4]; exact nI_le (Nat.le_refl _) (by omega)) c))
    · have hm := (hMk.1 j hj).1
      have := (s1.2.2.1 0 hg.pos s1.1.1 j hj).2
      rw [hg.l0 hm, s1.1.2.1, hg'.l0 (s1.1.2.2 j hj)] at this
      rw [rowm_in hm]; exact this
    · have hm := (hMk.1 j hj).1
      rw [rowm_in hm, s1.2.2.2.2.2 ψ h1 h2 _ hm (s1.all hg hMk _ hm)]
    · rw [rowm_in hx]; exact s2 x hx (s1.all hg hMk x hx)
  | succ c ihc =>
    intro d l mi I0 h1 hd hl hX h4 hmk hmi hS
    by_cases el : l = M
    · exact (fun hh => hh) (by
        obtain ⟨d, rfl⟩ := z_dep (d := d) (by omega)
        subst el
        obtain ⟨K, im, s1, s2⟩ := hS
        have hgm := s1.gm hg hg' hMk
        refine w_X3_complete (b_X3_complete_0 hX.1.1 (fun _ => b_X3_complete_14 z_fit1 ⟨true, rfl, rfl, rfl, fun _ _ => rfl, fun _ _ => rfl, fun _ => ⟨rowm n im, ⟨⟨hgm, fun j hj => ?_⟩, fun ψ h1 h2 => Or.inl (fun j hj => ?_)⟩, fun x hx => ?_⟩, fun r => (by cases r)⟩) (fun c => absurd (by rw [h4]; exact nI_le (Nat.le_refl _) (by omega)) c))
        · have hm := (hMk.1 j hj).1
          have := (s1.2.2.1 0 hg.pos s1.1.1 j hj).2
          rw [hg.l0 hm, s1.1.2.1, hg'.l0 (s1.1.2.2 j hj)] at this
          rw [rowm_in hm]; exact this
        · have hm := (hMk.1 j hj).1
          rw [rowm_in hm, s1.2.2.2.2.2 ψ h1 h2 _ hm (s1.all hg hMk _ hm)]
        · rw [rowm_in hx]; exact s2 x hx (s1.all hg hMk x hx))
    obtain ⟨d, rfl⟩ := z_dep (d := d) (by omega)
    have hlM : l < M := by omega
    have hk := hX.1.1
    have hn := hg.le
    obtain ⟨fit, hfit⟩ : ∃ fit, fit = ftt mv mv' fv tv := ⟨_, rfl⟩
    rw [← hfit]
    refine w_X3_complete (b_X3_complete_0 hk (fun c => absurd c (by rw [h4]; exact nI_ge hlM (by omega))) (fun _ => b_X3_complete_8 (fun _ => b_X3_complete_16 ?_) (fun c => absurd (nI_lt (a := l) (b := 20) (by omega) (by decide)) c)))
    have hmk0 := hMk.1 l hlM
    suffices H : ∀ y, y ≤ n → 1 ≤ y → ∀ I x2, (∀ h, h < q + 2 ∨ q + 4 < h → I h = I0 h) → (∀ j, j < l → I (q + 2) j = I0 (q + 2) j) → (∀ φ, GMS n t t' fit φ → (∀ j, j < l → φ (mk j) = mi j) → φ (mk l) < y → False) → x2 = nI y → Go d i_X3_complete 18 [.ref q, .int (nI l), .int x2] [] S I J (cpQ S I0 J q n t t' fit mk mi M l) from H 1 hg.pos (Nat.le_refl _) I0 _ (fun _ _ => rfl) (fun _ _ => rfl) (fun φ h1 _ h3 => hmk0.2 (h1.1.inj hmk0.1 hg.pos (by rw [h1.1.z hg hg']; omega))) rfl
    refine z_up_to n ?_ ?_
    · rintro _ I x2 hF hF2 hno rfl
      have hX' : GX S I q n t t' mv mv' fv tv := hX.fr (fun h hh => hF h (by unfold Off at hh; omega))
      exact b_X3_complete_18 hk hX'.2.2.1.1.1 (fun _ => b_X3_complete_56 z_fit0 ⟨false, rfl, rfl, rfl, hF, hF2, fun r => (by cases r), fun _ φ h1 h2 => hno φ h1 h2 (h1.1.lt hmk0.1)⟩) (fun c => absurd hX'.2.2.1.1.ge c)
    · rintro y hy ih hy1 I x2 hF hF2 hno rfl
      have hX' : GX S I q n t t' mv mv' fv tv := hX.fr (fun h hh => hF h (by unfold Off at hh; omega))
      refine b_X3_complete_18 hk hX'.2.2.1.1.1 (fun c => absurd c (hX'.2.2.1.1.nge hy)) (fun _ => ?_)
      have hti := c_tryImage (d := d) (J := J) (mi := mi) (by omega) hX' hg hg' hM (fun j hj => ⟨by rw [hF _ (by omega)]; exact hmk j hj, (hMk.1 j hj).1, (hMk.1 j hj).2⟩) hlM (fun j hj => by rw [hF2 j hj]; exact hmi j hj) hy
      refine b_X3_complete_29 hk (hti.mono ?_)
      rintro v S' I2 J' ⟨r, rfl, rfl, rfl, p1, p2, p3, p4, p5⟩
      rw [← hfit] at p4 p5
      have fr2 : ∀ h, h < q + 2 ∨ q + 4 < h → I2 h = I0 h := fun h hh => by rw [p1 h hh]; exact hF h hh
      have fr3 : ∀ j, j < l → I2 (q + 2) j = I0 (q + 2) j := fun j hj => by rw [p2 j hj]; exact hF2 j hj
      cases r with
      | false =>
        refine b_X3_complete_35 (fun _ => b_X3_complete_50 (ih (by omega) I2 _ fr2 fr3 (fun φ h1 h2 h3 => ?_) (nI_1 y))) (fun c => absurd rfl c)
        by_cases e : φ (mk l) = y
        · exact p5 rfl φ h1 h2 e
        · exact hno φ h1 h2 (by omega)
      | true =>
        refine b_X3_complete_35 (fun c => absurd c (by decide)) (fun _ => ?_)
        have hX2 : GX S' I2 q n t t' mv mv' fv tv := hX.fr (fun h hh => fr2 h (by unfold Off at hh; omega))
        have hrec := ihc d (l + 1) (zput mi l y) I2 (by omega) (by omega) (by omega) hX2 (by rw [fr2 q (by omega)]; exact h4) (fun j hj => by rw [fr2 _ (by omega)]; exact hmk j hj) (fun j hj => by
          by_cases e : j = l
          · rw [e, zput_s]; exact ⟨p3, hy⟩
          · rw [zput_n e, fr3 j (by omega)]; exact hmi j (by omega)) (by rw [← hfit]; exact p4 rfl)
        rw [← hfit] at hrec
        refine b_X3_complete_38 hk ?_
        rw [nI_1]
        refine hrec.mono ?_
        rintro v S1 I3 J1 ⟨r, rfl, rfl, rfl, u1, u2, u3, u4⟩
        have fr4 : ∀ h, h < q + 2 ∨ q + 4 < h → I3 h = I0 h := fun h hh => by rw [u1 h hh]; exact fr2 h hh
        have fr5 : ∀ j, j < l → I3 (q + 2) j = I0 (q + 2) j := fun j hj => by rw [u2 j (by omega)]; exact fr3 j hj
        have cond : ∀ φ : Nat → Nat, (∀ j, j < l → φ (mk j) = mi j) → φ (mk l) = y → ∀ j, j < l + 1 → φ (mk j) = zput mi l y j := fun φ h2 h3 j hj => by
          by_cases e : j = l
          · rw [e, zput_s]; exact h3
          · rw [zput_n e]; exact h2 j (by omega)
        cases r with
        | false =>
          refine b_X3_complete_45 (fun _ => b_X3_complete_50 (ih (by omega) I3 _ fr4 fr5 (fun φ h1 h2 h3 => ?_) (nI_1 y))) (fun c => absurd rfl c)
          by_cases e : φ (mk l) = y
          · exact u4 rfl φ h1 (cond φ h2 e)
          · exact hno φ h1 h2 (by omega)
        | true =>
          refine b_X3_complete_45 (fun c => absurd c (by decide)) (fun _ => b_X3_complete_48 z_fit1 ⟨true, rfl, rfl, rfl, fr4, fr5, fun _ => ?_, fun r => (by cases r)⟩)
          obtain ⟨φ, ⟨⟨w1, w2⟩, w3⟩, w4⟩ := u3 rfl
          have w5 : ∀ j, j < l → φ (mk j) = mi j := fun j hj => by rw [w2 j (by omega), zput_n (by omega)]
          have w6 : φ (mk l) = y := by rw [w2 l (by omega), zput_s]
          refine ⟨φ, ⟨⟨w1, w5⟩, fun ψ h1 h2 => ?_⟩, w4⟩
          rcases Nat.lt_trichotomy (ψ (mk l)) y with r | r | r
          · exact absurd (hno ψ h1 h2 r) id
          · exact w3 ψ h1 (cond ψ h2 r)
          · exact Or.inr ⟨l, hlM, fun j hj => by rw [w5 j hj, h2 j hj], by rw [w6]; exact r⟩
/-! the makers -/
def setR4 (S : zS) (q g g' fs ts : Nat) : zS := z_setR (z_setR (z_setR (z_setR S q 0 g) q 1 g') q 2 fs) q 3 ts
theorem setR4_ne {g g' fs ts h : Nat} (hh : h ≠ q) : z_rv (setR4 S q g g' fs ts) h = z_rv S h := by
  funext j
  unfold setR4
  rw [z_rv_setR, if_neg hh, z_rv_setR, if_neg hh, z_rv_setR, if_neg hh, z_rv_setR, if_neg hh]
theorem setR4_k {g g' fs ts k : Nat} (hk : 4 ≤ k) : z_rv (setR4 S q g g' fs ts) q k = z_rv S q k := by
  unfold setR4
  rw [z_rv_setR, if_pos rfl, if_neg (by omega), z_rv_setR, if_pos rfl, if_neg (by omega), z_rv_setR, if_pos rfl, if_neg (by omega), z_rv_setR, if_pos rfl, if_neg (by omega)]
theorem setR4_v {g g' fs ts : Nat} : z_rv (setR4 S q g g' fs ts) q 0 = g ∧ z_rv (setR4 S q g g' fs ts) q 1 = g' ∧ z_rv (setR4 S q g g' fs ts) q 2 = fs ∧ z_rv (setR4 S q g g' fs ts) q 3 = ts := by
  unfold setR4
  refine ⟨?_, ?_, ?_, ?_⟩
  · rw [z_rv_setR, if_pos rfl, if_neg (by decide), z_rv_setR, if_pos rfl, if_neg (by decide), z_rv_setR, if_pos rfl, if_neg (by decide), z_rv_setR, if_pos rfl, if_pos rfl]
  · rw [z_rv_setR, if_pos rfl, if_neg (by decide), z_rv_setR, if_pos rfl, if_neg (by decide), z_rv_setR, if_pos rfl, if_pos rfl]
  · rw [z_rv_setR, if_pos rfl, if_neg (by decide), z_rv_setR, if_pos rfl, if_pos rfl]
  · rw [z_rv_setR, if_pos rfl, if_pos rfl]
theorem setR4_kd {g g' fs ts h : Nat} : z_kd (setR4 S q g g' fs ts) h = z_kd S h ∧ z_ln (setR4 S q g g' fs ts) h = z_ln S h ∧ z_sz (setR4 S q g g' fs ts) = z_sz S := ⟨rfl, rfl, rfl⟩
theorem QLay.set {g g' fs ts : Nat} (h : QLay S q) : QLay (setR4 S q g g' fs ts) q := by
  obtain ⟨h1, h2, h3, h4, h5⟩ := h
  refine ⟨h1, ⟨by rw [setR4_k (by decide)]; exact h2.1, h2.2⟩, ⟨by rw [setR4_k (by decide)]; exact h3.1, h3.2⟩, ⟨by rw [setR4_k (by decide)]; exact h4.1, h4.2⟩, ⟨by rw [setR4_k (by decide)]; exact h5.1, h5.2⟩⟩
theorem CT.set {g g' fs ts h : Nat} (hC : CT S I h n t) (hh : h ≠ q) : CT (setR4 S q g g' fs ts) I h n t := by
  obtain ⟨h1, h2, h3, h4, h5, h6⟩ := hC
  rw [CT, setR4_ne hh]
  exact ⟨h1, h2, h3, h4, h5, h6⟩
theorem c_begin {g g' fs ts : Nat} (hd : 3 < d) (hQ : QLay S q) (hC : CT S I0 g n t) (ho : Off q g) (ho1 : Off q (z_rv S g 1)) (hg : Grp n t iv) : ∃ I' M mk, z_ev d i_X3_begin [.ref q, .ref g, .ref g', .ref fs, .ref ts] S I0 J none (setR4 S q g g' fs ts) I' J ∧ I' q 4 = nI M ∧ M ≤ 20 ∧ Mkr n t M mk ∧ (∀ j, j < M → I' (q + 1) j = nI (mk j)) ∧ (∀ h, h ≠ q → h ≠ q + 1 → I' h = I0 h) ∧ ∀ k, k ≠ 4 → I' q k = I0 q k := by
  obtain ⟨d, rfl⟩ := z_dep (d := d) (by omega)
  have hn := hg.le
  have hk := hQ.1
  have hgq : g ≠ q := by unfold Off at ho; omega
  have hQ' : QLay (setR4 S q g g' fs ts) q := hQ.set
  obtain ⟨S', hS'⟩ : ∃ S', S' = setR4 S q g g' fs ts := ⟨_, rfl⟩
  rw [← hS'] at hQ' ⊢
  have e1 : z_rv S' g 1 = z_rv S g 1 := by rw [hS', setR4_ne hgq]
  have hC' : CT S' I0 g n t := by rw [hS']; exact hC.set hgq
  suffices hw : z_wp (d + 1) i_X3_begin [.ref q, .ref g, .ref g', .ref fs, .ref ts] S I0 J (fun v S1 I' J' => v = none ∧ S1 = S' ∧ J' = J ∧ ∃ M mk, I' q 4 = nI M ∧ M ≤ 20 ∧ Mkr n t M mk ∧ (∀ j, j < M → I' (q + 1) j = nI (mk j)) ∧ (∀ h, h ≠ q → h ≠ q + 1 → I' h = I0 h) ∧ ∀ k, k ≠ 4 → I' q k = I0 q k) by
    obtain ⟨v, S1, I', J', x1, rfl, rfl, rfl, M, mk, x2⟩ := hw
    exact ⟨I', M, mk, x1, x2⟩
  have h1n : 1 < 2 ^ n := by
    have := Nat.pow_le_pow_right (show 0 < 2 by decide) hg.pos
    omega
  refine w_X3_begin (b_X3_begin_0 hk hk hk hk hk ?_)
  rw [show z_setR (z_setR (z_setR (z_setR S q 0 g) q 1 g') q 2 fs) q 3 ts = S' from hS'.symm]
  have hk' : z_kd S' q = 4 := hQ'.1
  obtain ⟨a5, _⟩ := hQ'.2
  suffices H : ∀ x, x ≤ n → 1 ≤ x → ∀ (I : zI) (M : Nat) (mk : Nat → Nat) (md : Nat), (∀ h, h ≠ q → h ≠ q + 1 → I h = I0 h) → (∀ k, k ≠ 4 → I q k = I0 q k) → I q 4 = nI M → M + 1 ≤ x → (∀ j, j < M → I (q + 1) j = nI (mk j)) → (∀ j, j < M → mk j < n ∧ mk j ≠ 0) → (∀ j, j < M → ∀ x, x < mk j → ∀ C : Nat → Prop, C 0 → (∀ y, y < n → C y → ∀ i, i < j → C (t y (mk i))) → C x) → md < 2 ^ n → (∀ i, i < x → md.testBit i = true) → (∀ i, i < n → md.testBit i = true → ∀ C : Nat → Prop, C 0 → (∀ y, y < n → C y → ∀ i, i < M → C (t y (mk i))) → C i) → ∀ x5 x6, x5 = nI md → x6 = nI x → Go d i_X3_begin 32 [.ref q, .ref g, .ref g', .ref fs, .ref ts, .int x5, .int x6] [] S' I J (fun v S1 I' J' => v = none ∧ S1 = S' ∧ J' = J ∧ ∃ M mk, I' q 4 = nI M ∧ M ≤ 20 ∧ Mkr n t M mk ∧ (∀ j, j < M → I' (q + 1) j = nI (mk j)) ∧ (∀ h, h ≠ q → h ≠ q + 1 → I' h = I0 h) ∧ ∀ k, k ≠ 4 → I' q k = I0 q k) by
    have b1 : ∀ i, (1 : Nat).testBit i = true ↔ i = 0 := fun i => by rw [show (1 : Nat) = 2 ^ 0 from rfl, b_pow]
    have q9 : ∀ i, i < 1 → (1 : Nat).testBit i = true := fun i hi => (b1 i).mpr (by omega)
    have q10 : ∀ i, i < n → (1 : Nat).testBit i = true → ∀ C : Nat → Prop, C 0 → (∀ y, y < n → C y → ∀ i, i < 0 → C (t y ((fun _ => 0) i))) → C i := by
      intro i _ hb C c0 _
      rw [(b1 i).mp hb]
      exact c0
    have q5 : ∀ j, j < 0 → z_u2 I0 q 4 0 (q + 1) j = nI ((fun _ => 0) j) := fun j hj => absurd hj (Nat.not_lt_zero _)
    have q6 : ∀ j, j < 0 → (fun _ : Nat => 0) j < n ∧ (fun _ : Nat => 0) j ≠ 0 := fun j hj => absurd hj (Nat.not_lt_zero _)
    have q7 : ∀ j, j < 0 → ∀ x, x < (fun _ : Nat => 0) j → ∀ C : Nat → Prop, C 0 → (∀ y, y < n → C y → ∀ i, i < j → C (t y ((fun _ => 0) i))) → C x := fun j hj => absurd hj (Nat.not_lt_zero _)
    exact H 1 hg.pos (Nat.le_refl _) (z_u2 I0 q 4 0) 0 (fun _ => 0) 1 (fun h h1 h2 => z_u2_row h1) (fun k hk => z_u2_nk hk) z_u2_same (Nat.le_refl _) q5 q6 q7 h1n q9 q10 _ _ rfl rfl
  have ctf : ∀ I : zI, (∀ h, h ≠ q → h ≠ q + 1 → I h = I0 h) → CT S' I g n t := fun I hF => hC'.fr (by rw [hF g hgq (by unfold Off at ho; omega)]) (by rw [e1]; exact hF _ (by unfold Off at ho1; omega) (by unfold Off at ho1; omega))
  refine z_up_to n ?_ ?_
  · rintro _ I M mk md h1 h2 h3 h4 h5 h6 h7 h8 h9 h10 x5 x6 rfl rfl
    refine b_X3_begin_32 hC'.1 (fun _ => b_X3_begin_100 ⟨rfl, rfl, rfl, M, mk, h3, by omega, ⟨h6, h7, fun x hx => h10 x hx (h9 x hx)⟩, h5, h1, h2⟩) (fun c => absurd (ctf I h1).ge c)
  · rintro x hx ih hx1 I M mk md h1 h2 h3 h4 h5 h6 h7 h8 h9 h10 x5 x6 rfl rfl
    have hCI := ctf I h1
    refine b_X3_begin_32 hC'.1 (fun c => absurd c (hCI.nge hx)) (fun _ => ?_)
    refine b_X3_begin_41 hk' (fun c => absurd c (by rw [h3]; exact nI_ge (b := 20) (by omega) (by decide))) (fun _ => ?_)
    refine b_X3_begin_50 (fun c => b_X3_begin_94 (ih (by omega) I M mk md h1 h2 h3 (by omega) h5 h6 h7 h8 (fun i hi => ?_) h10 _ _ rfl (nI_1 x))) (fun c => ?_)
    · rw [z_bit0 (z_lt31 hn h8) (by omega), Bool.not_eq_false] at c
      by_cases e : i = x
      · rw [e]; exact c
      · exact h9 i (by omega)
    · have e4 : Int32.toNatClampNeg (I q 4) = M := by rw [h3, nI_clamp (by omega)]
      obtain ⟨I2, hI2⟩ : ∃ I2, I2 = z_u2 (z_u2 I (q + 1) M (nI x)) q 4 (nI (M + 1)) := ⟨_, rfl⟩
      have f1 : ∀ h, h ≠ q → h ≠ q + 1 → I2 h = I0 h := fun h g1 g2 => by rw [hI2, z_u2_row g1, z_u2_row g2]; exact h1 h g1 g2
      have hlt : md ||| 2 ^ x < 2 ^ n := z_or_lt h8 (z_pw hx)
      refine b_X3_begin_60 hk' hk' (by rw [h3]; exact a5.wr (by omega) (by decide)) hk' hk' rfl hC'.1 ?_
      rw [e4, a5.1]
      have ev : z_u2 I (q + 1) M (nI x) q 4 + 1 = nI (M + 1) := by rw [z_u2_row (by omega), h3, nI_1]
      rw [ev, ← hI2]
      refine ⟨_, _, _, _, by rw [z_shl1 (by omega), z_or]; exact c_span (by omega) (ctf I2 f1) hlt, ?_⟩
      refine b_X3_begin_92 (ih (by omega) I2 (M + 1) (zput mk M x) (gen n t (md ||| 2 ^ x)) f1 (fun k hk => by rw [hI2, z_u2_nk hk, z_u2_row (by omega)]; exact h2 k hk) (by rw [hI2, z_u2_same]) (by omega) (fun j hj => ?_) (fun j hj => ?_) (fun j hj x' hx' C c0 cc => ?_) (gen_lt _ _ _) (fun i hi => ?_) (fun i hi hb C c0 cc => ?_) _ _ rfl (nI_1 x))
      · rw [hI2, z_u2_row (by omega)]
        by_cases e : j = M
        · rw [e, z_u2_same, zput_s]
        · rw [z_u2_nk e, zput_n e]; exact h5 j (by omega)
      · by_cases e : j = M
        · rw [e, zput_s]; exact ⟨hx, by omega⟩
        · rw [zput_n e]; exact h6 j (by omega)
      · by_cases e : j = M
        · subst e
          rw [zput_s] at hx'
          exact h10 x' (by omega) (h9 x' hx') C c0 (fun y hy hC i hi => by
            have := cc y hy hC i hi
            rw [zput_n (by omega)] at this
            exact this)
        · rw [zput_n e] at hx'
          exact h7 j (by omega) x' hx' C c0 (fun y hy hC i hi => by
            have := cc y hy hC i hi
            rw [zput_n (by omega)] at this
            exact this)
      · refine gen_has hg (by omega) ((b_orp _ _ _).mpr ?_)
        by_cases e : i = x
        · exact Or.inr e
        · exact Or.inl (h9 i (by omega))
      · have hcb : ClosedBy n t (md ||| 2 ^ x) (zset n C) := by
          refine ⟨zset_lt _ _, (zset_bit _ _ _).mpr ⟨hg.pos, c0⟩, fun a ha s hs q1 q2 => (zset_bit _ _ _).mpr ⟨hg.lt ha hs, ?_⟩⟩
          have hCa := ((zset_bit _ _ _).mp q1).2
          rcases (b_orp _ _ _).mp q2 with r | r
          · have := h10 s hs r (fun s => s < n → C (t a s)) (fun _ => by rw [hg.r0 ha]; exact hCa) (fun y hy hy2 i hi _ => by
              have hm := (h6 i hi).1
              rw [← hg.as ha hy hm]
              have := cc (t a y) (hg.lt ha hy) (hy2 hy) i (by omega)
              rw [zput_n (by omega)] at this
              exact this)
            exact this hs
          · rw [r]
            have := cc a ha hCa M (by omega)
            rw [zput_s] at this
            exact this
        exact ((zset_bit _ _ _).mp (gen_le hcb hb)).2
end C13

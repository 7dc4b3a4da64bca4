/-! THE MODEL: the first group map; maps, mapped -/
noncomputable def crdn {α : Type} (p : α → Prop) : Nat := zleast (fun k => Crd p k)
theorem crdn_eq {α : Type} {p : α → Prop} {k : Nat} (h : Crd p k) : crdn p = k := (zleast_spec (p := fun k => Crd p k) ⟨k, h⟩).1.uq h
noncomputable def aMaps (N : Nat → Nat) (T : Nat → Nat → Nat → Nat) (x1 : Int32) : Int32 := zq (El 2 x1) (nI (crdn (GM (N (ix x1)) (T (ix x1)) (T (ix x1))))) (-2)
noncomputable def aMapped (N : Nat → Nat) (T : Nat → Nat → Nat → Nat) (x1 : Int32) : Int32 := zq (El (N 0) x1) (zq (N 0 = N 1) (lxa (N 0) (GM (N 0) (T 0) (T 1)) (ix x1)) (-1)) (-2)
def gfQ (S : zS) (I0 : zI) (J : zJ) (m b n : Nat) (t t' : Nat → Nat → Nat) (D : Nat → Prop) (f : Nat → Nat) : zQ := fun v S' I' J' => v = none ∧ S' = S ∧ J' = J ∧ FG S I0 I' m b ∧ ((∃ φ, LexMin n (fun φ => GM n t t' φ ∧ Ex n D f φ) φ ∧ I' m 26 = 1 ∧ ∀ g, g < n → I' (z_rv S m 25) g = nI (φ g)) ∨ ((∀ φ, GM n t t' φ → Ex n D f φ → False) ∧ I' m 26 = 0))
section M13
variable {d m sa sb n st st' : Nat} {t t' : Nat → Nat → Nat} {iv iv' : Nat → Nat} {S : zS} {I I0 I1 : zI} {J : zJ}
theorem m_goesSkip {deep : Nat} (hd : 0 < d) (hL : MLay S m) (h28 : I m 28 = 1) (h26 : I m 26 = 1) : z_ev d i_X12_goesMaps [.ref m, .int (nI sa), .int (nI sb), .int (nI deep)] S I J none S I J := by
  obtain ⟨d, rfl⟩ := z_dep hd
  refine e_X12_goesMaps (b_X12_goesMaps_0 hL.k (fun c => absurd c (by rw [h28]; decide)) (fun _ => b_X12_goesMaps_7 hL.k (fun c => absurd c (by rw [h26]; decide)) (fun _ => b_X12_goesMaps_14 ⟨rfl, rfl, rfl, rfl⟩)))
theorem m_goesFirst (hL : MLay S m) (hg : Grp n t iv) (hg' : Grp n t' iv') (hsa : sa ≤ 2) (hsb : sb ≤ 2) (hsl : st < 2 ^ n) (hsl' : st' < 2 ^ n) : ∀ c d deep I D f, n ≤ deep + c → c + 3 < d → deep + 1 ≤ zcn D n → MS S I m sa n t → MS S I m sb n t' → I (z_rv S m 0) (665 * sa + 1) = nI st → I (z_rv S m 0) (665 * sb + 1) = nI st' → I m 28 = 1 → I m 26 = 0 → Rw S I m (20 * deep) n D f → PH n t t' D f → z_wp d i_X12_goesMaps [.ref m, .int (nI sa), .int (nI sb), .int (nI deep)] S I J (gfQ S I J m (20 * deep + 20) n t t' D f) := by
  have hk := hL.k
  have hn := hg.le
  intro c
  induction c with
  | zero =>
    intro d deep I D f h1 _ h2
    have := zcn_le D n
    omega
  | succ c ihc =>
    intro d deep I D f hc hd hz hA hB hst hst' h28 h26 hR hP
    obtain ⟨d, rfl⟩ := z_dep (d := d) (by omega)
    have hzl := zcn_le D n
    refine w_X12_goesMaps (b_X12_goesMaps_0 hk (fun q => absurd q (by rw [h28]; decide)) (fun _ => b_X12_goesMaps_7 hk (fun _ => b_X12_goesMaps_15 ?_) (fun q => absurd (by rw [h26]; decide) q)))
    rw [show (20 : Int32) * nI deep = nI (20 * deep) by rw [z_lit 20, pk_mul]]
    refine m_where (by omega) hL hA hn (by omega) hR (fun hall => ?_) (fun x hx hxD hlow => b_X12_goesMaps_192 ?_)
    · -- a leaf
      have hgm := rowm_gm hg hR hP hall
      have hex : Ex n D f (rowm n f) := fun g hg' _ => rowm_in hg'
      refine b_X12_goesMaps_64 hk (fun q => absurd h26 q) (fun _ => b_X12_goesMaps_71 ?_)
      have h25ne : m ≠ z_rv S m 25 := by rw [hL.a25.1]; omega
      have h24ne : z_rv S m 24 ≠ z_rv S m 25 := by rw [hL.a24.1, hL.a25.1]; omega
      suffices H : ∀ k, k ≤ n → ∀ I' x6 v7, FG S I I' m (20 * deep + 20) → I' m 26 = 0 → (∀ g, g < k → I' (z_rv S m 25) g = nI (f g)) → x6 = nI k → Go d i_X12_goesMaps 74 [.ref m, .int (nI sa), .int (nI sb), .int (nI deep), .int (nI (20 * deep)), .int (nI n), .int x6, v7] [] S I' J (gfQ S I J m (20 * deep + 20) n t t' D f) from H 0 (by omega) I _ _ FG.refl h26 (fun g hg => by omega) rfl
      refine z_up_to n ?_ ?_
      · rintro I' x6 v7 hF h26 h25 rfl
        refine b_X12_goesMaps_74 (fun _ => ?_) (fun c => absurd (nI_le (Nat.le_refl _) (by omega)) c)
        refine m_leaf (by omega) hL (hF.ms hL hA) (hF.ms hL hB) hg (by omega) hsa hsb (by rw [hF.at0 hL]; exact hst) (by rw [hF.at0 hL]; exact hst') hsl hsl' (hF.rw (by omega) hR) hall rfl ⟨rfl, rfl, rfl, (hF.f hL (Or.inl rfl)).f hL (Or.inr rfl), Or.inl ⟨rowm n f, ⟨⟨hgm, hex⟩, fun ψ hψ => Or.inl (fun y _ => by rw [rowm_uq hall hψ.1 hψ.2])⟩, ?_, fun g hg => ?_⟩⟩
        · rw [z_u2_nk (by decide), z_u2_same, h26]; rfl
        · rw [z_u2_row (fun e => h25ne e.symm), z_u2_row (fun e => h25ne e.symm), h25 g hg, rowm_in hg]
      · rintro k hk' ih I' x6 v7 hF h26 h25 rfl
        refine b_X12_goesMaps_74 (fun c => absurd c (nI_ge hk' (by omega))) (fun _ => ?_)
        refine b_X12_goesMaps_81 hk hk (by rw [nI_add]; exact hL.a24.rd (by omega) (by decide)) (hL.a25.wr (by omega) (by decide)) (ih _ _ _ (hF.first hL) (by rw [z_u2_row h25ne]; exact h26) (fun g hg => ?_) (nI_1 k))
        rw [nI_clamp (by omega), nI_add, nI_clamp (by omega)]
        by_cases e : g = k
        · rw [e, z_u2_same]
          exact ((hF.rw (by omega) hR k hk').1 (hall k hk')).1
        · rw [z_u2_nk e]; exact h25 g (by omega)
    · -- a branch
      have hx0 : x ≠ 0 := fun e => hxD (by rw [e]; exact hP.1.1)
      have hlt : zcn D n < n := by
        have h1 := zcn_or (p := D) (q := fun z => z = x) n (fun z _ h1 h2 => hxD (by rw [← h2]; exact h1))
        rw [zcn_eq1 n hx] at h1
        have h2 := zcn_le (fun z => D z ∨ z = x) n
        omega
      suffices H : ∀ y, y ≤ n → 1 ≤ y → ∀ I' x6 v7, FG S I I' m (20 * deep + 20) → ((∃ φ, LexMin n (fun φ => GM n t t' φ ∧ Ex n D f φ) φ ∧ I' m 26 = 1 ∧ ∀ g, g < n → I' (z_rv S m 25) g = nI (φ g)) ∨ ((∀ φ, GM n t t' φ → Ex n D f φ → φ x < y → False) ∧ I' m 26 = 0)) → x6 = nI y → Go d i_X12_goesMaps 195 [.ref m, .int (nI sa), .int (nI sb), .int (nI deep), .int (nI (20 * deep)), .int (nI x), .int x6, v7] [] S I' J (gfQ S I J m (20 * deep + 20) n t t' D f) from H 1 hg.pos (Nat.le_refl _) I _ _ FG.refl (Or.inr ⟨fun φ h1 _ h2 => hx0 (h1.inj hx hg.pos (by rw [h1.z hg hg']; omega)), h26⟩) rfl
      refine z_up_to n ?_ ?_
      · rintro _ I' x6 v7 hF hS rfl
        refine b_X12_goesMaps_195 hk ⟨_, _, _, _, m_many (by omega) (hF.ms hL hB), ?_⟩
        refine b_X12_goesMaps_202 (fun _ => b_X12_goesMaps_251 ⟨rfl, rfl, rfl, hF, ?_⟩) (fun c => absurd (nI_le (Nat.le_refl _) (by omega)) c)
        rcases hS with q | ⟨q1, q2⟩
        · exact Or.inl q
        · exact Or.inr ⟨fun φ h1 h2 => q1 φ h1 h2 (h1.lt hx), q2⟩
      · rintro y hy ih hy1 I' x6 v7 hF hS rfl
        have hA' := hF.ms hL hA
        have hB' := hF.ms hL hB
        refine b_X12_goesMaps_195 hk ⟨_, _, _, _, m_many (by omega) hB', ?_⟩
        refine b_X12_goesMaps_202 (fun c => absurd c (nI_ge hy (by omega))) (fun _ => ?_)
        refine b_X12_goesMaps_205 hk ⟨_, _, _, _, m_periodOf (by omega) hA' hg hx, ?_⟩
        refine b_X12_goesMaps_212 hk ⟨_, _, _, _, m_periodOf (by omega) hB' hg' hy, ?_⟩
        have none_ : ∀ I2, FG S I I2 m (20 * deep + 20) → I2 m 26 = I' m 26 → (∀ g, I2 (z_rv S m 25) g = I' (z_rv S m 25) g) → (∀ φ, GM n t t' φ → Ex n D f φ → φ x = y → False) → Go d i_X12_goesMaps 245 [.ref m, .int (nI sa), .int (nI sb), .int (nI deep), .int (nI (20 * deep)), .int (nI x), .int (nI y), v7] [] S I2 J (gfQ S I J m (20 * deep + 20) n t t' D f) := by
          intro I2 hF2 e26 e25 hno
          refine b_X12_goesMaps_245 (ih (by omega) I2 _ _ hF2 ?_ (nI_1 y))
          rcases hS with ⟨φ, q1, q2, q3⟩ | ⟨q1, q2⟩
          · exact Or.inl ⟨φ, q1, by rw [e26]; exact q2, fun g hg => by rw [e25]; exact q3 g hg⟩
          · refine Or.inr ⟨fun φ h1 h2 h3 => ?_, by rw [e26]; exact q2⟩
            by_cases e : φ x = y
            · exact hno φ h1 h2 e
            · exact q1 φ h1 h2 (by omega)
        refine b_X12_goesMaps_219 (fun c => none_ I' hF rfl (fun _ => rfl) (fun φ h1 h2 h3 => c ?_)) (fun _ => ?_)
        · rw [← h3, h1.per hg hg' hx]
        · have hfl := m_follows (d := d) (J := J) (deep := deep) (x := x) (y := y) (by omega) hL hA' hB' hg hg' (by omega) (hF.rw (by omega) hR) hP hx hxD hy
          refine b_X12_goesMaps_222 hk (hfl.mono ?_)
          rintro v S' I2 J' ⟨r, rfl, rfl, rfl, f1, f2, f3⟩
          have hF2 : FG S' I I2 m (20 * deep + 20) := hF.trans (f1.fg hL)
          have m24 : m ≠ z_rv S' m 24 := by rw [hL.a24.1]; omega
          have m25 : z_rv S' m 25 ≠ z_rv S' m 24 := by rw [hL.a24.1, hL.a25.1]; omega
          have e26 : I2 m 26 = I' m 26 := by rw [f1.1 m m24]
          have e25 : ∀ g, I2 (z_rv S' m 25) g = I' (z_rv S' m 25) g := fun g => by rw [f1.1 _ m25]
          have e28 : I2 m 28 = 1 := by rw [hF2.2.1 28 (by decide) (by decide)]; exact h28
          cases r with
          | false => exact b_X12_goesMaps_233 (fun _ => none_ I2 hF2 e26 e25 (f3 rfl)) (fun c => absurd rfl c)
          | true =>
            refine b_X12_goesMaps_233 (fun c => absurd c (by decide)) (fun _ => ?_)
            obtain ⟨D', f', g1, g2, g3, g4, g5, g6⟩ := f2 rfl
            refine b_X12_goesMaps_236 hk ?_
            rw [nI_1]
            rcases hS with ⟨φ, q1, q2, q3⟩ | ⟨q1, q2⟩
            · exact ⟨_, _, _, _, m_goesSkip (by omega) hL e28 (by rw [e26]; exact q2), b_X12_goesMaps_245 (ih (by omega) I2 _ _ hF2 (Or.inl ⟨φ, q1, by rw [e26]; exact q2, fun g hg => by rw [e25]; exact q3 g hg⟩) (nI_1 y))⟩
            have hz' : deep + 1 + 1 ≤ zcn D' n := by
              have h1 := zcn_or (p := D) (q := fun z => z = x) n (fun z _ h1 h2 => hxD (by rw [← h2]; exact h1))
              rw [zcn_eq1 n hx] at h1
              have h2 := zcn_mono (p := fun z => D z ∨ z = x) (q := D') n (fun z hz q => by
                rcases q with q | q
                · exact (g3 z hz q).1
                · rw [q]; exact g4)
              omega
            have hrec := ihc d (deep + 1) I2 D' f' (by omega) (by omega) hz' (hF2.ms hL hA) (hF2.ms hL hB) (by rw [hF2.at0 hL]; exact hst) (by rw [hF2.at0 hL]; exact hst') e28 (by rw [e26]; exact q2) (by rw [Nat.mul_add]; exact g1) g2
            refine hrec.mono ?_
            rintro v S1 I3 J1 ⟨rfl, rfl, rfl, w1, w2⟩
            have hF3 : FG S1 I I3 m (20 * deep + 20) := hF2.trans (w1.mono (by omega))
            have key : ∀ φ, GM n t t' φ → ((Ex n D f φ ∧ φ x = y) ↔ Ex n D' f' φ) := fun φ h1 => ⟨fun h2 => g6 φ h1 h2.1 h2.2, fun h2 => ⟨fun g hg' hD => by rw [h2 g hg' (g3 g hg' hD).1, (g3 g hg' hD).2], by rw [h2 x hx g4, g5]⟩⟩
            refine b_X12_goesMaps_245 (ih (by omega) I3 _ _ hF3 ?_ (nI_1 y))
            rcases w2 with ⟨φ, ⟨⟨u1, u2⟩, u3⟩, u4, u5⟩ | ⟨u1, u2⟩
            · have u6 := (key φ u1).mpr u2
              refine Or.inl ⟨φ, ⟨⟨u1, u6.1⟩, fun ψ hψ => ?_⟩, u4, u5⟩
              rcases Nat.lt_trichotomy (ψ x) y with r | r | r
              · exact absurd (q1 ψ hψ.1 hψ.2 r) id
              · exact u3 ψ ⟨hψ.1, (key ψ hψ.1).mp ⟨hψ.2, r⟩⟩
              · refine Or.inr ⟨x, hx, fun z hz => ?_, by rw [u6.2]; exact r⟩
                rw [u6.1 z (by omega) (hlow z hz), hψ.2 z (by omega) (hlow z hz)]
            · refine Or.inr ⟨fun φ h1 h2 h3 => ?_, u2⟩
              by_cases e : φ x = y
              · exact u1 φ h1 ((key φ h1).mp ⟨h2, e⟩)
              · exact q1 φ h1 h2 (by omega)
/-- the beginning -/
theorem m_begin {fl : Int32} {Q : zQ} (hd : 1 < d) (hL : MLay S m) (hA : MS S I m sa n t) (hB : MS S I m sb n t') (hg : Grp n t iv) (hfl : fl = 0 ∨ fl = 1)
    (hQ : ∀ I', FG S (z_u2 (z_u2 (z_u2 I m 26 0) m 27 0) m 28 fl) I' m 0 → I' m 26 = 0 → I' m 27 = 0 → Rw S I' m (20 * 0) n (fun g => g = 0) (fun _ => 0) → Go d i_X12_laysMaps 62 [.ref m, .int (nI sa), .int (nI sb), .int fl, .int 20] [] S I' J Q) : Go d i_X12_laysMaps 0 [.ref m, .int (nI sa), .int (nI sb), .int fl, .retAddr 0] [] S I J Q := by
  have hk := hL.k
  have hn := hg.le
  have h0ne : z_rv S m 0 ≠ m := by rw [hL.a0.1]; omega
  have h24ne : m ≠ z_rv S m 24 := by rw [hL.a24.1]; omega
  obtain ⟨I1, hI1⟩ : ∃ I1, I1 = z_u2 (z_u2 (z_u2 I m 26 0) m 27 0) m 28 fl := ⟨_, rfl⟩
  have hr : I1 (z_rv S m 0) = I (z_rv S m 0) := by rw [hI1, z_u2_row h0ne, z_u2_row h0ne, z_u2_row h0ne]
  have hA1 : MS S I1 m sa n t := hA.fr hr
  have hB1 : MS S I1 m sb n t' := hB.fr hr
  refine b_X12_laysMaps_0 hk hk ⟨hk, hfl⟩ hk ?_
  rw [← hI1] at hQ ⊢
  refine ⟨_, _, _, _, m_many (by omega) hA1, ?_⟩
  refine b_X12_laysMaps_20 hk ⟨_, _, _, _, m_many (by omega) hB1, ?_⟩
  refine b_X12_laysMaps_25 (fun _ => b_X12_laysMaps_29 ?_) (fun c => absurd rfl c)
  have e26 : I1 m 26 = 0 := by rw [hI1, z_u2_nk (by decide), z_u2_nk (by decide), z_u2_same]
  have e27 : I1 m 27 = 0 := by rw [hI1, z_u2_nk (by decide), z_u2_same]
  suffices H : ∀ k, k ≤ 20 → ∀ I' x4, FG S I1 I' m 0 → I' m 26 = 0 → I' m 27 = 0 → (∀ g, g < k → I' (z_rv S m 24) g = if g = 0 then 0 else -1) → x4 = nI k → Go d i_X12_laysMaps 32 [.ref m, .int (nI sa), .int (nI sb), .int fl, .int x4] [] S I' J Q from H 0 (by omega) I1 _ FG.refl e26 e27 (fun g hg => by omega) rfl
  refine z_up_to 20 ?_ ?_
  · rintro I' x4 hF h26 h27 hr rfl
    refine b_X12_laysMaps_32 (fun _ => hQ I' hF h26 h27 (fun g hgn => ⟨fun q => ?_, fun q => ?_⟩)) (fun c => absurd (nI_le (Nat.le_refl 20) (by decide)) c)
    · have q' : g = 0 := q
      rw [q', hr _ (by omega), if_pos rfl]
      exact ⟨rfl, hg.pos⟩
    · rw [Nat.mul_zero, Nat.zero_add, hr g (by omega), if_neg q]
  · rintro k hk' ih I' x4 hF h26 h27 hr rfl
    have step : ∀ v, (v = if k = 0 then (0 : Int32) else -1) → Go d i_X12_laysMaps 32 [.ref m, .int (nI sa), .int (nI sb), .int fl, .int (nI k + 1)] [] S (z_u2 I' (z_rv S m 24) (nI k).toNatClampNeg v) J Q := by
      intro v hv
      refine ih _ _ ⟨fun a h1 h2 h3 => by rw [z_u2_row h2]; exact hF.1 a h1 h2 h3, fun j h1 h2 => by rw [z_u2_row h24ne]; exact hF.2.1 j h1 h2, fun j hj => by omega⟩ (by rw [z_u2_row h24ne]; exact h26) (by rw [z_u2_row h24ne]; exact h27) (fun g hg => ?_) (nI_1 k)
      rw [nI_clamp (by omega)]
      by_cases e : g = k
      · rw [e, z_u2_same, hv]
      · rw [z_u2_nk e]; exact hr g (by omega)
    refine b_X12_laysMaps_32 (fun c => absurd c (nI_ge hk' (by decide))) (fun _ => ?_)
    refine b_X12_laysMaps_39 hk (fun c => b_X12_laysMaps_54 (hL.a24.wr (by omega) (by decide)) (step _ ?_)) (fun c => b_X12_laysMaps_50 (hL.a24.wr (by omega) (by decide)) (step _ ?_))
    · rw [z_eq0 (by omega)] at c
      rw [if_neg c]
    · rw [z_eq0 (by omega)] at c
      rw [if_pos c]
theorem ph_0 (hg : Grp n t iv) (hg' : Grp n t' iv') : PH n t t' (fun g => g = 0) (fun _ => 0) := by
  refine ⟨⟨rfl, rfl⟩, fun g _ h _ e1 e2 => ?_, fun g _ h _ e1 e2 _ => by rw [e1, e2]⟩
  have e1' : g = 0 := e1
  have e2' : h = 0 := e2
  subst e1' e2'
  rw [hg.l0 hg.pos, hg'.l0 hg'.pos]
  exact ⟨rfl, rfl⟩
theorem ex_0 (hg : Grp n t iv) (hg' : Grp n t' iv') {φ : Nat → Nat} (h : GM n t t' φ) : Ex n (fun g => g = 0) (fun _ => 0) φ := fun g _ e => by
  have e' : g = 0 := e
  rw [e', h.z hg hg']
theorem zcn_0 (hn : 0 < n) : 0 + 1 ≤ zcn (fun g => g = 0) n := by rw [zcn_eq1 n hn]; omega
end M13
section M14
variable {d m : Nat} {N : Nat → Nat} {T : Nat → Nat → Nat → Nat} {V : Nat → Nat → Nat} {P : Nat → Nat} {S : zS} {I I0 : zI} {J : zJ}
theorem m_mapsAll {s : Nat} (hd : 25 < d) (h : MSS S I m N T P) (hG : GS N T V P) (hs : s < 2) : ∃ I', z_ev d i_X12_laysMaps [.ref m, .int (nI s), .int (nI s), .int 0] S I J none S I' J ∧ MQy I I' m ∧ I' m 26 = nI (crdn (GM (N s) (T s) (T s))) ∧ I' m 27 = nI (crdn (fun φ => GM (N s) (T s) (T s) φ ∧ Own (N s) (P s) (P s) φ)) := by
  obtain ⟨d, rfl⟩ := z_dep (d := d) (by omega)
  have hg := (hG s hs).1
  have hn := hg.le
  have hL := h.1
  suffices hw : z_wp (d + 1) i_X12_laysMaps [.ref m, .int (nI s), .int (nI s), .int 0] S I J (fun v S' I' J' => v = none ∧ S' = S ∧ J' = J ∧ MQy I I' m ∧ I' m 26 = nI (crdn (GM (N s) (T s) (T s))) ∧ I' m 27 = nI (crdn (fun φ => GM (N s) (T s) (T s) φ ∧ Own (N s) (P s) (P s) φ))) by
    obtain ⟨v, S', I', J', x1, rfl, rfl, rfl, x2⟩ := hw
    exact ⟨I', x1, x2⟩
  refine w_X12_laysMaps (m_begin (by omega) hL (h.2 s hs).1 (h.2 s hs).1 hg (Or.inl rfl) (fun I' hF h26 h27 hR => ?_))
  have hq1 : MQy I (z_u2 (z_u2 (z_u2 I m 26 0) m 27 0) m 28 0) m := ((MQy.refl.f (Or.inr (by decide))).f (Or.inr (by decide))).f (Or.inr (by decide))
  have hq2 := hq1.trans (hF.mq hL)
  have h2 := (h.fr hq2).2 s hs
  have h28 : I' m 28 = 0 := by rw [hF.2.1 28 (by decide) (by decide), z_u2_same]
  have hrec := m_goesMaps (J := J) hL hg hg (by omega) (by omega) (hG s hs).2.1 (hG s hs).2.1 (N s) d 0 I' (fun g => g = 0) (fun _ => 0) (by omega) (by omega) (zcn_0 hg.pos) h2.1 h2.1 h2.2 h2.2 h28 hR (ph_0 hg hg)
  refine b_X12_laysMaps_62 hL.k (hrec.mono ?_)
  rintro v S1 I3 J1 ⟨rfl, rfl, rfl, q1, L, L', q2, q3, q4, q5⟩
  refine b_X12_laysMaps_69 ⟨rfl, rfl, rfl, hq2.trans (q1.mq hL), ?_, ?_⟩
  · rw [q4, h26, crdn_eq (q2.cg (q := GM (N s) (T s) (T s)) (fun φ => ⟨fun h => h.1, fun h => ⟨h, ex_0 hg hg h⟩⟩))]
    exact Int32.zero_add _
  · rw [q5, h27, crdn_eq (q3.cg (q := fun φ => GM (N s) (T s) (T s) φ ∧ Own (N s) (P s) (P s) φ) (fun φ => ⟨fun h => ⟨h.1, h.2.2⟩, fun h => ⟨h.1, ex_0 hg hg h.1, h.2⟩⟩))]
    exact Int32.zero_add _
theorem m_maps (x1 : Int32) (hd : 26 < d) (h : MSS S I m N T P) (hG : GS N T V P) : ∃ I', z_ev d i_X12_maps [.ref m, .int x1] S I J (some (.int (aMaps N T x1))) S I' J ∧ MQy I I' m := by
  obtain ⟨d, rfl⟩ := z_dep (d := d) (by omega)
  refine aQ.ex (w_X12_maps (b_X12_maps_0 h.1.k ⟨_, _, _, _, m_isSlot x1 (by omega), ?_⟩))
  refine b_X12_maps_9 (fun c => ?_) (fun c => b_X12_maps_12 ⟨z_someI ?_, rfl, rfl, mq_th⟩)
  · rw [zb_1] at c
    have e : aMaps N T x1 = _ := zq_t c
    obtain ⟨s, hs, rfl⟩ := c
    have es : ix (nI s) = s := ix_nI (by omega)
    rw [es] at e
    rw [e]
    obtain ⟨I', a1, a2, a3, _⟩ := m_mapsAll (d := d) (J := J) (by omega) h.th hG hs
    exact b_X12_maps_15 h.1.k ⟨_, _, _, _, a1, b_X12_maps_22 h.1.k ⟨z_someI a3, rfl, rfl, mq_th.trans a2⟩⟩
  · rw [zb_0] at c
    exact (zq_f c).symm
theorem m_own {s : Nat} (hd : 26 < d) (h : MSS S I m N T P) (hG : GS N T V P) (hs : s < 2) : ∃ I', z_ev d i_X12_own [.ref m, .int (nI s)] S I J (some (.int (nI (crdn (fun φ => GM (N s) (T s) (T s) φ ∧ Own (N s) (P s) (P s) φ))))) S I' J ∧ MQy I I' m := by
  obtain ⟨d, rfl⟩ := z_dep (d := d) (by omega)
  obtain ⟨I', a1, a2, _, a4⟩ := m_mapsAll (d := d) (J := J) (by omega) h hG hs
  exact ⟨I', e_X12_own (b_X12_own_0 h.1.k ⟨_, _, _, _, a1, b_X12_own_7 h.1.k ⟨z_someI a4, rfl, rfl, rfl⟩⟩), a2⟩
theorem m_mapped (x1 : Int32) (hd : 26 < d) (h : MSS S I m N T P) (hG : GS N T V P) : ∃ I', z_ev d i_X12_mapped [.ref m, .int x1] S I J (some (.int (aMapped N T x1))) S I' J ∧ MQy I I' m := by
  obtain ⟨d, rfl⟩ := z_dep (d := d) (by omega)
  refine aQ.ex (w_X12_mapped (b_X12_mapped_0 h.1.k h.1.k ⟨_, _, _, _, m_isEl 0 x1 (by omega) h.th hG, ?_⟩))
  have e0 : (El 2 0 ∧ El (N (ix 0)) x1) ↔ El (N 0) x1 := ⟨fun q => q.2, fun q => ⟨⟨0, by decide, rfl⟩, q⟩⟩
  rw [zb_congr e0]
  refine b_X12_mapped_11 (fun c => ?_) (fun c => b_X12_mapped_14 ⟨z_someI ?_, rfl, rfl, mq_th⟩)
  · rw [zb_1] at c
    have e : aMapped N T x1 = _ := zq_t c
    rw [e]
    obtain ⟨x, hx, rfl⟩ := c
    have hg := (hG 0 (by decide)).1
    have hg' := (hG 1 (by decide)).1
    have hn := hg.le
    have hn' := hg'.le
    have hL := h.1
    rw [ix_nI (by omega)]
    by_cases hN : N 0 = N 1
    · rw [zq_t hN]
      suffices hw : z_wp d i_X12_laysMaps [.ref m, .int 0, .int 1, .int 1] S (z_u2 I m 1 0) J (fun v S' I' J' => v = none ∧ S' = S ∧ J' = J ∧ MQy I I' m ∧ ((∃ φ, LexMin (N 0) (GM (N 0) (T 0) (T 1)) φ ∧ I' m 26 = 1 ∧ ∀ g, g < N 0 → I' (z_rv S m 25) g = nI (φ g)) ∨ ((∀ φ, ¬ GM (N 0) (T 0) (T 1) φ) ∧ I' m 26 = 0))) by
        refine b_X12_mapped_17 h.1.k (hw.mono ?_)
        rintro v S1 I3 J1 ⟨rfl, rfl, rfl, q1, q2⟩
        rcases q2 with ⟨φ, w1, w2, w3⟩ | ⟨w1, w2⟩
        · refine b_X12_mapped_24 hL.k (fun _ => b_X12_mapped_35 hL.k (hL.a25.rd (by omega) (by decide)) ⟨z_someI ?_, rfl, rfl, q1⟩) (fun c => absurd c (by rw [w2]; decide))
          rw [nI_clamp (by omega), w3 x hx, lxa_t w1 hx]
        · exact b_X12_mapped_24 hL.k (fun c => absurd w2 c) (fun _ => b_X12_mapped_31 ⟨z_someI (lxa_f w1 x).symm, rfl, rfl, q1⟩)
      obtain ⟨d, rfl⟩ := z_dep (d := d) (by omega)
      have hg2 : Grp (N 0) (T 1) (V 1) := by rw [hN]; exact hg'
      have hb2 : MS S (z_u2 I m 1 0) m 1 (N 0) (T 1) := by rw [hN]; exact (h.th.2 1 (by decide)).1
      refine w_X12_laysMaps (m_begin (sa := 0) (sb := 1) (by omega) hL (h.th.2 0 (by decide)).1 hb2 hg (Or.inr rfl) (fun I' hF h26 h27 hR => ?_))
      have hq1 : MQy I (z_u2 (z_u2 (z_u2 (z_u2 I m 1 0) m 26 0) m 27 0) m 28 1) m := ((mq_th.f (Or.inr (by decide))).f (Or.inr (by decide))).f (Or.inr (by decide))
      have hq2 := hq1.trans (hF.mq hL)
      have ha3 := (h.fr hq2).2 0 (by decide)
      have hb3 := (h.fr hq2).2 1 (by decide)
      have hb3' : MS S I' m 1 (N 0) (T 1) := by rw [hN]; exact hb3.1
      have h28 : I' m 28 = 1 := by rw [hF.2.1 28 (by decide) (by decide), z_u2_same]
      have hrec := m_goesFirst (J := J) (sa := 0) (sb := 1) hL hg hg2 (by omega) (by omega) (hG 0 (by decide)).2.1 (by rw [hN]; exact (hG 1 (by decide)).2.1) (N 0) d 0 I' (fun g => g = 0) (fun _ => 0) (by omega) (by omega) (zcn_0 hg.pos) ha3.1 hb3' ha3.2 hb3.2 h28 h26 hR (ph_0 hg hg2)
      refine b_X12_laysMaps_62 hL.k (hrec.mono ?_)
      rintro v S1 I3 J1 ⟨rfl, rfl, rfl, q1, q2⟩
      refine b_X12_laysMaps_69 ⟨rfl, rfl, rfl, hq2.trans (q1.mq hL), ?_⟩
      rcases q2 with ⟨φ, w1, w2, w3⟩ | ⟨w1, w2⟩
      · exact Or.inl ⟨φ, w1.cg (fun ψ => ⟨fun h => h.1, fun h => ⟨h, ex_0 hg hg2 h⟩⟩), w2, w3⟩
      · exact Or.inr ⟨fun φ h => w1 φ h (ex_0 hg hg2 h), w2⟩
    · rw [zq_f hN]
      have hq1 : MQy I (z_u2 (z_u2 (z_u2 (z_u2 I m 1 0) m 26 0) m 27 0) m 28 1) m := ((mq_th.f (Or.inr (by decide))).f (Or.inr (by decide))).f (Or.inr (by decide))
      have h1 := h.fr hq1
      have hw : z_ev d i_X12_laysMaps [.ref m, .int 0, .int 1, .int 1] S (z_u2 I m 1 0) J none S (z_u2 (z_u2 (z_u2 (z_u2 I m 1 0) m 26 0) m 27 0) m 28 1) J := by
        obtain ⟨d, rfl⟩ := z_dep (d := d) (by omega)
        refine e_X12_laysMaps (b_X12_laysMaps_0 hL.k hL.k ⟨hL.k, Or.inr rfl⟩ hL.k ⟨_, _, _, _, m_many (s := 0) (by omega) (h1.2 0 (by decide)).1, ?_⟩)
        refine b_X12_laysMaps_20 hL.k ⟨_, _, _, _, m_many (s := 1) (by omega) (h1.2 1 (by decide)).1, ?_⟩
        refine b_X12_laysMaps_25 (fun c => ?_) (fun _ => b_X12_laysMaps_28 ⟨rfl, rfl, rfl, rfl⟩)
        rw [nI_eq (by omega) (by omega)] at c
        exact absurd c hN
      refine b_X12_mapped_17 h.1.k ⟨_, _, _, _, hw, ?_⟩
      refine b_X12_mapped_24 hL.k (fun c => absurd ?_ c) (fun _ => b_X12_mapped_31 ⟨rfl, rfl, rfl, hq1⟩)
      rw [z_u2_nk (by decide), z_u2_nk (by decide), z_u2_same]
  · rw [zb_0] at c
    exact (zq_f c).symm
end M14

/-! THE MODEL: all group maps, counted; the first one -/
/-- what may change: rows from b on, the first map, how many -/
def FG (S : zS) (I0 I : zI) (m b : Nat) : Prop := (∀ h, h ≠ m → h ≠ z_rv S m 24 → h ≠ z_rv S m 25 → I h = I0 h) ∧ (∀ k, k ≠ 26 → k ≠ 27 → I m k = I0 m k) ∧ ∀ j, j < b → I (z_rv S m 24) j = I0 (z_rv S m 24) j
/-- steps are led on steps -/
def Own (n st st' : Nat) (φ : Nat → Nat) : Prop := zset n (fun j => ∃ g, g < n ∧ st.testBit g = true ∧ φ g = j) = st'
section M12
variable {d m sa sb n st st' : Nat} {t t' : Nat → Nat → Nat} {iv iv' : Nat → Nat} {S : zS} {I I0 I1 : zI} {J : zJ}
theorem FG.refl {b : Nat} : FG S I0 I0 m b := ⟨fun _ _ _ _ => rfl, fun _ _ _ => rfl, fun _ _ => rfl⟩
theorem FG.trans {b : Nat} (h : FG S I0 I m b) (h' : FG S I I1 m b) : FG S I0 I1 m b := ⟨fun a h1 h2 h3 => by rw [h'.1 a h1 h2 h3]; exact h.1 a h1 h2 h3, fun k h1 h2 => by rw [h'.2.1 k h1 h2]; exact h.2.1 k h1 h2, fun j hj => by rw [h'.2.2 j hj]; exact h.2.2 j hj⟩
theorem FG.mono {b b' : Nat} (h : FG S I0 I m b) (hb : b' ≤ b) : FG S I0 I m b' := ⟨h.1, h.2.1, fun j hj => h.2.2 j (by omega)⟩
theorem FW.fg {b : Nat} (h : FW S I0 I m b) (hL : MLay S m) : FG S I0 I m b := ⟨fun a _ h2 _ => h.1 a h2, fun k _ _ => by rw [h.1 m (by rw [hL.a24.1]; omega)], h.2⟩
theorem FG.f {b k : Nat} {v : Int32} (h : FG S I0 I m b) (hL : MLay S m) (hk : k = 26 ∨ k = 27) : FG S I0 (z_u2 I m k v) m b := ⟨fun a h1 h2 h3 => by rw [z_u2_row h1]; exact h.1 a h1 h2 h3, fun j h1 h2 => by rw [z_u2_nk (by omega)]; exact h.2.1 j h1 h2, fun j hj => by rw [z_u2_row (by rw [hL.a24.1]; omega)]; exact h.2.2 j hj⟩
theorem FG.first {b k : Nat} {v : Int32} (h : FG S I0 I m b) (hL : MLay S m) : FG S I0 (z_u2 I (z_rv S m 25) k v) m b := ⟨fun a h1 h2 h3 => by rw [z_u2_row h3]; exact h.1 a h1 h2 h3, fun j h1 h2 => by rw [z_u2_row (by rw [hL.a25.1]; omega)]; exact h.2.1 j h1 h2, fun j hj => by rw [z_u2_row (by rw [hL.a24.1, hL.a25.1]; omega)]; exact h.2.2 j hj⟩
theorem FG.ms {b s : Nat} (h : FG S I0 I m b) (hL : MLay S m) (hM : MS S I0 m s n t) : MS S I m s n t := hM.fr (h.1 _ (by rw [hL.a0.1]; omega) (by rw [hL.a0.1, hL.a24.1]; omega) (by rw [hL.a0.1, hL.a25.1]; omega))
theorem FG.at0 {b k : Nat} (h : FG S I0 I m b) (hL : MLay S m) : I (z_rv S m 0) k = I0 (z_rv S m 0) k := by rw [h.1 _ (by rw [hL.a0.1]; omega) (by rw [hL.a0.1, hL.a24.1]; omega) (by rw [hL.a0.1, hL.a25.1]; omega)]
theorem FG.rw {b b' : Nat} {D : Nat → Prop} {f : Nat → Nat} (h : FG S I0 I m b) (hb : b' + n ≤ b) (hR : Rw S I0 m b' n D f) : Rw S I m b' n D f := fun g hg => by
  rw [h.2.2 (b' + g) (by omega)]
  exact hR g hg
theorem FG.mq {b : Nat} (h : FG S I0 I m b) (hL : MLay S m) : MQy I0 I m := by
  have e1 := hL.a24.1
  have e2 := hL.a25.1
  exact ⟨fun a h1 h2 => h.1 a h1 (by omega) (by omega), fun k _ h2 => h.2.1 k (by omega) (by omega)⟩
/-- where the search goes on -/
theorem m_where {deep : Nat} {D : Nat → Prop} {f : Nat → Nat} {Q : zQ} (hd : 0 < d) (hL : MLay S m) (hA : MS S I m sa n t) (hn : n ≤ 20) (hdp : deep < 20) (hR : Rw S I m (20 * deep) n D f) {v6 v7 : Value}
    (h1 : (∀ g, g < n → D g) → Go d i_X12_goesMaps 64 [.ref m, .int (nI sa), .int (nI sb), .int (nI deep), .int (nI (20 * deep)), .int (nI n), v6, v7] [] S I J Q)
    (h2 : ∀ x, x < n → ¬ D x → (∀ g, g < x → D g) → Go d i_X12_goesMaps 192 [.ref m, .int (nI sa), .int (nI sb), .int (nI deep), .int (nI (20 * deep)), .int (nI x), v6, v7] [] S I J Q) :
    Go d i_X12_goesMaps 24 [.ref m, .int (nI sa), .int (nI sb), .int (nI deep), .int (nI (20 * deep)), .int 0, v6, v7] [] S I J Q := by
  have hk := hL.k
  suffices H : ∀ k, k ≤ n → (∀ g, g < k → D g) → ∀ x5, x5 = nI k → Go d i_X12_goesMaps 24 [.ref m, .int (nI sa), .int (nI sb), .int (nI deep), .int (nI (20 * deep)), .int x5, v6, v7] [] S I J Q from H 0 (by omega) (fun g hg => by omega) _ rfl
  refine z_up_to n ?_ ?_
  · rintro hall x5 rfl
    refine b_X12_goesMaps_24 hk ⟨_, _, _, _, m_many (by omega) hA, ?_⟩
    refine b_X12_goesMaps_31 (fun _ => ?_) (fun c => absurd (nI_le (Nat.le_refl _) (by omega)) c)
    exact b_X12_goesMaps_54 hk ⟨_, _, _, _, m_many (by omega) hA, b_X12_goesMaps_61 (fun c => absurd rfl c) (fun _ => h1 hall)⟩
  · rintro k hk' ih hall x5 rfl
    refine b_X12_goesMaps_24 hk ⟨_, _, _, _, m_many (by omega) hA, ?_⟩
    refine b_X12_goesMaps_31 (fun c => absurd c (nI_ge hk' (by omega))) (fun _ => ?_)
    have ei : nI (20 * deep) + nI k = nI (20 * deep + k) := nI_add _ _
    refine b_X12_goesMaps_34 hk (by rw [ei]; exact hL.a24.rd (by omega) (by decide)) (fun c => ?_) (fun c => b_X12_goesMaps_48 (ih (fun g hg => ?_) _ (nI_1 k)))
    · rw [ei, nI_clamp (by omega)] at c
      refine b_X12_goesMaps_54 hk ⟨_, _, _, _, m_many (by omega) hA, b_X12_goesMaps_61 (fun _ => h2 k hk' (fun q => ?_) hall) (fun c2 => ?_)⟩
      · obtain ⟨w1, w2⟩ := (hR k hk').1 q
        rw [w1] at c
        exact nI_nm1 (by omega) c
      · rw [nI_eq (by omega) (by omega)] at c2
        omega
    · rw [ei, nI_clamp (by omega)] at c
      by_cases eg : g = k
      · rw [eg]
        rcases Classical.em (D k) with q | q
        · exact q
        · exact absurd ((hR k hk').2 q) c
      · exact hall g (by omega)
/-- a whole row is a map, and the only one -/
def rowm (n : Nat) (f : Nat → Nat) (x : Nat) : Nat := if x < n then f x else 0
theorem rowm_in {f : Nat → Nat} {x : Nat} (hx : x < n) : rowm n f x = f x := if_pos hx
theorem rowm_gm {D : Nat → Prop} {f : Nat → Nat} {b : Nat} (hg : Grp n t iv) (hR : Rw S I m b n D f) (hP : PH n t t' D f) (hall : ∀ g, g < n → D g) : GM n t t' (rowm n f) := by
  refine ⟨fun x hx => if_neg (by omega), fun x hx => ?_, fun x y hx hy e => ?_, fun x y hx hy => ?_⟩
  · rw [rowm_in hx]; exact ((hR x hx).1 (hall x hx)).2
  · rw [rowm_in hx, rowm_in hy] at e
    exact hP.2.2 x hx y hy (hall x hx) (hall y hy) e
  · rw [rowm_in hx, rowm_in hy, rowm_in (hg.lt hx hy)]
    exact (hP.2.1 x hx y hy (hall x hx) (hall y hy)).2
theorem rowm_uq {D : Nat → Prop} {f φ : Nat → Nat} (hall : ∀ g, g < n → D g) (h : GM n t t' φ) (he : Ex n D f φ) : φ = rowm n f := by
  funext x
  by_cases hx : x < n
  · rw [rowm_in hx]; exact he x hx (hall x hx)
  · rw [h.1 x (by omega)]; exact (if_neg hx).symm
/-- a leaf: one map more, and whether it leads steps on steps -/
theorem m_leaf {deep : Nat} {D : Nat → Prop} {f : Nat → Nat} {Q : zQ} {c27 : Int32} (hd : 1 < d) (hL : MLay S m) (hA : MS S I m sa n t) (hB : MS S I m sb n t') (hg : Grp n t iv) (hdp : deep < 20) (hsa : sa ≤ 2) (hsb : sb ≤ 2) (hst : I (z_rv S m 0) (665 * sa + 1) = nI st) (hst' : I (z_rv S m 0) (665 * sb + 1) = nI st') (hsl : st < 2 ^ n) (hsl' : st' < 2 ^ n) (hR : Rw S I m (20 * deep) n D f) (hall : ∀ g, g < n → D g) (h27 : I m 27 = c27) {v6 v7 : Value}
    (hQ : Q none S (z_u2 (z_u2 I m 26 (I m 26 + 1)) m 27 (c27 + nI (zb (Own n st st' (rowm n f))))) J) : Go d i_X12_goesMaps 104 [.ref m, .int (nI sa), .int (nI sb), .int (nI deep), .int (nI (20 * deep)), .int (nI n), v6, v7] [] S I J Q := by
  have hk := hL.k
  have hn := hg.le
  have h0ne : z_rv S m 0 ≠ m := by rw [hL.a0.1]; omega
  have h24ne : z_rv S m 24 ≠ m := by rw [hL.a24.1]; omega
  obtain ⟨I2, hI2⟩ : ∃ I2, I2 = z_u2 I m 26 (I m 26 + 1) := ⟨_, rfl⟩
  have hA2 : MS S I2 m sa n t := hA.fr (by rw [hI2, z_u2_row h0ne])
  refine b_X12_goesMaps_104 hk hk ?_
  rw [← hI2] at hQ ⊢
  suffices H : ∀ k, k ≤ n → ∀ x6 x7, x6 = nI (zset n (fun j => ∃ g, g < k ∧ st.testBit g = true ∧ f g = j)) → x7 = nI k → Go d i_X12_goesMaps 120 [.ref m, .int (nI sa), .int (nI sb), .int (nI deep), .int (nI (20 * deep)), .int (nI n), .int x6, .int x7] [] S I2 J Q by
    refine H 0 (by omega) _ _ ?_ rfl
    rw [zset_none (fun i _ ⟨g, q, _⟩ => by omega)]; rfl
  have s1 : I2 (z_rv S m 0) (665 * sa + 1) = nI st := by rw [hI2, z_u2_row h0ne]; exact hst
  have s2 : I2 (z_rv S m 0) (665 * sb + 1) = nI st' := by rw [hI2, z_u2_row h0ne]; exact hst'
  refine z_up_to n ?_ ?_
  · rintro x6 x7 rfl rfl
    refine b_X12_goesMaps_120 (fun _ => ?_) (fun c => absurd (nI_le (Nat.le_refl _) (by omega)) c)
    refine b_X12_goesMaps_167 hk hk ⟨_, _, _, _, m_steps (by omega) hL.ma hsb, ?_⟩
    have e27 : I2 m 27 = c27 := by rw [hI2, z_u2_nk (by decide)]; exact h27
    have eo : (zset n (fun j => ∃ g, g < n ∧ st.testBit g = true ∧ f g = j) = st') ↔ Own n st st' (rowm n f) := by
      unfold Own
      rw [zset_congr (p := fun j => ∃ g, g < n ∧ st.testBit g = true ∧ f g = j) (q := fun j => ∃ g, g < n ∧ st.testBit g = true ∧ rowm n f g = j) (fun j _ => ⟨fun ⟨g, q1, q2, q3⟩ => ⟨g, q1, q2, by rw [rowm_in q1]; exact q3⟩, fun ⟨g, q1, q2, q3⟩ => ⟨g, q1, q2, by rw [rowm_in q1] at q3; exact q3⟩⟩)]
    rw [s2, e27]
    refine b_X12_goesMaps_179 (fun c => b_X12_goesMaps_186 hk ?_) (fun c => b_X12_goesMaps_182 hk ?_)
    · rw [nI_eq (z_lt31 hn (zset_lt _ _)) (z_lt31 hn hsl'), eo] at c
      rw [zb_f c] at hQ
      exact hQ
    · rw [nI_eq (z_lt31 hn (zset_lt _ _)) (z_lt31 hn hsl'), eo] at c
      rw [zb_t c] at hQ
      exact hQ
  · rintro k hk' ih x6 x7 rfl rfl
    refine b_X12_goesMaps_120 (fun c => absurd c (nI_ge hk' (by omega))) (fun _ => ?_)
    refine b_X12_goesMaps_127 hk ⟨_, _, _, _, m_steps (by omega) hL.ma hsa, ?_⟩
    rw [s1]
    refine b_X12_goesMaps_134 ⟨_, _, _, _, m_has (by omega) (z_lt31 hn hsl) (by omega), ?_⟩
    have ei : nI (20 * deep) + nI k = nI (20 * deep + k) := nI_add _ _
    obtain ⟨w1, w2⟩ := (hR k hk').1 (hall k hk')
    refine b_X12_goesMaps_139 (fun c => b_X12_goesMaps_157 (ih _ _ ?_ (nI_1 k))) (fun c => b_X12_goesMaps_142 hk (by rw [ei]; exact hL.a24.rd (by omega) (by decide)) (ih _ _ ?_ (nI_1 k)))
    · rw [z_tn0] at c
      rw [z_lit 0, z_or, Nat.or_zero]
      refine congrArg nI (zset_congr (fun j _ => ⟨?_, ?_⟩))
      · rintro ⟨g, q1, q2⟩
        exact ⟨g, by omega, q2⟩
      · rintro ⟨g, q1, q2⟩
        refine ⟨g, ?_, q2⟩
        by_cases eg : g = k
        · rw [eg, c] at q2; cases q2.1
        · omega
    · rw [z_tn1] at c
      rw [ei, nI_clamp (by omega), hI2, z_u2_row h24ne, w1, z_shl1 (by omega), z_or]
      refine congrArg nI (zset_add (p := fun j => ∃ g, g < k ∧ st.testBit g = true ∧ f g = j) (q := fun j => ∃ g, g < k + 1 ∧ st.testBit g = true ∧ f g = j) w2 (fun j _ => ⟨?_, ?_⟩)).symm
      · rintro ⟨g, q1, q2, q3⟩
        by_cases eg : g = k
        · rw [eg] at q3; exact Or.inr q3.symm
        · exact Or.inl ⟨g, by omega, q2, q3⟩
      · rintro (⟨g, q1, q2, q3⟩ | q)
        · exact ⟨g, by omega, q2, q3⟩
        · exact ⟨k, by omega, c, q.symm⟩
/-- all of them -/
def gmQ (S : zS) (I0 : zI) (J : zJ) (m b n st st' : Nat) (t t' : Nat → Nat → Nat) (D : Nat → Prop) (f : Nat → Nat) : zQ := fun v S' I' J' => v = none ∧ S' = S ∧ J' = J ∧ FG S I0 I' m b ∧ ∃ K K', Crd (fun φ => GM n t t' φ ∧ Ex n D f φ) K ∧ Crd (fun φ => GM n t t' φ ∧ Ex n D f φ ∧ Own n st st' φ) K' ∧ I' m 26 = I0 m 26 + nI K ∧ I' m 27 = I0 m 27 + nI K'
theorem i32_add0 (x : Int32) : x + nI 0 = x := by
  rw [nI_0]
  exact Int32.add_zero x
theorem i32_assoc (x : Int32) (a b : Nat) : x + nI a + nI b = x + nI (a + b) := by
  rw [Int32.add_assoc, nI_add]
theorem m_goesMaps (hL : MLay S m) (hg : Grp n t iv) (hg' : Grp n t' iv') (hsa : sa ≤ 2) (hsb : sb ≤ 2) (hsl : st < 2 ^ n) (hsl' : st' < 2 ^ n) : ∀ c d deep I D f, n ≤ deep + c → c + 3 < d → deep + 1 ≤ zcn D n → MS S I m sa n t → MS S I m sb n t' → I (z_rv S m 0) (665 * sa + 1) = nI st → I (z_rv S m 0) (665 * sb + 1) = nI st' → I m 28 = 0 → Rw S I m (20 * deep) n D f → PH n t t' D f → z_wp d i_X12_goesMaps [.ref m, .int (nI sa), .int (nI sb), .int (nI deep)] S I J (gmQ S I J m (20 * deep + 20) n st st' t t' D f) := by
  have hk := hL.k
  have hn := hg.le
  intro c
  induction c with
  | zero =>
    intro d deep I D f h1 _ h2
    have := zcn_le D n
    omega
  | succ c ihc =>
    intro d deep I D f hc hd hz hA hB hst hst' h28 hR hP
    obtain ⟨d, rfl⟩ := z_dep (d := d) (by omega)
    have hzl := zcn_le D n
    refine w_X12_goesMaps (b_X12_goesMaps_0 hk (fun _ => b_X12_goesMaps_15 ?_) (fun q => absurd h28 q))
    rw [show (20 : Int32) * nI deep = nI (20 * deep) by rw [z_lit 20, pk_mul]]
    refine m_where (by omega) hL hA hn (by omega) hR (fun hall => ?_) (fun x hx hxD hlow => b_X12_goesMaps_192 ?_)
    · -- a leaf
      have hgm := rowm_gm hg hR hP hall
      have hex : Ex n D f (rowm n f) := fun g hg' _ => rowm_in hg'
      have leaf : ∀ I', FG S I I' m (20 * deep + 20) → I' m 26 = I m 26 → I' m 27 = I m 27 → ∀ v6 v7, Go d i_X12_goesMaps 104 [.ref m, .int (nI sa), .int (nI sb), .int (nI deep), .int (nI (20 * deep)), .int (nI n), v6, v7] [] S I' J (gmQ S I J m (20 * deep + 20) n st st' t t' D f) := by
        intro I' hF h26 h27 v6 v7
        refine m_leaf (by omega) hL (hF.ms hL hA) (hF.ms hL hB) hg (by omega) hsa hsb (by rw [hF.at0 hL]; exact hst) (by rw [hF.at0 hL]; exact hst') hsl hsl' (hF.rw (by omega) hR) hall h27 ⟨rfl, rfl, rfl, (hF.f hL (Or.inl rfl)).f hL (Or.inr rfl), 1, zb (Own n st st' (rowm n f)), Crd.one ⟨hgm, hex⟩ (fun φ h => rowm_uq hall h.1 h.2), ?_, ?_, ?_⟩
        · by_cases ho : Own n st st' (rowm n f)
          · rw [zb_t ho]
            exact Crd.one ⟨hgm, hex, ho⟩ (fun φ h => rowm_uq hall h.1 h.2.1)
          · rw [zb_f ho]
            exact Crd.zero (fun φ h => ho (by rw [← rowm_uq hall h.1 h.2.1]; exact h.2.2))
        · rw [z_u2_nk (by decide), z_u2_same, h26]; rfl
        · rw [z_u2_same]
      refine b_X12_goesMaps_64 hk (fun _ => leaf I FG.refl rfl rfl _ _) (fun _ => b_X12_goesMaps_71 ?_)
      suffices H : ∀ k, k ≤ n → ∀ I' x6 v7, FG S I I' m (20 * deep + 20) → I' m 26 = I m 26 → I' m 27 = I m 27 → x6 = nI k → Go d i_X12_goesMaps 74 [.ref m, .int (nI sa), .int (nI sb), .int (nI deep), .int (nI (20 * deep)), .int (nI n), .int x6, v7] [] S I' J (gmQ S I J m (20 * deep + 20) n st st' t t' D f) from H 0 (by omega) I _ _ FG.refl rfl rfl rfl
      refine z_up_to n ?_ ?_
      · rintro I' x6 v7 hF h26 h27 rfl
        exact b_X12_goesMaps_74 (fun _ => leaf I' hF h26 h27 _ _) (fun c => absurd (nI_le (Nat.le_refl _) (by omega)) c)
      · rintro k hk' ih I' x6 v7 hF h26 h27 rfl
        refine b_X12_goesMaps_74 (fun c => absurd c (nI_ge hk' (by omega))) (fun _ => ?_)
        have h25ne : m ≠ z_rv S m 25 := by rw [hL.a25.1]; omega
        exact b_X12_goesMaps_81 hk hk (by rw [nI_add]; exact hL.a24.rd (by omega) (by decide)) (hL.a25.wr (by omega) (by decide)) (ih _ _ _ (hF.first hL) (by rw [z_u2_row h25ne]; exact h26) (by rw [z_u2_row h25ne]; exact h27) (nI_1 k))
    · -- a branch
      have hx0 : x ≠ 0 := fun e => hxD (by rw [e]; exact hP.1.1)
      have hlt : zcn D n < n := by
        have h1 := zcn_or (p := D) (q := fun z => z = x) n (fun z _ h1 h2 => hxD (by rw [← h2]; exact h1))
        rw [zcn_eq1 n hx] at h1
        have h2 := zcn_le (fun z => D z ∨ z = x) n
        omega
      suffices H : ∀ y, y ≤ n → 1 ≤ y → ∀ I' x6 v7 K K', FG S I I' m (20 * deep + 20) → Crd (fun φ => GM n t t' φ ∧ Ex n D f φ ∧ φ x < y) K → Crd (fun φ => GM n t t' φ ∧ (Ex n D f φ ∧ φ x < y) ∧ Own n st st' φ) K' → I' m 26 = I m 26 + nI K → I' m 27 = I m 27 + nI K' → x6 = nI y → Go d i_X12_goesMaps 195 [.ref m, .int (nI sa), .int (nI sb), .int (nI deep), .int (nI (20 * deep)), .int (nI x), .int x6, v7] [] S I' J (gmQ S I J m (20 * deep + 20) n st st' t t' D f) by
        have no : ∀ φ, GM n t t' φ → ¬ φ x < 1 := fun φ h1 h2 => hx0 (h1.inj hx hg.pos (by rw [h1.z hg hg']; omega))
        exact H 1 hg.pos (Nat.le_refl _) I _ _ 0 0 FG.refl (Crd.zero (fun φ h => no φ h.1 h.2.2)) (Crd.zero (fun φ h => no φ h.1 h.2.1.2)) (i32_add0 _).symm (i32_add0 _).symm rfl
      refine z_up_to n ?_ ?_
      · rintro _ I' x6 v7 K K' hF hK hK' h26 h27 rfl
        refine b_X12_goesMaps_195 hk ⟨_, _, _, _, m_many (by omega) (hF.ms hL hB), ?_⟩
        refine b_X12_goesMaps_202 (fun _ => b_X12_goesMaps_251 ⟨rfl, rfl, rfl, hF, K, K', hK.cg (fun φ => ⟨fun h => ⟨h.1, h.2.1⟩, fun h => ⟨h.1, h.2, h.1.lt hx⟩⟩), hK'.cg (fun φ => ⟨fun h => ⟨h.1, h.2.1.1, h.2.2⟩, fun h => ⟨h.1, ⟨h.2.1, h.1.lt hx⟩, h.2.2⟩⟩), h26, h27⟩) (fun c => absurd (nI_le (Nat.le_refl _) (by omega)) c)
      · rintro y hy ih hy1 I' x6 v7 K K' hF hK hK' h26 h27 rfl
        have hA' := hF.ms hL hA
        have hB' := hF.ms hL hB
        refine b_X12_goesMaps_195 hk ⟨_, _, _, _, m_many (by omega) hB', ?_⟩
        refine b_X12_goesMaps_202 (fun c => absurd c (nI_ge hy (by omega))) (fun _ => ?_)
        refine b_X12_goesMaps_205 hk ⟨_, _, _, _, m_periodOf (by omega) hA' hg hx, ?_⟩
        refine b_X12_goesMaps_212 hk ⟨_, _, _, _, m_periodOf (by omega) hB' hg' hy, ?_⟩
        -- nothing leads x to y
        have none_ : ∀ I2, FG S I I2 m (20 * deep + 20) → I2 m 26 = I' m 26 → I2 m 27 = I' m 27 → (∀ φ, GM n t t' φ → Ex n D f φ → φ x = y → False) → Go d i_X12_goesMaps 245 [.ref m, .int (nI sa), .int (nI sb), .int (nI deep), .int (nI (20 * deep)), .int (nI x), .int (nI y), v7] [] S I2 J (gmQ S I J m (20 * deep + 20) n st st' t t' D f) := by
          intro I2 hF2 e26 e27 hno
          have step : ∀ φ, GM n t t' φ → Ex n D f φ → (φ x < y ↔ φ x < y + 1) := fun φ h1 h2 => ⟨fun q => by omega, fun q => by
            by_cases e : φ x = y
            · exact absurd e (hno φ h1 h2)
            · omega⟩
          exact b_X12_goesMaps_245 (ih (by omega) I2 _ _ K K' hF2 (hK.cg (fun φ => ⟨fun h => ⟨h.1, h.2.1, (step φ h.1 h.2.1).mp h.2.2⟩, fun h => ⟨h.1, h.2.1, (step φ h.1 h.2.1).mpr h.2.2⟩⟩)) (hK'.cg (fun φ => ⟨fun h => ⟨h.1, ⟨h.2.1.1, (step φ h.1 h.2.1.1).mp h.2.1.2⟩, h.2.2⟩, fun h => ⟨h.1, ⟨h.2.1.1, (step φ h.1 h.2.1.1).mpr h.2.1.2⟩, h.2.2⟩⟩)) (by rw [e26]; exact h26) (by rw [e27]; exact h27) (nI_1 y))
        have p1 := per_le hg hx
        have p2 := per_le hg' hy
        refine b_X12_goesMaps_219 (fun c => none_ I' hF rfl rfl (fun φ h1 h2 h3 => c ?_)) (fun _ => ?_)
        · rw [← h3, h1.per hg hg' hx]
        · have hfl := m_follows (d := d) (J := J) (deep := deep) (x := x) (y := y) (by omega) hL hA' hB' hg hg' (by omega) (hF.rw (by omega) hR) hP hx hxD hy
          refine b_X12_goesMaps_222 hk (hfl.mono ?_)
          rintro v S' I2 J' ⟨r, rfl, rfl, rfl, f1, f2, f3⟩
          have hF2 : FG S' I I2 m (20 * deep + 20) := hF.trans (f1.fg hL)
          have m24 : m ≠ z_rv S' m 24 := by rw [hL.a24.1]; omega
          have e26 : I2 m 26 = I' m 26 := by rw [f1.1 m m24]
          have e27 : I2 m 27 = I' m 27 := by rw [f1.1 m m24]
          cases r with
          | false => exact b_X12_goesMaps_233 (fun _ => none_ I2 hF2 e26 e27 (f3 rfl)) (fun c => absurd rfl c)
          | true =>
            refine b_X12_goesMaps_233 (fun c => absurd c (by decide)) (fun _ => ?_)
            obtain ⟨D', f', g1, g2, g3, g4, g5, g6⟩ := f2 rfl
            have hz' : deep + 1 + 1 ≤ zcn D' n := by
              have h1 := zcn_or (p := D) (q := fun z => z = x) n (fun z _ h1 h2 => hxD (by rw [← h2]; exact h1))
              rw [zcn_eq1 n hx] at h1
              have h2 := zcn_mono (p := fun z => D z ∨ z = x) (q := D') n (fun z hz q => by
                rcases q with q | q
                · exact (g3 z hz q).1
                · rw [q]; exact g4)
              omega
            have e28 : I2 m 28 = 0 := by rw [hF2.2.1 28 (by decide) (by decide)]; exact h28
            have hrec := ihc d (deep + 1) I2 D' f' (by omega) (by omega) hz' (hF2.ms hL hA) (hF2.ms hL hB) (by rw [hF2.at0 hL]; exact hst) (by rw [hF2.at0 hL]; exact hst') e28 (by rw [Nat.mul_add]; exact g1) g2
            refine b_X12_goesMaps_236 hk ?_
            rw [nI_1]
            refine hrec.mono ?_
            rintro v S1 I3 J1 ⟨rfl, rfl, rfl, q1, L, L', q2, q3, q4, q5⟩
            have hF3 : FG S1 I I3 m (20 * deep + 20) := hF2.trans (q1.mono (by omega))
            have key : ∀ φ, GM n t t' φ → ((Ex n D f φ ∧ φ x = y) ↔ Ex n D' f' φ) := fun φ h1 => ⟨fun h2 => g6 φ h1 h2.1 h2.2, fun h2 => ⟨fun g hg' hD => by rw [h2 g hg' (g3 g hg' hD).1, (g3 g hg' hD).2], by rw [h2 x hx g4, g5]⟩⟩
            have c1 := Crd.or hK (q2.cg (q := fun φ => GM n t t' φ ∧ Ex n D f φ ∧ φ x = y) (fun φ => ⟨fun h => ⟨h.1, (key φ h.1).mpr h.2⟩, fun h => ⟨h.1, (key φ h.1).mp h.2⟩⟩)) (fun φ h1 h2 => by have := h1.2.2; have := h2.2.2; omega)
            have c2 := Crd.or hK' (q3.cg (q := fun φ => GM n t t' φ ∧ (Ex n D f φ ∧ φ x = y) ∧ Own n st st' φ) (fun φ => ⟨fun h => ⟨h.1, (key φ h.1).mpr h.2.1, h.2.2⟩, fun h => ⟨h.1, (key φ h.1).mp h.2.1, h.2.2⟩⟩)) (fun φ h1 h2 => by have := h1.2.1.2; have := h2.2.1.2; omega)
            refine b_X12_goesMaps_245 (ih (by omega) I3 _ _ (K + L) (K' + L') hF3 (c1.cg (fun φ => ?_)) (c2.cg (fun φ => ?_)) ?_ ?_ (nI_1 y))
            · constructor
              · rintro (h | h)
                · exact ⟨h.1, h.2.1, by omega⟩
                · exact ⟨h.1, h.2.1, by omega⟩
              · rintro ⟨h1, h2, h3⟩
                by_cases e : φ x = y
                · exact Or.inr ⟨h1, h2, e⟩
                · exact Or.inl ⟨h1, h2, by omega⟩
            · constructor
              · rintro (h | h)
                · exact ⟨h.1, ⟨h.2.1.1, by omega⟩, h.2.2⟩
                · exact ⟨h.1, ⟨h.2.1.1, by omega⟩, h.2.2⟩
              · rintro ⟨h1, ⟨h2, h3⟩, h4⟩
                by_cases e : φ x = y
                · exact Or.inr ⟨h1, ⟨h2, e⟩, h4⟩
                · exact Or.inl ⟨h1, ⟨h2, by omega⟩, h4⟩
            · rw [q4, e26, h26, i32_assoc]
            · rw [q5, e27, h27, i32_assoc]
end M12

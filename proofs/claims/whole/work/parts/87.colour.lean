/-! THE CLASS: its Colouring -/
def KL (S : zS) (c : Nat) : Prop := z_kd S c = 1 ∧ Ar S c 2 (c + 1) 100 20 ∧ Ar S c 3 (c + 2) 100 20 ∧ Ar S c 4 (c + 3) 100 20 ∧ Ar S c 5 (c + 4) 100 20 ∧ Ar S c 6 (c + 5) 100 400 ∧ Ar S c 7 (c + 6) 100 400 ∧ Ar S c 8 (c + 7) 100 20
/-- outside of a colouring's cells -/
def Oc (c h : Nat) : Prop := h < c ∨ c + 7 < h
def KF (I0 I : zI) (c : Nat) : Prop := ∀ h, Oc c h → I h = I0 h
/-- a group that a colouring reads -/
def KG (S : zS) (I : zI) (c g n : Nat) (t : Nat → Nat → Nat) (iv : Nat → Nat) : Prop := CT S I g n t ∧ CR S I g 2 n iv ∧ Grp n t iv ∧ Oc c g ∧ Oc c (z_rv S g 1) ∧ Oc c (z_rv S g 2) ∧ z_rv S g 1 ≠ 0
/-- colours sorted out, of the first b elements -/
def SOb (S : zS) (I : zI) (c n b : Nat) (h : Nat → Int32) (ld cl : Nat → Nat) : Prop := I c 0 = nI n ∧ (∀ z, z < n → I (c + 1) z = h z) ∧ I c 1 = nI (ncs b h) ∧ (∀ k, k < ncs b h → (I (c + 3) k = nI (ld k) ∧ ld k < b) ∧ I (c + 4) k = nI (zcn (fun z => h z = h (ld k)) b)) ∧ (∀ k k', k < ncs b h → k' < ncs b h → h (ld k) = h (ld k') → k = k') ∧ ∀ z, z < b → I (c + 2) z = nI (cl z) ∧ cl z < ncs b h ∧ h (ld (cl z)) = h z
def SPo (S : zS) (I : zI) (c n : Nat) (t : Nat → Nat → Nat) (iv : Nat → Nat) (cl : Nat → Nat) : Prop := (∀ x z, x < n → z < n → I (c + 5) (x * 20 + z) = nI (cl (t (iv x) z))) ∧ ∀ k x, k < 20 → x < n → I (c + 6) (k * 20 + x) = nI (zset n (fun z => cl (t (iv x) z) = k))
section C15
variable {d c g n st : Nat} {t : Nat → Nat → Nat} {iv : Nat → Nat} {h : Nat → Int32} {ld cl : Nat → Nat} {S : zS} {I I0 I1 : zI} {J : zJ}
theorem KF.refl : KF I0 I0 c := fun _ _ => rfl
theorem KF.trans (h1 : KF I0 I c) (h2 : KF I I1 c) : KF I0 I1 c := fun a ha => by rw [h2 a ha]; exact h1 a ha
theorem KF.w {a k : Nat} {v : Int32} (h1 : KF I0 I c) (ha : c ≤ a) (ha2 : a ≤ c + 7) : KF I0 (z_u2 I a k v) c := fun b hb => by
  unfold Oc at hb
  rw [z_u2_row (by omega)]; exact h1 b (by unfold Oc; omega)
theorem KG.fr (hG : KG S I0 c g n t iv) (hF : KF I0 I c) : KG S I c g n t iv := by
  obtain ⟨h1, h2, h3, h4, h5, h6, h7⟩ := hG
  exact ⟨h1.fr (by rw [hF g h4]) (hF _ h5), h2.fr (hF _ h6), h3, h4, h5, h6, h7⟩
theorem c_mix {a b : Int32} (hd : 0 < d) : z_ev d i_X0_mix [.int a, .int b] S I J (some (.int (mixf a b))) S I J := by
  obtain ⟨d, rfl⟩ := z_dep hd
  exact e_X0_mix (b_X0_mix_0 rfl ⟨rfl, rfl, rfl, rfl⟩)
/-- which class has a hue -/
theorem c_classOfHue {b : Nat} {v : Int32} (hd : 0 < d) (hK : KL S c) (hS : SOb S I c n b h ld cl) (hb : b ≤ n) (hn : n ≤ 20) : ∃ k, z_ev d i_X0_classOfHue [.ref c, .int v] S I J (some (.int (nI k))) S I J ∧ ((k < ncs b h ∧ h (ld k) = v) ∨ (k = ncs b h ∧ ∀ j, j < ncs b h → h (ld j) ≠ v)) := by
  obtain ⟨d, rfl⟩ := z_dep hd
  obtain ⟨s1, s2, s3, s4, s5, s6⟩ := hS
  have hC := ncs_le b h
  suffices hw : z_wp (d + 1) i_X0_classOfHue [.ref c, .int v] S I J (fun r S' I' J' => ∃ k, r = some (.int (nI k)) ∧ S' = S ∧ I' = I ∧ J' = J ∧ ((k < ncs b h ∧ h (ld k) = v) ∨ (k = ncs b h ∧ ∀ j, j < ncs b h → h (ld j) ≠ v))) by
    obtain ⟨r, S', I', J', x1, k, rfl, rfl, rfl, rfl, x2⟩ := hw
    exact ⟨k, x1, x2⟩
  refine w_X0_classOfHue (b_X0_classOfHue_0 ?_)
  suffices H : ∀ k, k ≤ ncs b h → (∀ j, j < k → h (ld j) ≠ v) → ∀ x2, x2 = nI k → Go d i_X0_classOfHue 2 [.ref c, .int v, .int x2] [] S I J (fun r S' I' J' => ∃ k, r = some (.int (nI k)) ∧ S' = S ∧ I' = I ∧ J' = J ∧ ((k < ncs b h ∧ h (ld k) = v) ∨ (k = ncs b h ∧ ∀ j, j < ncs b h → h (ld j) ≠ v))) from H 0 (by omega) (fun j hj => by omega) _ rfl
  refine z_up_to (ncs b h) ?_ ?_
  · rintro hno x2 rfl
    refine b_X0_classOfHue_2 hK.1 (fun _ => b_X0_classOfHue_33 hK.1 ⟨ncs b h, by rw [s3], rfl, rfl, rfl, Or.inr ⟨rfl, hno⟩⟩) (fun q => absurd (by rw [s3]; exact nI_le (Nat.le_refl _) (by omega)) q)
  · rintro k hk ih hno x2 rfl
    refine b_X0_classOfHue_2 hK.1 (fun q => absurd q (by rw [s3]; exact nI_ge hk (by omega))) (fun _ => ?_)
    obtain ⟨⟨w1, w2⟩, _⟩ := s4 k hk
    have a4 := hK.2.2.2.1
    have a2 := hK.2.1
    have e1 : I (z_rv S c 4) (nI k).toNatClampNeg = nI (ld k) := by rw [a4.1, nI_clamp (by omega)]; exact w1
    have e2 : I (z_rv S c 2) (Int32.toNatClampNeg (I (z_rv S c 4) (nI k).toNatClampNeg)) = h (ld k) := by rw [e1, a2.1, nI_clamp (by omega)]; exact s2 _ (by omega)
    refine b_X0_classOfHue_10 hK.1 hK.1 (a4.rd (by omega) (by decide)) (by rw [e1]; exact a2.rd (by omega) (by decide)) (fun q => b_X0_classOfHue_27 (ih (fun j hj => ?_) _ (nI_1 k))) (fun q => b_X0_classOfHue_25 ⟨k, rfl, rfl, rfl, rfl, Or.inl ⟨hk, ?_⟩⟩)
    · rw [e2] at q
      by_cases e : j = k
      · rw [e]; exact q
      · exact hno j (by omega)
    · rw [e2] at q; exact q
theorem c_sortOut (hd : 1 < d) (hK : KL S c) (hn : n ≤ 20) (h0 : I0 c 0 = nI n) (hh : ∀ z, z < n → I0 (c + 1) z = h z) : ∃ I' ld cl, z_ev d i_X0_sortOut [.ref c] S I0 J none S I' J ∧ KF I0 I' c ∧ SOb S I' c n n h ld cl := by
  obtain ⟨d, rfl⟩ := z_dep (d := d) (by omega)
  obtain ⟨hk, a2, a3, a4, a5, a6, a7, a8⟩ := hK
  have hK : KL S c := ⟨hk, a2, a3, a4, a5, a6, a7, a8⟩
  suffices hw : z_wp (d + 1) i_X0_sortOut [.ref c] S I0 J (fun v S' I' J' => v = none ∧ S' = S ∧ J' = J ∧ KF I0 I' c ∧ ∃ ld cl, SOb S I' c n n h ld cl) by
    obtain ⟨v, S', I', J', x1, rfl, rfl, rfl, x2, ld, cl, x3⟩ := hw
    exact ⟨I', ld, cl, x1, x2, x3⟩
  refine w_X0_sortOut (b_X0_sortOut_0 hk ?_)
  suffices H : ∀ b, b ≤ n → ∀ I ld cl x1 v2, KF I0 I c → SOb S I c n b h ld cl → x1 = nI b → Go d i_X0_sortOut 7 [.ref c, .int x1, v2] [] S I J (fun v S' I' J' => v = none ∧ S' = S ∧ J' = J ∧ KF I0 I' c ∧ ∃ ld cl, SOb S I' c n n h ld cl) from H 0 (by omega) _ (fun _ => 0) (fun _ => 0) _ _ (KF.refl.w (Nat.le_refl _) (by omega)) ⟨by rw [z_u2_nk (by decide)]; exact h0, fun z hz => by rw [z_u2_row (by omega)]; exact hh z hz, z_u2_same, fun k hk => absurd hk (Nat.not_lt_zero _), fun k k' hk => absurd hk (Nat.not_lt_zero _), fun z hz => by omega⟩ rfl
  refine z_up_to n ?_ ?_
  · rintro I ld cl x1 v2 hF hS rfl
    exact b_X0_sortOut_7 hk (fun _ => b_X0_sortOut_81 ⟨rfl, rfl, rfl, hF, ld, cl, hS⟩) (fun q => absurd (by rw [hS.1]; exact nI_le (Nat.le_refl _) (by omega)) q)
  · rintro b hb ih I ld cl x1 v2 hF hS rfl
    have hS' := hS
    obtain ⟨s1, s2, s3, s4, s5, s6⟩ := hS'
    have hC := ncs_le b h
    refine b_X0_sortOut_7 hk (fun q => absurd q (by rw [s1]; exact nI_ge hb (by omega))) (fun _ => ?_)
    obtain ⟨k, k1, k2⟩ := c_classOfHue (d := d) (J := J) (v := h b) (by omega) hK hS (by omega) hn
    refine b_X0_sortOut_15 hk (a2.rd (by omega) (by decide)) hk ⟨_, _, _, _, by rw [a2.1, nI_clamp (by omega), s2 b hb]; exact k1, ?_⟩
    rcases k2 with ⟨k2, k3⟩ | ⟨k2, k3⟩
    · have hnl : ¬ ledp h b := fun q => q (ld k) (s4 k k2).1.2 k3
      have en : ncs (b + 1) h = ncs b h := zcn_f (p := ledp h) hnl
      refine b_X0_sortOut_25 hk (fun _ => ?_) (fun q => ?_)
      · have e5 : z_u2 I (z_rv S c 3) (nI b).toNatClampNeg (nI k) (z_rv S c 5) (nI k).toNatClampNeg = nI (zcn (fun z => h z = h (ld k)) b) := by
          rw [a3.1, a5.1, nI_clamp (by omega), nI_clamp (by omega), z_u2_row (by omega)]; exact (s4 k k2).2
        refine b_X0_sortOut_58 hk (a3.wr (by omega) (by decide)) hk (a5.rd (by omega) (by decide)) (a5.wr (by omega) (by decide)) rfl ?_
        rw [e5, a3.1, a5.1, nI_clamp (by omega), nI_clamp (by omega)]
        refine ih _ ld (zput cl b k) _ _ ((hF.w (by omega) (by omega)).w (by omega) (by omega)) ⟨?_, fun z hz => ?_, ?_, fun k' hk' => ⟨?_, ?_⟩, ?_, fun z hz => ?_⟩ (nI_1 b)
        · rw [z_u2_row (by omega), z_u2_row (by omega)]; exact s1
        · rw [z_u2_row (by omega), z_u2_row (by omega)]; exact s2 z hz
        · rw [z_u2_row (by omega), z_u2_row (by omega), en]; exact s3
        · rw [en] at hk'
          rw [z_u2_row (by omega), z_u2_row (by omega)]
          exact ⟨(s4 k' hk').1.1, by have := (s4 k' hk').1.2; omega⟩
        · rw [en] at hk'
          by_cases e : k' = k
          · rw [e, z_u2_same, zcn_t (p := fun z => h z = h (ld k)) k3.symm]
            exact nI_1 _
          · rw [z_u2_nk e, z_u2_row (by omega), (s4 k' hk').2, zcn_f (p := fun z => h z = h (ld k')) (fun q => e (s5 k' k hk' k2 (by rw [← q, k3])))]
        · rw [en]; exact s5
        · rw [en, z_u2_row (by omega)]
          by_cases e : z = b
          · rw [e, z_u2_same, zput_s]; exact ⟨rfl, k2, k3⟩
          · rw [z_u2_nk e, zput_n e]; exact s6 z (by omega)
      · rw [s3, nI_eq (by omega) (by omega)] at q
        omega
    · subst k2
      have hl : ledp h b := fun y hy q => by
        obtain ⟨_, y2, y3⟩ := s6 y hy
        exact k3 (cl y) y2 (by rw [y3, q])
      have en : ncs (b + 1) h = ncs b h + 1 := zcn_t (p := ledp h) hl
      refine b_X0_sortOut_25 hk (fun q => absurd s3.symm q) (fun _ => ?_)
      obtain ⟨K, hKK⟩ : ∃ K, K = ncs b h := ⟨_, rfl⟩
      rw [← hKK] at s3 s4 s5 s6 hC k3 en ⊢
      obtain ⟨IA, hIA⟩ : ∃ IA, IA = z_u2 (z_u2 (z_u2 I (c + 3) K (nI b)) (c + 4) K 0) c 1 (nI (K + 1)) := ⟨_, rfl⟩
      have e1 : z_u2 (z_u2 I (z_rv S c 4) (nI K).toNatClampNeg (nI b)) (z_rv S c 5) (nI K).toNatClampNeg 0 c 1 + 1 = nI (K + 1) := by
        rw [a4.1, a5.1, z_u2_row (by omega), z_u2_row (by omega), s3, nI_1]
      have eA : z_u2 (z_u2 (z_u2 I (z_rv S c 4) (nI K).toNatClampNeg (nI b)) (z_rv S c 5) (nI K).toNatClampNeg 0) c 1 (z_u2 (z_u2 I (z_rv S c 4) (nI K).toNatClampNeg (nI b)) (z_rv S c 5) (nI K).toNatClampNeg 0 c 1 + 1) = IA := by
        rw [e1, hIA, a4.1, a5.1, nI_clamp (by omega)]
      refine b_X0_sortOut_34 hk (a4.wr (by omega) (by decide)) hk (a5.wr (by omega) (by decide)) hk hk eA.symm hk (a3.wr (by omega) (by decide)) hk (a5.rd (by omega) (by decide)) (a5.wr (by omega) (by decide)) rfl ?_
      have e5 : z_u2 IA (z_rv S c 3) (nI b).toNatClampNeg (nI K) (z_rv S c 5) (nI K).toNatClampNeg + 1 = nI 1 := by
        rw [a3.1, a5.1, nI_clamp (by omega), nI_clamp (by omega), z_u2_row (by omega), hIA, z_u2_row (by omega), z_u2_same]; rfl
      rw [e5, a3.1, a5.1, nI_clamp (by omega), nI_clamp (by omega)]
      have r0 : ∀ a, a ≠ c → a ≠ c + 3 → a ≠ c + 4 → IA a = I a := fun a g1 g2 g3 => by rw [hIA, z_u2_row g1, z_u2_row g3, z_u2_row g2]
      refine ih _ (zput ld K b) (zput cl b K) _ _ ((KF.w (KF.w (by rw [hIA]; exact ((hF.w (by omega) (by omega)).w (by omega) (by omega)).w (Nat.le_refl _) (by omega)) (by omega) (by omega)) (by omega) (by omega))) ⟨?_, fun z hz => ?_, ?_, fun k' hk' => ⟨?_, ?_⟩, fun k' k'' hk' hk'' q => ?_, fun z hz => ?_⟩ (nI_1 b)
      · rw [z_u2_row (by omega), z_u2_row (by omega), hIA, z_u2_nk (by decide), z_u2_row (by omega), z_u2_row (by omega)]; exact s1
      · rw [z_u2_row (by omega), z_u2_row (by omega), r0 _ (by omega) (by omega) (by omega)]; exact s2 z hz
      · rw [z_u2_row (by omega), z_u2_row (by omega), hIA, z_u2_same, en]
      · rw [en] at hk'
        rw [z_u2_row (by omega), z_u2_row (by omega), hIA, z_u2_row (by omega), z_u2_row (by omega)]
        by_cases e : k' = K
        · rw [e, z_u2_same, zput_s]; exact ⟨rfl, by omega⟩
        · rw [z_u2_nk e, zput_n e]
          exact ⟨(s4 k' (by omega)).1.1, by have := (s4 k' (by omega)).1.2; omega⟩
      · rw [en] at hk'
        by_cases e : k' = K
        · rw [e, z_u2_same, zput_s, zcn_t (p := fun z => h z = h b) rfl, zcn_none b (fun z hz q => hl z hz q)]
        · rw [z_u2_nk e, z_u2_row (by omega), zput_n e, hIA, z_u2_row (by omega), z_u2_nk e, z_u2_row (by omega), (s4 k' (by omega)).2, zcn_f (p := fun z => h z = h (ld k')) (fun q => k3 k' (by omega) q.symm)]
      · rw [en] at hk' hk''
        by_cases e : k' = K
        · by_cases e2 : k'' = K
          · omega
          · rw [e, zput_s, zput_n e2] at q
            exact absurd q.symm (k3 k'' (by omega))
        · by_cases e2 : k'' = K
          · rw [e2, zput_s, zput_n e] at q
            exact absurd q (k3 k' (by omega))
          · rw [zput_n e, zput_n e2] at q
            exact s5 k' k'' (by omega) (by omega) q
      · rw [z_u2_row (by omega), en]
        by_cases e : z = b
        · rw [e, z_u2_same, zput_s, zput_s]; exact ⟨rfl, by omega, rfl⟩
        · rw [z_u2_nk e, zput_n e, r0 _ (by omega) (by omega) (by omega)]
          obtain ⟨w1, w2, w3⟩ := s6 z (by omega)
          exact ⟨w1, by omega, by rw [zput_n (by omega)]; exact w3⟩
theorem c_refine (hd : 1 < d) (hK : KL S c) (hG : KG S I0 c g n t iv) (h0 : I0 c 0 = nI n) (hh : ∀ z, z < n → I0 (c + 1) z = h z) : ∃ I', z_ev d i_X0_refine [.ref c, .ref g] S I0 J none S I' J ∧ KF I0 I' c ∧ I' c 0 = nI n ∧ I' c 1 = I0 c 1 ∧ ∀ z, z < n → I' (c + 1) z = hrf n t iv h z := by
  obtain ⟨d, rfl⟩ := z_dep (d := d) (by omega)
  obtain ⟨hk, a2, a3, a4, a5, a6, a7, a8⟩ := hK
  have hg := hG.2.2.1
  have hn := hg.le
  have hn2 := z_sq400 hn
  suffices hw : z_wp (d + 1) i_X0_refine [.ref c, .ref g] S I0 J (fun v S' I' J' => v = none ∧ S' = S ∧ J' = J ∧ KF I0 I' c ∧ I' c 0 = nI n ∧ I' c 1 = I0 c 1 ∧ ∀ z, z < n → I' (c + 1) z = hrf n t iv h z) by
    obtain ⟨v, S', I', J', x1, rfl, rfl, rfl, x2⟩ := hw
    exact ⟨I', x1, x2⟩
  refine w_X0_refine (b_X0_refine_0 hG.1.1 hG.2.2.2.2.2.2 ?_)
  -- the first loop fills fresh
  suffices H : ∀ z, z ≤ n → ∀ I x3 v4 v5, (∀ a, a ≠ c + 7 → I a = I0 a) → (∀ y, y < z → I (c + 7) y = hrf n t iv h y) → x3 = nI z → Go d i_X0_refine 7 [.ref c, .ref g, .ref (z_rv S g 1), .int x3, v4, v5] [] S I J (fun v S' I' J' => v = none ∧ S' = S ∧ J' = J ∧ KF I0 I' c ∧ I' c 0 = nI n ∧ I' c 1 = I0 c 1 ∧ ∀ z, z < n → I' (c + 1) z = hrf n t iv h z) from H 0 (by omega) I0 _ _ _ (fun _ _ => rfl) (fun y hy => by omega) rfl
  refine z_up_to n ?_ ?_
  · rintro I x3 v4 v5 hF hf rfl
    refine b_X0_refine_7 hk (fun _ => b_X0_refine_108 ?_) (fun q => absurd (by rw [hF c (by omega), h0]; exact nI_le (Nat.le_refl _) (by omega)) q)
    suffices H2 : ∀ z, z ≤ n → ∀ I' x3, (∀ a, a ≠ c + 1 → I' a = I a) → (∀ y, y < z → I' (c + 1) y = hrf n t iv h y) → x3 = nI z → Go d i_X0_refine 110 [.ref c, .ref g, .ref (z_rv S g 1), .int x3, v4, v5] [] S I' J (fun v S' I' J' => v = none ∧ S' = S ∧ J' = J ∧ KF I0 I' c ∧ I' c 0 = nI n ∧ I' c 1 = I0 c 1 ∧ ∀ z, z < n → I' (c + 1) z = hrf n t iv h z) from H2 0 (by omega) I _ (fun _ _ => rfl) (fun y hy => by omega) rfl
    refine z_up_to n ?_ ?_
    · rintro I' x3 hF2 hf2 rfl
      refine b_X0_refine_110 hk (fun _ => b_X0_refine_136 ⟨rfl, rfl, rfl, fun a ha => by unfold Oc at ha; rw [hF2 a (by omega), hF a (by omega)], by rw [hF2 c (by omega), hF c (by omega)]; exact h0, by rw [hF2 c (by omega), hF c (by omega)], hf2⟩) (fun q => absurd (by rw [hF2 c (by omega), hF c (by omega), h0]; exact nI_le (Nat.le_refl _) (by omega)) q)
    · rintro z hz ih I' x3 hF2 hf2 rfl
      refine b_X0_refine_110 hk (fun q => absurd q (by rw [hF2 c (by omega), hF c (by omega), h0]; exact nI_ge hz (by omega))) (fun _ => ?_)
      refine b_X0_refine_118 hk hk (a8.rd (by omega) (by decide)) (a2.wr (by omega) (by decide)) (ih _ _ (fun a ha => by rw [a2.1, z_u2_row ha]; exact hF2 a ha) (fun y hy => ?_) (nI_1 z))
      rw [a2.1, a8.1, nI_clamp (by omega)]
      by_cases e : y = z
      · rw [e, z_u2_same, hF2 _ (by omega)]; exact hf z hz
      · rw [z_u2_nk e]; exact hf2 y (by omega)
  · rintro z hz ih I x3 v4 v5 hF hf rfl
    have hKF : KF I0 I c := fun a ha => by unfold Oc at ha; exact hF a (by omega)
    have hG' := hG.fr hKF
    have c0 : I c 0 = nI n := by rw [hF c (by omega)]; exact h0
    have hu : ∀ z, z < n → I (c + 1) z = h z := fun z hz => by rw [hF _ (by omega)]; exact hh z hz
    refine b_X0_refine_7 hk (fun q => absurd q (by rw [c0]; exact nI_ge hz (by omega))) (fun _ => b_X0_refine_15 ?_)
    suffices H2 : ∀ x, x ≤ n → ∀ x4 x5, x4 = zsm (fun x => mixf (h x) (h (t (iv x) z))) x → x5 = nI x → Go d i_X0_refine 21 [.ref c, .ref g, .ref (z_rv S g 1), .int (nI z), .int x4, .int x5] [] S I J (fun v S' I' J' => v = none ∧ S' = S ∧ J' = J ∧ KF I0 I' c ∧ I' c 0 = nI n ∧ I' c 1 = I0 c 1 ∧ ∀ z, z < n → I' (c + 1) z = hrf n t iv h z) from H2 0 (by omega) _ _ rfl rfl
    refine z_up_to n ?_ ?_
    · rintro x4 x5 rfl rfl
      refine b_X0_refine_21 hk (fun _ => ?_) (fun q => absurd (by rw [c0]; exact nI_le (Nat.le_refl _) (by omega)) q)
      have ez : I (z_rv S c 2) (nI z).toNatClampNeg = h z := by rw [a2.1, nI_clamp (by omega)]; exact hu z hz
      refine b_X0_refine_72 hk hk (a2.rd (by omega) (by decide)) ⟨_, _, _, _, by rw [ez]; exact c_mix (by omega), ?_⟩
      refine b_X0_refine_88 hk (a2.rd (by omega) (by decide)) (a8.wr (by omega) (by decide)) rfl (ih _ _ _ _ (fun a ha => by rw [a8.1, z_u2_row ha]; exact hF a ha) (fun y hy => ?_) (nI_1 z))
      rw [ez, a8.1, nI_clamp (by omega)]
      by_cases e : y = z
      · rw [e, z_u2_same]; rfl
      · rw [z_u2_nk e]; exact hf y (by omega)
    · rintro x hx ih2 x4 x5 rfl rfl
      obtain ⟨i1, i2⟩ := hG'.2.1.at hx (by omega)
      obtain ⟨q1, q2, q3, q4, q5, q6⟩ := hG'.1
      have hix := hg.il hx
      have htz := hg.lt hix hz
      obtain ⟨k1, k2⟩ := m_idx (a := iv x * n + z) (N := n * n) (x := I (z_rv S g 2) (nI x).toNatClampNeg * I c 0 + nI z) (by rw [i2, c0, pk_mul, nI_add]) (z_sq hix hz) (by omega)
      have et : I (z_rv S g 1) (Int32.toNatClampNeg (I (z_rv S g 2) (nI x).toNatClampNeg * I c 0 + nI z)) = nI (t (iv x) z) := by rw [k2]; exact q6 _ hix z hz
      have ex : I (z_rv S c 2) (nI x).toNatClampNeg = h x := by rw [a2.1, nI_clamp (by omega)]; exact hu x hx
      have ey : I (z_rv S c 2) (Int32.toNatClampNeg (I (z_rv S g 1) (Int32.toNatClampNeg (I (z_rv S g 2) (nI x).toNatClampNeg * I c 0 + nI z)))) = h (t (iv x) z) := by rw [et, a2.1, nI_clamp (by omega)]; exact hu _ htz
      refine b_X0_refine_21 hk (fun q => absurd q (by rw [c0]; exact nI_ge hx (by omega))) (fun _ => ?_)
      refine b_X0_refine_30 hk (a2.rd (by omega) (by decide)) hk hG.1.1 i1 hk ⟨by rw [q4]; rfl, by rw [q5]; exact k1⟩ (by rw [et]; exact a2.rd (by omega) (by decide)) ⟨_, _, _, _, by rw [ex, ey]; exact c_mix (by omega), ?_⟩
      exact b_X0_refine_63 (ih2 _ _ rfl (nI_1 x))
theorem c_paint (hd : 2 < d) (hK : KL S c) (hG : KG S I0 c g n t iv) (hst : st < 2 ^ n) : ∃ I' ld cl, z_ev d i_X0_paint [.ref c, .ref g, .int (nI st)] S I0 J none S I' J ∧ KF I0 I' c ∧ SOb S I' c n n (HU n t iv st) ld cl := by
  obtain ⟨d, rfl⟩ := z_dep (d := d) (by omega)
  obtain ⟨hk, a2, a3, a4, a5, a6, a7, a8⟩ := hK
  have hK : KL S c := ⟨hk, a2, a3, a4, a5, a6, a7, a8⟩
  have hg := hG.2.2.1
  have hn := hg.le
  have hs31 := z_lt31 hn hst
  suffices hw : z_wp (d + 1) i_X0_paint [.ref c, .ref g, .int (nI st)] S I0 J (fun v S' I' J' => v = none ∧ S' = S ∧ J' = J ∧ KF I0 I' c ∧ ∃ ld cl, SOb S I' c n n (HU n t iv st) ld cl) by
    obtain ⟨v, S', I', J', x1, rfl, rfl, rfl, x2, ld, cl, x3⟩ := hw
    exact ⟨I', ld, cl, x1, x2, x3⟩
  refine w_X0_paint (b_X0_paint_0 hG.1.1 hk ?_)
  rw [hG.1.2.1]
  suffices H : ∀ z, z ≤ n → ∀ I x3 v4, KF I0 I c → I c 0 = nI n → (∀ y, y < z → I (c + 1) y = hu0 iv st y) → x3 = nI z → Go d i_X0_paint 10 [.ref c, .ref g, .int (nI st), .int x3, v4] [] S I J (fun v S' I' J' => v = none ∧ S' = S ∧ J' = J ∧ KF I0 I' c ∧ ∃ ld cl, SOb S I' c n n (HU n t iv st) ld cl) from H 0 (by omega) _ _ _ (KF.refl.w (Nat.le_refl _) (by omega)) z_u2_same (fun y hy => by omega) rfl
  refine z_up_to n ?_ ?_
  · rintro I x3 v4 hF c0 hu rfl
    obtain ⟨I1, ld, cl, b1, b2, b3⟩ := c_sortOut (d := d) (J := J) (by omega) hK hn c0 hu
    refine b_X0_paint_10 hk (fun _ => b_X0_paint_58 hk ⟨_, _, _, _, b1, b_X0_paint_62 ?_⟩) (fun q => absurd (by rw [c0]; exact nI_le (Nat.le_refl _) (by omega)) q)
    suffices H2 : ∀ i, i ≤ n → ∀ I x3 v4 h ld cl, KF I0 I c → SOb S I c n n h ld cl → hpt n t iv (n - i) h = HU n t iv st → x3 = nI i → Go d i_X0_paint 64 [.ref c, .ref g, .int (nI st), .int x3, v4] [] S I J (fun v S' I' J' => v = none ∧ S' = S ∧ J' = J ∧ KF I0 I' c ∧ ∃ ld cl, SOb S I' c n n (HU n t iv st) ld cl) from H2 0 (by omega) I1 _ _ _ ld cl (hF.trans b2) b3 rfl rfl
    refine z_up_to n ?_ ?_
    · rintro I x3 v4 h ld cl hF hS hh rfl
      rw [Nat.sub_self] at hh
      have hh' : h = HU n t iv st := hh
      rw [hh'] at hS
      exact b_X0_paint_64 hk (fun _ => b_X0_paint_103 ⟨rfl, rfl, rfl, hF, ld, cl, hS⟩) (fun q => absurd (by rw [hS.1]; exact nI_le (Nat.le_refl _) (by omega)) q)
    · rintro i hi ih I x3 v4 h ld cl hF hS hh rfl
      refine b_X0_paint_64 hk (fun q => absurd q (by rw [hS.1]; exact nI_ge hi (by omega))) (fun _ => ?_)
      obtain ⟨I2, e1, e2, e3, e4, e5⟩ := c_refine (d := d) (J := J) (by omega) hK (hG.fr hF) hS.1 hS.2.1
      obtain ⟨I3, ld3, cl3, f1, f2, f3⟩ := c_sortOut (d := d) (J := J) (by omega) hK hn e3 e5
      refine b_X0_paint_72 hk hk ⟨_, _, _, _, e1, b_X0_paint_83 hk ⟨_, _, _, _, f1, ?_⟩⟩
      have hC1 := ncs_le n h
      have hC2 := ncs_le n (hrf n t iv h)
      obtain ⟨k, hkk⟩ : ∃ k, n - i = k + 1 := ⟨n - i - 1, by omega⟩
      rw [hkk] at hh
      have hh' : (if ncs n (hrf n t iv h) = ncs n h then hrf n t iv h else hpt n t iv k (hrf n t iv h)) = HU n t iv st := hh
      rw [hS.2.2.1]
      refine b_X0_paint_87 hk (fun q => b_X0_paint_97 (ih I3 _ _ _ ld3 cl3 ((hF.trans e2).trans f2) f3 ?_ (nI_1 i))) (fun q => b_X0_paint_96 ⟨rfl, rfl, rfl, (hF.trans e2).trans f2, ld3, cl3, ?_⟩)
      · rw [f3.2.2.1, nI_eq (by omega) (by omega)] at q
        rw [if_neg q] at hh'
        rw [show n - (i + 1) = k by omega]
        exact hh'
      · rw [f3.2.2.1, nI_eq (by omega) (by omega)] at q
        rw [if_pos q] at hh'
        rw [← hh']
        exact f3
  · rintro z hz ih I x3 v4 hF c0 hu rfl
    have hG' := hG.fr hF
    obtain ⟨i1, i2⟩ := hG'.2.1.at hz (by omega)
    have hiz := hg.il hz
    refine b_X0_paint_10 hk (fun q => absurd q (by rw [c0]; exact nI_ge hz (by omega))) (fun _ => ?_)
    have next : ∀ w, w = hu0 iv st z → Go d i_X0_paint 10 [.ref c, .ref g, .int (nI st), .int (nI z + 1), v4] [] S (z_u2 I (z_rv S c 2) (nI z).toNatClampNeg w) J (fun v S' I' J' => v = none ∧ S' = S ∧ J' = J ∧ KF I0 I' c ∧ ∃ ld cl, SOb S I' c n n (HU n t iv st) ld cl) := by
      intro w hw
      rw [a2.1, nI_clamp (by omega)]
      refine ih _ _ _ (hF.w (by omega) (by omega)) (by rw [z_u2_row (by omega)]; exact c0) (fun y hy => ?_) (nI_1 z)
      by_cases e : y = z
      · rw [e, z_u2_same, hw]
      · rw [z_u2_nk e]; exact hu y (by omega)
    refine b_X0_paint_18 hk (fun q => ?_) (fun q => b_X0_paint_27 (a2.wr (by omega) (by decide)) (next _ ?_))
    · rw [z_eq0 (by omega)] at q
      refine b_X0_paint_31 hG.1.1 i1 rfl (a2.wr (by omega) (by decide)) (next _ ?_)
      rw [i2, z_bit hs31 (by omega), z_bit hs31 (by omega)]
      unfold hu0
      rw [if_neg q, z_lit 1, z_lit 2, pk_mul, nI_add, nI_add]
    · rw [z_eq0 (by omega)] at q
      unfold hu0
      rw [if_pos q]
end C15

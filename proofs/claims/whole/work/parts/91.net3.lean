/-! THE CLASS: painted networks; does one lead on another -/
def Pnt (S : zS) (I : zI) (c n : Nat) (t : Nat → Nat → Nat) (iv : Nat → Nat) (st : Nat) : Prop := ∃ ld cl, SOb S I c n n (HU n t iv st) ld cl ∧ SPo S I c n t iv cl
/-- like colours -/
def MMh (t t' : Nat → Nat → Nat) (iv iv' : Nat → Nat) (h h' : Nat → Int32) (x z y z' : Nat) : Prop := h (t (iv x) z) = h' (t' (iv' y) z')
def setR2 (S : zS) (p c c' : Nat) : zS := z_setR (z_setR S p 0 c) p 1 c'
section C18
variable {d c c' p w g n n' st st' : Nat} {t t' : Nat → Nat → Nat} {iv iv' : Nat → Nat} {S : zS} {I I0 I1 : zI} {J : zJ}
theorem Pnt.fr (h : Pnt S I0 c n t iv st) (hF : ∀ a, c ≤ a → a ≤ c + 7 → I a = I0 a) : Pnt S I c n t iv st := by
  obtain ⟨ld, cl, h1, h2⟩ := h
  exact ⟨ld, cl, h1.fr (fun a g1 g2 => hF a g1 (by omega)), h2.fr (fun a g1 g2 => hF a (by omega) (by omega))⟩
theorem c_painted (hd : 3 < d) (hw : z_kd S w = 9) (hc : z_rv S w 10 = c) (hK : KL S c) (hG : KG S I0 c (z_rv S w 0) n t iv) (hs : I0 w 1 = nI st) (hst : st < 2 ^ n) (hwc : Oc c w) (hwg : w ≠ z_rv S w 0 ∧ w ≠ z_rv S (z_rv S w 0) 1 ∧ w ≠ z_rv S (z_rv S w 0) 2) (hp : I0 w 9 = 0 ∨ (I0 w 9 = 1 ∧ Pnt S I0 c n t iv st)) : ∃ I', z_ev d i_X8_painted [.ref w] S I0 J (some (.ref c)) S I' J ∧ (∀ a, a ≠ w → Oc c a → I' a = I0 a) ∧ (∀ k, k ≠ 9 → I' w k = I0 w k) ∧ I' w 9 = 1 ∧ Pnt S I' c n t iv st := by
  obtain ⟨d, rfl⟩ := z_dep (d := d) (by omega)
  have wc := hwc
  unfold Oc at wc
  rcases hp with hp | ⟨hp, hP⟩
  · obtain ⟨I1, ld, cl, a1, a2, a3⟩ := c_paint (d := d) (J := J) (by omega) hK hG hst
    obtain ⟨I2, b1, b2, b3, b4⟩ := c_spreadOut (d := d) (J := J) (by omega) hK (hG.fr a2) a3
    have e1 : I2 w = I0 w := by rw [b2 w hwc, a2 w hwc]
    refine ⟨z_u2 I2 w 9 1, e_X8_painted (b_X8_painted_0 hw (fun q => absurd hp q) (fun _ => b_X8_painted_7 hw hw hw (by rw [hc]; exact hK.1) ⟨_, _, _, _, by rw [hc, hs]; exact a1, ?_⟩)), fun a h1 h2 => by rw [z_u2_row h1, b2 a h2, a2 a h2], fun k hk => by rw [z_u2_nk hk, e1], z_u2_same, ld, cl, b3.fr (fun a h1 h2 => by rw [z_u2_row (by omega)]), b4.fr (fun a h1 h2 => by rw [z_u2_row (by omega)])⟩
    refine b_X8_painted_22 hw hw (by rw [hc]; exact hK.1) ⟨_, _, _, _, by rw [hc]; exact b1, ?_⟩
    exact b_X8_painted_33 ⟨hw, Or.inr rfl⟩ hw ⟨by rw [hc], rfl, rfl, rfl⟩
  · exact ⟨I0, e_X8_painted (b_X8_painted_0 hw (fun _ => b_X8_painted_38 hw ⟨by rw [hc], rfl, rfl, rfl⟩) (fun q => absurd q (by rw [hp]; decide))), fun _ _ _ => rfl, fun _ _ => rfl, hp, hP⟩
theorem setR2_ne {h : Nat} (hh : h ≠ p) : z_rv (setR2 S p c c') h = z_rv S h := by
  funext j
  unfold setR2
  rw [z_rv_setR, if_neg hh, z_rv_setR, if_neg hh]
theorem setR2_k {k : Nat} (hk : 2 ≤ k) : z_rv (setR2 S p c c') p k = z_rv S p k := by
  unfold setR2
  rw [z_rv_setR, if_pos rfl, if_neg (by omega), z_rv_setR, if_pos rfl, if_neg (by omega)]
theorem setR2_v : z_rv (setR2 S p c c') p 0 = c ∧ z_rv (setR2 S p c c') p 1 = c' := by
  unfold setR2
  refine ⟨?_, ?_⟩
  · rw [z_rv_setR, if_pos rfl, if_neg (by decide), z_rv_setR, if_pos rfl, if_pos rfl]
  · rw [z_rv_setR, if_pos rfl, if_pos rfl]
def SN (S S' : zS) (p : Nat) : Prop := (∀ h, z_kd S' h = z_kd S h ∧ z_ln S' h = z_ln S h) ∧ (z_sz S' = z_sz S ∧ z_ce S' = z_ce S ∧ z_sl S' = z_sl S) ∧ (∀ h, h ≠ p → z_rv S' h = z_rv S h) ∧ ∀ k, 2 ≤ k → z_rv S' p k = z_rv S p k
theorem SN.refl : SN S S p := ⟨fun _ => ⟨rfl, rfl⟩, ⟨rfl, rfl, rfl⟩, fun _ _ => rfl, fun _ _ => rfl⟩
theorem SN.set : SN S (setR2 S p c c') p := ⟨fun _ => ⟨rfl, rfl⟩, ⟨rfl, rfl, rfl⟩, fun _ hh => setR2_ne hh, fun _ hk => setR2_k hk⟩
theorem ML.sn {S' : zS} (h : ML S p) (hs : SN S S' p) : ML S' p := by
  obtain ⟨h1, h2, h3, h4⟩ := h
  refine ⟨by rw [(hs.1 p).1]; exact h1, ⟨by rw [hs.2.2.2 4 (by decide)]; exact h2.1, ?_⟩, ⟨by rw [hs.2.2.2 5 (by decide)]; exact h3.1, ?_⟩, ⟨by rw [hs.2.2.2 6 (by decide)]; exact h4.1, ?_⟩⟩
  · rw [(hs.1 _).1, (hs.1 _).2]; exact h2.2
  · rw [(hs.1 _).1, (hs.1 _).2]; exact h3.2
  · rw [(hs.1 _).1, (hs.1 _).2]; exact h4.2
theorem KL.sn {S' : zS} (h : KL S c) (hs : SN S S' p) (hc : c ≠ p) : KL S' c := by
  obtain ⟨h1, h2, h3, h4, h5, h6, h7, h8⟩ := h
  have e := hs.2.2.1 c hc
  have f : ∀ {k a kd ln}, Ar S c k a kd ln → Ar S' c k a kd ln := fun q => ⟨by rw [e]; exact q.1, by rw [(hs.1 _).1]; exact q.2.1, by rw [(hs.1 _).2]; exact q.2.2⟩
  exact ⟨by rw [(hs.1 c).1]; exact h1, f h2, f h3, f h4, f h5, f h6, f h7, f h8⟩
theorem mm_dg (hg : Grp n t iv) (hg' : Grp n t' iv') : ∀ x y y', x < n → y < n → y' < n → MMh t t' iv iv' (HU n t iv st) (HU n t' iv' st') x x y y' → y = y' := by
  intro x y y' hx hy hy' h
  unfold MMh at h
  have e : hu0 iv st (t (iv x) x) = hu0 iv' st' (t' (iv' y) y') := by rw [← HU_low (n := n) (t := t), ← HU_low (n := n) (t := t'), h]
  exact (tiv0 hg' hy hy').mp ((hu0_eq e).1.mp (hg.li hx))
theorem cpm_iff (hg : Grp n t iv) (hg' : Grp n t' iv') (h0 : st.testBit 0 = false) (h0' : st'.testBit 0 = false) {ψ : Nat → Nat} (hz : ψ 0 = 0) : CPm n (MMh t t' iv iv' (HU n t iv st) (HU n t' iv' st')) ψ ↔ NMp n (arc n t st) (arc n t' st') ψ := by
  constructor
  · rintro ⟨h1, h2, h3⟩
    have := cor_nm hg hg' h0 h0' h2 (fun x y hx hy => h3 x y hx hy)
    have e : rowm n ψ = ψ := by
      funext x
      by_cases hx : x < n
      · exact rowm_in hx
      · rw [h1 x (by omega)]; exact if_neg hx
    rw [e] at this
    exact this
  · intro h
    exact ⟨h.1, h.2.1, fun x z hx hz' => nm_cor hg hg' h0 h0' ⟨h, hz⟩ x z hx hz'⟩
/-- the search is begun -/
theorem c_nbegin {sp : Int32} (hd : 2 < d) (hM : ML S p) (hK : KL S c) (hK' : KL S c') (hP : Pnt S I0 c n t iv st) (hP' : Pnt S I0 c' n' t' iv' st') (hg : Grp n t iv) (hg' : Grp n' t' iv') (o1 : c + 7 < p ∨ p + 3 < c) (o2 : c' + 7 < p ∨ p + 3 < c') (h7 : I0 p 7 = sp) : ∃ (r : Bool) (I' : zI), z_ev d i_X7_begin [.ref p, .ref c, .ref c'] S I0 J (some (.int (nI r.toNat))) (setR2 S p c c') I' J ∧ (∀ a, a < p ∨ p + 3 < a → I' a = I0 a) ∧ (∀ k, k ≠ 2 → k ≠ 3 → I' p k = I0 p k) ∧ (r = true → n = n' ∧ NX (setR2 S p c c') I' p n (MMh t t' iv iv' (HU n t iv st) (HU n t' iv' st')) ∧ PX n (MMh t t' iv iv' (HU n t iv st) (HU n t' iv' st')) (fun a => (1 : Nat).testBit a = true) (fun _ => 0) ∧ (∀ z, z < n → I' (p + 2) (20 * 1 + z) = nI (alw n (MMh t t' iv iv' (HU n t iv st) (HU n t' iv' st')) (fun a => (1 : Nat).testBit a = true) (fun _ => 0) z)) ∧ ∀ x, x < n → (1 : Nat).testBit x = true → I' (p + 3) x = nI 0) ∧ (r = false → n = n' → st.testBit 0 = false → st'.testBit 0 = false → ∀ φ, NM0 n (arc n t st) (arc n t' st') φ → False) := by
  obtain ⟨d, rfl⟩ := z_dep (d := d) (by omega)
  obtain ⟨ld, cl, hS, hSp⟩ := hP
  obtain ⟨ld', cl', hS', hSp'⟩ := hP'
  have hn := hg.le
  have hn' := hg'.le
  have hpos := hg.pos
  obtain ⟨S2, hS2⟩ : ∃ S2, S2 = setR2 S p c c' := ⟨_, rfl⟩
  have hsn : SN S S2 p := by rw [hS2]; exact SN.set
  have hM2 := hM.sn hsn
  have hK2 := hK.sn hsn (by omega)
  have hK2' := hK'.sn hsn (by omega)
  have hp2 := Nat.two_pow_pos n
  obtain ⟨Ia, hIa⟩ : ∃ Ia, Ia = z_u2 (z_u2 I0 p 2 (nI n)) p 3 (nI (2 ^ n - 1)) := ⟨_, rfl⟩
  have fa : ∀ a, a ≠ p → Ia a = I0 a := fun a ha => by rw [hIa, z_u2_row ha, z_u2_row ha]
  obtain ⟨r, I1, b1, b2, b3, b4⟩ := c_nfits (d := d) (J := J) (S := S2) (by omega) hM2 hK2 hK2' (hS.fr (I := Ia) (fun a h1 h2 => fa a (by omega))) (hS'.fr (I := Ia) (fun a h1 h2 => fa a (by omega))) hn hn' o1 o2
  rw [← hS2]
  obtain ⟨v0, v1⟩ := setR2_v (S := S) (p := p) (c := c) (c' := c')
  rw [← hS2] at v0 v1
  obtain ⟨MM, hMM⟩ : ∃ MM, MM = MMh t t' iv iv' (HU n t iv st) (HU n t' iv' st') := ⟨_, rfl⟩
  rw [← hMM]
  suffices hw : z_wp (d + 1) i_X7_begin [.ref p, .ref c, .ref c'] S I0 J (fun v S' I' J' => ∃ r : Bool, v = some (.int (nI r.toNat)) ∧ S' = S2 ∧ J' = J ∧ (∀ a, a < p ∨ p + 3 < a → I' a = I0 a) ∧ (∀ k, k ≠ 2 → k ≠ 3 → I' p k = I0 p k) ∧ (r = true → n = n' ∧ NX S2 I' p n MM ∧ PX n MM (fun a => (1 : Nat).testBit a = true) (fun _ => 0) ∧ (∀ z, z < n → I' (p + 2) (20 * 1 + z) = nI (alw n MM (fun a => (1 : Nat).testBit a = true) (fun _ => 0) z)) ∧ ∀ x, x < n → (1 : Nat).testBit x = true → I' (p + 3) x = nI 0) ∧ (r = false → n = n' → st.testBit 0 = false → st'.testBit 0 = false → ∀ φ, NM0 n (arc n t st) (arc n t' st') φ → False)) by
    obtain ⟨v, S', I', J', x1, r, rfl, rfl, rfl, x2⟩ := hw
    exact ⟨r, I', x1, x2⟩
  have e0 : I0 c 0 = nI n := hS.1
  have e3 : (1 : Int32) <<< (nI n &&& 31) - 1 = nI (2 ^ n - 1) := by
    rw [z_shl1 (by omega)]
    exact pk_sub (b := 1) (by omega)
  refine w_X7_begin (b_X7_begin_0 hM.1 hM.1 hK.1 hM.1 hM.1 hM.1 hM.1 ?_)
  rw [e0, z_u2_same, e3, show z_setR (z_setR S p 0 c) p 1 c' = S2 from hS2.symm, ← hIa]
  refine ⟨_, _, _, _, b1, ?_⟩
  have g1 : ∀ a, a < p ∨ p + 3 < a → I1 a = I0 a := fun a ha => by rw [b2 a (by omega), fa a (by omega)]
  have g2 : ∀ k, k ≠ 2 → k ≠ 3 → I1 p k = I0 p k := fun k h1 h2 => by rw [b2 p (by omega), hIa, z_u2_nk h2, z_u2_nk h1]
  have p2 : I1 p 2 = nI n := by rw [b2 p (by omega), hIa, z_u2_nk (by decide), z_u2_same]
  have p3 : I1 p 3 = nI (2 ^ n - 1) := by rw [b2 p (by omega), hIa, z_u2_same]
  cases r with
  | false =>
    refine b_X7_begin_36 (fun q => absurd rfl q) (fun _ => b_X7_begin_39 z_fit0 ⟨false, rfl, rfl, rfl, g1, g2, fun w => (by cases w), fun _ e s1 s2 φ hφ => ?_⟩)
    subst e
    exact b4 rfl rfl φ hφ.1.2.1 hφ.1.2.2.1 (cor_n hg hg' hφ.1.2.1 hφ.1.2.2.1 hφ.2 (nm_cor hg hg' s1 s2 hφ)).1
  | true =>
    obtain ⟨en, pt, hpt⟩ := b3 rfl
    subst en
    refine b_X7_begin_36 (fun _ => b_X7_begin_41 ?_) (fun q => absurd q (by decide))
    have hC := ncs_le n (HU n t iv st)
    have hC' := ncs_le n (HU n t' iv' st')
    -- which classes are partners
    have part : ∀ z z', z < n → z' < n → (cl' z' = pt (cl z) ↔ HU n t iv st z = HU n t' iv' st' z') := fun z z' hz hz' => by
      obtain ⟨_, w2, w3⟩ := hS.2.2.2.2.2 z hz
      obtain ⟨_, w5, w6⟩ := hS'.2.2.2.2.2 z' hz'
      obtain ⟨_, w8, w9⟩ := hpt (cl z) w2
      constructor
      · intro e
        rw [← w3, ← w6, e, w9]
      · intro e
        exact hS'.2.2.2.2.1 _ _ w5 w8 (by rw [w6, w9, w3, e])
    have mkNX : ∀ I : zI, (∀ a, a < p + 2 ∨ p + 3 < a → I a = I1 a) → NX S2 I p n MM := fun I hI => by
      have h6 := hK2.2.2.2.2.2.1
      have h7 := hK2'.2.2.2.2.2.2.1
      refine ⟨hM2, hn, hpos, by rw [hI p (by omega)]; exact p2, by rw [hI p (by omega)]; exact p3, ⟨by rw [v0]; exact hK2.1, by rw [v1]; exact hK2'.1⟩, ⟨by rw [v0]; exact h6.kd, by rw [v0]; exact h6.ln⟩, ⟨by rw [v1]; exact h7.kd, by rw [v1]; exact h7.ln⟩, by rw [v0, h6.1]; omega, by rw [v1, h7.1]; omega, fun x z => cl (t (iv x) z), fun x z => pt (cl (t (iv x) z)), fun x z hx hz => ?_, fun x z y hx hz hy => ?_⟩
      · have htz := hg.lt (hg.il hx) hz
        obtain ⟨_, w2, _⟩ := hS.2.2.2.2.2 _ htz
        obtain ⟨w7, w8, _⟩ := hpt _ w2
        have l1 : cl (t (iv x) z) < 20 := by omega
        have l2 : pt (cl (t (iv x) z)) < 20 := Nat.lt_of_lt_of_le w8 (Nat.le_trans hC' hn)
        rw [v0, h6.1, hI _ (by omega), g1 _ (by omega), hI (p + 1) (by omega)]
        exact ⟨hSp.1 x z hx hz, l1, w7, l2⟩
      · have htz := hg.lt (hg.il hx) hz
        obtain ⟨_, w2, _⟩ := hS.2.2.2.2.2 _ htz
        obtain ⟨_, w8, _⟩ := hpt _ w2
        have l2 : pt (cl (t (iv x) z)) < 20 := Nat.lt_of_lt_of_le w8 (Nat.le_trans hC' hn)
        rw [v1, h7.1, hI _ (by omega), g1 _ (by omega), hSp'.2 _ y l2 hy]
        refine congrArg nI (zset_congr (fun z' hz' => ?_))
        rw [part _ _ htz (hg'.lt (hg'.il hy) hz'), hMM]
        exact Iff.rfl
    suffices H : ∀ x, x ≤ n → ∀ I x3, (∀ a, a ≠ p + 2 → I a = I1 a) → (∀ y, y < x → I (p + 2) y = nI (2 ^ n - 1)) → x3 = nI x → Go d i_X7_begin 43 [.ref p, .ref c, .ref c', .int x3] [] S2 I J (fun v S' I' J' => ∃ r : Bool, v = some (.int (nI r.toNat)) ∧ S' = S2 ∧ J' = J ∧ (∀ a, a < p ∨ p + 3 < a → I' a = I0 a) ∧ (∀ k, k ≠ 2 → k ≠ 3 → I' p k = I0 p k) ∧ (r = true → n = n ∧ NX S2 I' p n MM ∧ PX n MM (fun a => (1 : Nat).testBit a = true) (fun _ => 0) ∧ (∀ z, z < n → I' (p + 2) (20 * 1 + z) = nI (alw n MM (fun a => (1 : Nat).testBit a = true) (fun _ => 0) z)) ∧ ∀ x, x < n → (1 : Nat).testBit x = true → I' (p + 3) x = nI 0) ∧ (r = false → n = n → st.testBit 0 = false → st'.testBit 0 = false → ∀ φ, NM0 n (arc n t st) (arc n t' st') φ → False)) from H 0 (by omega) I1 _ (fun _ _ => rfl) (fun y hy => by omega) rfl
    refine z_up_to n ?_ ?_
    · rintro I x3 hF hrow rfl
      refine b_X7_begin_43 hM2.1 (fun _ => ?_) (fun q => absurd (by rw [hF p (by omega), p2]; exact nI_le (Nat.le_refl _) (by omega)) q)
      have hle := c_lead (d := d) (J := J) (MM := MM) (dp := 0) (x := 0) (y := 0) (al := fun _ => 2 ^ n - 1) (by omega) (mkNX I (fun a ha => hF a (by omega))) (by decide) hpos hpos (fun z hz => ⟨by rw [Nat.mul_zero, Nat.zero_add]; exact hrow z hz, by omega⟩)
      refine b_X7_begin_67 hM2.1 (hle.mono ?_)
      rintro v S1 I3 J1 ⟨r, rfl, rfl, rfl, u1, u2, u3, u4, u5, u6⟩
      have b1' : ∀ i, (1 : Nat).testBit i = true ↔ i = 0 := fun i => by rw [show (1 : Nat) = 2 ^ 0 from rfl, b_pow]
      have eal : ∀ z, z < n → (2 ^ n - 1) &&& zset n (fun z' => MM 0 z 0 z') = alw n MM (fun a => (1 : Nat).testBit a = true) (fun _ => 0) z := fun z hz => by
        refine zset_eq (Nat.and_lt_two_pow _ (zset_lt _ _)) (fun i hi => ?_)
        rw [Nat.testBit_and, Nat.testBit_two_pow_sub_one, decide_eq_true hi, Bool.true_and, zset_bit]
        exact ⟨fun q a _ hD => by rw [(b1' a).mp hD]; exact q.2, fun q => ⟨hi, q 0 hpos ((b1' 0).mpr rfl)⟩⟩
      have G1 : ∀ a, a < p ∨ p + 3 < a → I3 a = I0 a := fun a ha => by rw [u1 a (by omega), hF a (by omega)]; exact g1 a ha
      have G2 : ∀ k, k ≠ 2 → k ≠ 3 → I3 p k = I0 p k := fun k h1 h2 => by rw [u1 p (by omega), hF p (by omega)]; exact g2 k h1 h2
      refine b_X7_begin_74 (z_fitb r) ⟨r, rfl, rfl, rfl, G1, G2, fun q => ⟨rfl, mkNX I3 (fun a ha => by rw [u1 a ha]; exact hF a (by omega)), ⟨fun _ _ _ => hpos, fun x z hx hz hDx hDz => ?_⟩, fun z hz => ?_, fun x hx hD => by rw [(b1' x).mp hD]; exact u4⟩, fun q _ s1 s2 φ hφ => ?_⟩
      · rw [(b1' x).mp hDx, (b1' z).mp hDz]
        obtain ⟨_, w2⟩ := u5 q 0 hpos
        obtain ⟨i, i1, i2⟩ := z_ne_bit (n := n) (Nat.and_lt_two_pow _ (zset_lt _ _)) w2
        rw [Nat.testBit_and, Bool.and_eq_true] at i2
        have w3 := ((zset_bit _ _ _).mp i2.2).2
        rw [hMM] at w3
        have := mm_dg hg hg' 0 0 i hpos hpos i1 w3
        rw [← this] at w3
        rw [hMM]; exact w3
      · have := (u5 q z hz).1
        rw [eal z hz, show 20 * 0 + 20 = 20 * 1 from rfl] at this
        exact this
      · obtain ⟨z, z1, z2⟩ := u6 q
        have hc := nm_cor hg hg' s1 s2 hφ
        have w : ((2 ^ n - 1) &&& zset n (fun z' => MM 0 z 0 z')).testBit (φ z) = true := by
          rw [Nat.testBit_and, Nat.testBit_two_pow_sub_one, decide_eq_true (hφ.1.2.1 z z1), Bool.true_and, zset_bit, hMM]
          refine ⟨hφ.1.2.1 z z1, ?_⟩
          have := hc 0 z hpos z1
          rw [hφ.2] at this
          exact this
        rw [z2, Nat.zero_testBit] at w; cases w
    · rintro x hx ih I x3 hF hrow rfl
      refine b_X7_begin_43 hM2.1 (fun q => absurd q (by rw [hF p (by omega), p2]; exact nI_ge hx (by omega))) (fun _ => ?_)
      have a5 := hM2.2.2.1
      refine b_X7_begin_51 hM2.1 hM2.1 (a5.wr (by omega) (by decide)) (ih _ _ (fun a ha => by rw [a5.1, z_u2_row ha]; exact hF a ha) (fun y hy => ?_) (nI_1 x))
      rw [a5.1, nI_clamp (by omega), hF p (by omega), p3]
      by_cases e : y = x
      · rw [e, z_u2_same]
      · rw [z_u2_nk e]; exact hrow y (by omega)
theorem ex_01 {ψ : Nat → Nat} (hn : 0 < n) : Ex n (fun a => (1 : Nat).testBit a = true) (fun _ => 0) ψ ↔ ψ 0 = 0 := by
  have b1' : ∀ i, (1 : Nat).testBit i = true ↔ i = 0 := fun i => by rw [show (1 : Nat) = 2 ^ 0 from rfl, b_pow]
  exact ⟨fun h => h 0 hn ((b1' 0).mpr rfl), fun h a _ hD => by rw [(b1' a).mp hD]; exact h⟩
theorem zc_1 (hn : 0 < n) : 1 ≤ zc n 1 := zc_pos hn rfl
/-- does one lead on the other -/
theorem c_isMatch (hd : 25 < d) (hM : ML S p) (hK : KL S c) (hK' : KL S c') (hP : Pnt S I0 c n t iv st) (hP' : Pnt S I0 c' n t' iv' st') (hg : Grp n t iv) (hg' : Grp n t' iv') (h0 : st.testBit 0 = false) (h0' : st'.testBit 0 = false) (o1 : c + 7 < p ∨ p + 3 < c) (o2 : c' + 7 < p ∨ p + 3 < c') : ∃ S' I', z_ev d i_X7_isMatch [.ref p, .ref c, .ref c'] S I0 J (some (.int (nI (zb (∃ φ, NM0 n (arc n t st) (arc n t' st') φ))))) S' I' J ∧ SN S S' p ∧ ∀ a, a < p ∨ p + 3 < a → I' a = I0 a := by
  obtain ⟨d, rfl⟩ := z_dep (d := d) (by omega)
  have hn := hg.le
  have fa : ∀ a, a ≠ p → z_u2 I0 p 7 0 a = I0 a := fun a ha => z_u2_row ha
  obtain ⟨r, I1, b1, b2, b3, b4, b5⟩ := c_nbegin (d := d) (J := J) (I0 := z_u2 I0 p 7 0) (by omega) hM hK hK' (hP.fr (fun a h1 h2 => fa a (by omega))) (hP'.fr (fun a h1 h2 => fa a (by omega))) hg hg' o1 o2 z_u2_same
  have hM2 : ML (setR2 S p c c') p := hM.sn SN.set
  suffices hw : z_wp (d + 1) i_X7_isMatch [.ref p, .ref c, .ref c'] S I0 J (fun v S' I' J' => v = some (.int (nI (zb (∃ φ, NM0 n (arc n t st) (arc n t' st') φ)))) ∧ J' = J ∧ SN S S' p ∧ ∀ a, a < p ∨ p + 3 < a → I' a = I0 a) by
    obtain ⟨v, S', I', J', x1, rfl, rfl, x2⟩ := hw
    exact ⟨S', I', x1, x2⟩
  have g1 : ∀ a, a < p ∨ p + 3 < a → I1 a = I0 a := fun a ha => by rw [b2 a ha]; exact fa a (by omega)
  refine w_X7_isMatch (b_X7_isMatch_0 ⟨hM.1, Or.inl rfl⟩ hM.1 ⟨_, _, _, _, b1, ?_⟩)
  cases r with
  | false =>
    refine b_X7_isMatch_11 (fun _ => b_X7_isMatch_27 z_fit0 ⟨z_someI ?_, rfl, SN.set, g1⟩) (fun q => absurd rfl q)
    rw [zb_f (fun ⟨φ, hφ⟩ => b5 rfl rfl h0 h0' φ hφ)]; rfl
  | true =>
    obtain ⟨_, w1, w2, w3, w4⟩ := b4 rfl
    have hrec := c_ncomplete (S := setR2 S p c c') (J := J) (mm_dg hg hg') n d 1 1 (fun _ => 0) I1 (by omega) (by omega) (zc_1 hg.pos) (by have := Nat.pow_le_pow_right (show 0 < 2 by decide) hg.pos; omega) w1 w2 w3 w4
    refine b_X7_isMatch_11 (fun q => absurd q (by decide)) (fun _ => b_X7_isMatch_14 hM2.1 (hrec.mono ?_))
    rintro v S1 I3 J1 ⟨r, rfl, rfl, rfl, u1, u2, u3, u4, u5⟩
    have g3 : ∀ a, a < p ∨ p + 3 < a → I3 a = I0 a := fun a ha => by rw [u1 a (by omega)]; exact g1 a ha
    cases r with
    | false =>
      refine b_X7_isMatch_20 (fun _ => b_X7_isMatch_27 z_fit0 ⟨z_someI ?_, rfl, SN.set, g3⟩) (fun q => absurd rfl q)
      rw [zb_f (fun ⟨φ, hφ⟩ => u5 rfl φ ((cpm_iff hg hg' h0 h0' hφ.2).mpr hφ.1) ((ex_01 hg.pos).mpr hφ.2))]; rfl
    | true =>
      refine b_X7_isMatch_20 (fun q => absurd q (by decide)) (fun _ => b_X7_isMatch_23 z_fit1 ⟨z_someI ?_, rfl, SN.set, g3⟩)
      obtain ⟨ψ, v1, v2, _, _⟩ := u4 rfl
      have hz := (ex_01 hg.pos).mp v2
      rw [zb_t ⟨ψ, (cpm_iff hg hg' h0 h0' hz).mp v1, hz⟩]; rfl
end C18

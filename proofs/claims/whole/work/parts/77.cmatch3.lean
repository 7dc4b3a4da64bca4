/-! THE CLASS: maps of groups, counted; the first one -/
def SQ (S S' : zS) (q : Nat) : Prop := (∀ h, z_kd S' h = z_kd S h ∧ z_ln S' h = z_ln S h) ∧ (z_sz S' = z_sz S ∧ z_ce S' = z_ce S ∧ z_sl S' = z_sl S) ∧ (∀ h, h ≠ q → z_rv S' h = z_rv S h) ∧ ∀ k, 4 ≤ k → z_rv S' q k = z_rv S q k
section C14
variable {d q n n' : Nat} {t t' : Nat → Nat → Nat} {iv iv' : Nat → Nat} {mv mv' fv tv : Nat → Int32} {S : zS} {I I0 : zI} {J : zJ}
theorem SQ.refl : SQ S S q := ⟨fun _ => ⟨rfl, rfl⟩, ⟨rfl, rfl, rfl⟩, fun _ _ => rfl, fun _ _ => rfl⟩
theorem SQ.set {g g' fs ts : Nat} : SQ S (setR4 S q g g' fs ts) q := ⟨fun _ => ⟨rfl, rfl⟩, ⟨rfl, rfl, rfl⟩, fun _ hh => setR4_ne hh, fun _ hk => setR4_k hk⟩
theorem RD.set {g g' fs ts h : Nat} {f : Nat → Int32} (hR : RD S I q h n f) : RD (setR4 S q g g' fs ts) I q h n f := hR
/-- what stays, and nothing else, is the map that leads each to itself -/
theorem gms_pg (hg : Grp n t iv) : PG n (GMS n t t (ftt mv mv fv fv)) := by
  refine ⟨fun φ h => ⟨h.1.1, h.1.2.1, h.1.2.2.1⟩, fun φ ψ h h' => ⟨GM.cmp hg h.1 h'.1, fun z hz h0 => ?_⟩, fun φ h => ⟨GM.bck hg hg h.1, fun z hz h0 => ?_⟩⟩
  · rw [cmp_in hz]
    have p1 := h.2 z hz h0
    have hne : φ z ≠ 0 := fun e => h0 (h.1.inj hz hg.pos (by rw [h.1.z hg hg]; exact e))
    have p2 := h'.2 (φ z) (h.1.lt hz) hne
    exact ⟨p1.1.trans p2.1, p1.2.trans p2.2⟩
  · obtain ⟨b1, b2⟩ := bck_spec h.1.2.1 h.1.2.2.1 hz
    have hne : bck n φ z ≠ 0 := fun e => h0 (by rw [← b2, e, h.1.z hg hg])
    have p1 := h.2 _ b1 hne
    rw [b2] at p1
    exact ⟨p1.1.symm, p1.2.symm⟩
theorem gm_id (hg : Grp n t iv) : GM n t t (rowm n (fun x => x)) := by
  refine ⟨fun x hx => if_neg (by omega), fun x hx => by rw [rowm_in hx]; exact hx, fun x y hx hy e => by rw [rowm_in hx, rowm_in hy] at e; exact e, fun x y hx hy => ?_⟩
  rw [rowm_in hx, rowm_in hy, rowm_in (hg.lt hx hy)]
theorem gms_one {M : Nat} {mk : Nat → Nat} (hg : Grp n t iv) (hM : Mkr n t M mk) : Crd (fun φ => GMS n t t (ftt mv mv fv fv) φ ∧ ∀ j, j < M → φ (mk j) = mk j) 1 := by
  refine Crd.one (a := rowm n (fun x => x)) ⟨⟨gm_id hg, fun z hz _ => by rw [rowm_in hz]; exact ⟨rfl, rfl⟩⟩, fun j hj => rowm_in (hM.1 j hj).1⟩ (fun φ h => ?_)
  refine h.1.1.ext (gm_id hg) (fun x hx => gm_agree hg hg h.1.1 (gm_id hg) (fun i hi => (hM.1 i hi).1) (fun i hi => ?_) (hM.2.2 x hx))
  rw [h.2 i hi, rowm_in (hM.1 i hi).1]
theorem c_countOwn {g fs : Nat} (hd : 25 < d) (hQ : QLay S q) (hC : CT S I0 g n t) (ho : Off q g) (ho1 : Off q (z_rv S g 1)) (hg : Grp n t iv) (hm : RD S I0 q (z_rv S g 5) n mv) (hf : RD S I0 q fs n fv) : ∃ S' I', z_ev d i_X3_countOwn [.ref q, .ref g, .ref fs] S I0 J (some (.int (nI (crdn (GMS n t t (ftt mv mv fv fv)))))) S' I' J ∧ SQ S S' q ∧ (∀ h, Off q h → I' h = I0 h) ∧ ∀ k, k ≠ 4 → I' q k = I0 q k := by
  obtain ⟨d, rfl⟩ := z_dep (d := d) (by omega)
  have hn := hg.le
  obtain ⟨I1, M, mk, b1, b2, b3, b4, b5, b6, b7⟩ := c_begin (d := d) (J := J) (g' := g) (fs := fs) (ts := fs) (by omega) hQ hC ho ho1 hg
  have hgq : g ≠ q := by unfold Off at ho; omega
  obtain ⟨S', hS'⟩ : ∃ S', S' = setR4 S q g g fs fs := ⟨_, rfl⟩
  have hQ' : QLay S' q := by rw [hS']; exact hQ.set
  obtain ⟨v0, v1, v2, v3⟩ := setR4_v (S := S) (q := q) (g := g) (g' := g) (fs := fs) (ts := fs)
  have hr5 : z_rv S' g = z_rv S g := by rw [hS', setR4_ne hgq]
  rw [← hS'] at b1 v0 v1 v2 v3
  have off1 : ∀ h, Off q h → I1 h = I0 h := fun h hh => b6 h (by unfold Off at hh; omega) (by unfold Off at hh; omega)
  have hX : GX S' I1 q n t t mv mv fv fv := by
    have hC1 : CT S' I1 g n t := (show CT S' I0 g n t by rw [hS']; exact hC.set hgq).fr (by rw [off1 g ho]) (by rw [hr5]; exact off1 _ ho1)
    rw [GX, v0, v1, v2, v3, hr5]
    exact ⟨hQ', ⟨hC1, ho, ho1⟩, ⟨hC1, ho, ho1⟩, by rw [hS']; exact (hm.fr off1).set, by rw [hS']; exact (hm.fr off1).set, by rw [hS']; exact (hf.fr off1).set, by rw [hS']; exact (hf.fr off1).set⟩
  have hk := hQ'.1
  obtain ⟨a5, a6, a7, a8⟩ := hQ'.2
  have hPG := gms_pg (mv := mv) (fv := fv) hg
  obtain ⟨A, hA⟩ : ∃ A, A = GMS n t t (ftt mv mv fv fv) := ⟨_, rfl⟩
  obtain ⟨he, hhe⟩ : ∃ he : Nat → Nat, he = fun l => zcn (fun y => ∃ φ, (A φ ∧ ∀ j, j < l → φ (mk j) = mk j) ∧ φ (mk l) = y) n := ⟨_, rfl⟩
  have hcount : crdn A = prd1 he M := by
    rw [hhe, hA]
    exact crdn_eq (chain_count hPG (fun j hj => (b4.1 j hj).1) (gms_one hg b4))
  rw [← hA, hcount]
  suffices hw : z_wp (d + 1) i_X3_countOwn [.ref q, .ref g, .ref fs] S I0 J (fun v S1 I' J' => v = some (.int (nI (prd1 he M))) ∧ S1 = S' ∧ J' = J ∧ (∀ h, Off q h → I' h = I0 h) ∧ ∀ k, k ≠ 4 → I' q k = I0 q k) by
    obtain ⟨v, S1, I', J', x1, rfl, rfl, rfl, x2, x3⟩ := hw
    exact ⟨_, I', x1, by rw [hS']; exact SQ.set, x2, x3⟩
  refine w_X3_countOwn (b_X3_countOwn_0 hQ.1 ⟨_, _, _, _, b1, b_X3_countOwn_8 ?_⟩)
  suffices H : ∀ l, l ≤ M → ∀ I x3 x4 v5 v6, (∀ h, h < q + 2 ∨ q + 4 < h → I h = I1 h) → (∀ j, j < l → I (q + 2) j = nI (mk j)) → x3 = nI (prd1 he l) → x4 = nI l → Go d i_X3_countOwn 13 [.ref q, .ref g, .ref fs, .int x3, .int x4, v5, v6] [] S' I J (fun v S1 I' J' => v = some (.int (nI (prd1 he M))) ∧ S1 = S' ∧ J' = J ∧ (∀ h, Off q h → I' h = I0 h) ∧ ∀ k, k ≠ 4 → I' q k = I0 q k) from H 0 (by omega) I1 _ _ _ _ (fun _ _ => rfl) (fun j hj => by omega) rfl rfl
  have final : ∀ I : zI, (∀ h, h < q + 2 ∨ q + 4 < h → I h = I1 h) → (∀ h, Off q h → I h = I0 h) ∧ ∀ k, k ≠ 4 → I q k = I0 q k := fun I hI => ⟨fun h hh => by rw [hI h (by unfold Off at hh; omega)]; exact off1 h hh, fun k hk => by rw [hI q (by omega)]; exact b7 k hk⟩
  refine z_up_to M ?_ ?_
  · rintro I x3 x4 v5 v6 hF hmi rfl rfl
    refine b_X3_countOwn_13 hk (fun _ => b_X3_countOwn_93 ⟨rfl, rfl, rfl, (final I hF).1, (final I hF).2⟩) (fun c => absurd ?_ c)
    rw [hF q (by omega), b2]
    exact nI_le (Nat.le_refl _) (by omega)
  · rintro l hl ih I x3 x4 v5 v6 hF hmi rfl rfl
    refine b_X3_countOwn_13 hk (fun c => ?_) (fun _ => b_X3_countOwn_22 ?_)
    · rw [hF q (by omega), b2] at c
      exact absurd c (nI_ge hl (by omega))
    have hml := b4.1 l hl
    suffices H2 : ∀ y, y ≤ n → 1 ≤ y → ∀ I x5 x6, (∀ h, h < q + 2 ∨ q + 4 < h → I h = I1 h) → (∀ j, j < l → I (q + 2) j = nI (mk j)) → x5 = nI (zcn (fun y => ∃ φ, (A φ ∧ ∀ j, j < l → φ (mk j) = mk j) ∧ φ (mk l) = y) y) → x6 = nI y → Go d i_X3_countOwn 28 [.ref q, .ref g, .ref fs, .int (nI (prd1 he l)), .int (nI l), .int x5, .int x6] [] S' I J (fun v S1 I' J' => v = some (.int (nI (prd1 he M))) ∧ S1 = S' ∧ J' = J ∧ (∀ h, Off q h → I' h = I0 h) ∧ ∀ k, k ≠ 4 → I' q k = I0 q k) by
      refine H2 1 hg.pos (Nat.le_refl _) I _ _ hF hmi ?_ rfl
      have hz : zcn (fun y => ∃ φ, (A φ ∧ ∀ j, j < l → φ (mk j) = mk j) ∧ φ (mk l) = y) 1 = 0 := zcn_none 1 (fun z hz ⟨φ, ⟨w1, _⟩, w3⟩ => by
        rw [hA] at w1
        exact hml.2 (w1.1.inj hml.1 hg.pos (by rw [w1.1.z hg hg, w3]; omega)))
      rw [hz]; rfl
    refine z_up_to n ?_ ?_
    · rintro _ I x5 x6 hF hmi rfl rfl
      have hX' : GX S' I q n t t mv mv fv fv := hX.fr (fun h hh => hF h (by unfold Off at hh; omega))
      have hCI := hX'.2.1.1
      rw [v0] at hCI
      refine b_X3_countOwn_28 hCI.1 (fun _ => ?_) (fun c => absurd hCI.ge c)
      refine b_X3_countOwn_68 hk hk (a5.rd (by omega) (by decide)) (a6.wr (by omega) (by decide)) (ih _ _ _ _ _ (fun h hh => ?_) (fun j hj => ?_) ?_ (nI_1 l))
      · rw [a6.1, z_u2_row (by omega)]; exact hF h hh
      · rw [a5.1, a6.1, nI_clamp (by omega), hF (q + 1) (by omega), b5 l hl]
        by_cases e : j = l
        · rw [e, z_u2_same]
        · rw [z_u2_nk e]; exact hmi j (by omega)
      · rw [pk_mul]
        refine congrArg nI ?_
        show _ = prd1 he l * he l
        rw [hhe]
    · rintro y hy ih2 hy1 I x5 x6 hF hmi rfl rfl
      have hX' : GX S' I q n t t mv mv fv fv := hX.fr (fun h hh => hF h (by unfold Off at hh; omega))
      have hCI := hX'.2.1.1
      rw [v0] at hCI
      refine b_X3_countOwn_28 hCI.1 (fun c => absurd c (hCI.nge hy)) (fun _ => ?_)
      have hti := c_tryImage (d := d) (J := J) (mi := mk) (M := M) (mk := mk) (by omega) hX' hg hg b3 (fun j hj => ⟨by rw [hF _ (by omega)]; exact b5 j hj, (b4.1 j hj).1, (b4.1 j hj).2⟩) hl (fun j hj => ⟨hmi j hj, (b4.1 j (by omega)).1⟩) hy
      refine b_X3_countOwn_37 hk (hti.mono ?_)
      rintro v S1 I2 J' ⟨r, rfl, rfl, rfl, p1, p2, p3, p4, p5⟩
      have fr2 : ∀ h, h < q + 2 ∨ q + 4 < h → I2 h = I1 h := fun h hh => by rw [p1 h hh]; exact hF h hh
      have fr3 : ∀ j, j < l → I2 (q + 2) j = nI (mk j) := fun j hj => by rw [p2 j hj]; exact hmi j hj
      have no : ∀ I3 : zI, (∀ h, h < q + 2 ∨ q + 4 < h → I3 h = I1 h) → (∀ j, j < l → I3 (q + 2) j = nI (mk j)) → (∀ φ, A φ → (∀ j, j < l → φ (mk j) = mk j) → φ (mk l) = y → False) → Go d i_X3_countOwn 62 [.ref q, .ref g, .ref fs, .int (nI (prd1 he l)), .int (nI l), .int (nI (zcn (fun y => ∃ φ, (A φ ∧ ∀ j, j < l → φ (mk j) = mk j) ∧ φ (mk l) = y) y)), .int (nI y)] [] S1 I3 J' (fun v S2 I' J2 => v = some (.int (nI (prd1 he M))) ∧ S2 = S1 ∧ J2 = J' ∧ (∀ h, Off q h → I' h = I0 h) ∧ ∀ k, k ≠ 4 → I' q k = I0 q k) := fun I3 g1 g2 g3 => b_X3_countOwn_62 (ih2 (by omega) I3 _ _ g1 g2 (by rw [zcn_f (p := fun y => ∃ φ, (A φ ∧ ∀ j, j < l → φ (mk j) = mk j) ∧ φ (mk l) = y) (fun ⟨φ, w1, w2⟩ => g3 φ w1.1 w1.2 w2)]) (nI_1 y))
      cases r with
      | false => exact b_X3_countOwn_45 (fun _ => no I2 fr2 fr3 (by rw [hA]; exact p5 rfl)) (fun c => absurd rfl c)
      | true =>
        refine b_X3_countOwn_45 (fun c => absurd c (by decide)) (fun _ => ?_)
        have hX2 : GX S1 I2 q n t t mv mv fv fv := hX.fr (fun h hh => fr2 h (by unfold Off at hh; omega))
        have hrec := c_complete (S := S1) (J := J') (q := q) (mv := mv) (mv' := mv) (fv := fv) (tv := fv) hg hg b3 b4 M d (l + 1) (zput mk l y) I2 (by omega) (by omega) (by omega) hX2 (by rw [fr2 q (by omega)]; exact b2) (fun j hj => by rw [fr2 _ (by omega)]; exact b5 j hj) (fun j hj => by
          by_cases e : j = l
          · rw [e, zput_s]; exact ⟨p3, hy⟩
          · rw [zput_n e, fr3 j (by omega)]; exact ⟨rfl, (b4.1 j (by omega)).1⟩) (p4 rfl)
        refine b_X3_countOwn_48 hk ?_
        rw [nI_1]
        refine hrec.mono ?_
        rintro v S2 I3 J2 ⟨r, rfl, rfl, rfl, u1, u2, u3, u4⟩
        have fr4 : ∀ h, h < q + 2 ∨ q + 4 < h → I3 h = I1 h := fun h hh => by rw [u1 h hh]; exact fr2 h hh
        have fr5 : ∀ j, j < l → I3 (q + 2) j = nI (mk j) := fun j hj => by rw [u2 j (by omega)]; exact fr3 j hj
        cases r with
        | false =>
          refine b_X3_countOwn_56 (fun _ => no I3 fr4 fr5 (fun φ w1 w2 w3 => u4 rfl φ (by rw [← hA]; exact w1) (fun j hj => ?_))) (fun c => absurd rfl c)
          by_cases e : j = l
          · rw [e, zput_s]; exact w3
          · rw [zput_n e]; exact w2 j (by omega)
        | true =>
          refine b_X3_countOwn_56 (fun c => absurd c (by decide)) (fun _ => b_X3_countOwn_59 (ih2 (by omega) I3 _ _ fr4 fr5 ?_ (nI_1 y)))
          obtain ⟨φ, ⟨⟨w1, w2⟩, _⟩, _⟩ := u3 rfl
          rw [zcn_t (p := fun y => ∃ φ, (A φ ∧ ∀ j, j < l → φ (mk j) = mk j) ∧ φ (mk l) = y) ⟨φ, ⟨by rw [hA]; exact w1, fun j hj => by rw [w2 j (by omega), zput_n (by omega)]⟩, by rw [w2 l (by omega), zput_s]⟩]
          exact nI_1 _
theorem c_countMark {g : Nat} {v : Int32} (hd : 0 < d) (hC : CT S I g n t) (hm : RD S I q (z_rv S g 5) n mv) : z_ev d i_X1_countMark [.ref g, .int v] S I J (some (.int (nI (zcn (fun y => mv y = v) n)))) S I J := by
  obtain ⟨d, rfl⟩ := z_dep hd
  have hn := hC.le
  refine e_X1_countMark (b_X1_countMark_0 ?_)
  suffices H : ∀ k, k ≤ n → ∀ x2 x3, x2 = nI (zcn (fun y => mv y = v) k) → x3 = nI k → Go d i_X1_countMark 4 [.ref g, .int v, .int x2, .int x3] [] S I J (z_eq (some (.int (nI (zcn (fun y => mv y = v) n)))) S I J) from H 0 (by omega) _ _ rfl rfl
  refine z_up_to n ?_ ?_
  · rintro x2 x3 rfl rfl
    exact b_X1_countMark_4 hC.1 (fun _ => b_X1_countMark_31 ⟨rfl, rfl, rfl, rfl⟩) (fun c => absurd hC.ge c)
  · rintro k hk ih x2 x3 rfl rfl
    obtain ⟨k1, k2⟩ := hm.at hk
    refine b_X1_countMark_4 hC.1 (fun c => absurd c (hC.nge hk)) (fun _ => b_X1_countMark_12 hC.1 k1 (fun c => b_X1_countMark_25 (ih _ _ ?_ (nI_1 k))) (fun c => b_X1_countMark_22 (ih _ _ ?_ (nI_1 k))))
    · rw [k2] at c; rw [zcn_f (p := fun y => mv y = v) c]
    · rw [k2] at c; rw [zcn_t (p := fun y => mv y = v) c]; exact nI_1 _
def HM (n n' : Nat) (mv mv' : Nat → Int32) : Prop := (∀ x, x < n → nI (zcn (fun y => mv y = mv x) n) = nI (zcn (fun y => mv' y = mv x) n')) ∧ n = n'
theorem c_hasMarksOf {g g' : Nat} (hd : 1 < d) (hC : CT S I g n t) (hm : RD S I q (z_rv S g 5) n mv) (hC' : CT S I g' n' t') (hm' : RD S I q (z_rv S g' 5) n' mv') : z_ev d i_X1_hasMarksOf [.ref g, .ref g'] S I J (some (.int (nI (zb (HM n n' mv mv'))))) S I J := by
  obtain ⟨d, rfl⟩ := z_dep (d := d) (by omega)
  have hn := hC.le
  have hn' := hC'.le
  refine e_X1_hasMarksOf (b_X1_hasMarksOf_0 ?_)
  suffices H : ∀ k, k ≤ n → (∀ x, x < k → nI (zcn (fun y => mv y = mv x) n) = nI (zcn (fun y => mv' y = mv x) n')) → ∀ x2, x2 = nI k → Go d i_X1_hasMarksOf 2 [.ref g, .ref g', .int x2] [] S I J (z_eq (some (.int (nI (zb (HM n n' mv mv'))))) S I J) from H 0 (by omega) (fun x hx => by omega) _ rfl
  refine z_up_to n ?_ ?_
  · rintro hall x2 rfl
    refine b_X1_hasMarksOf_2 hC.1 (fun _ => b_X1_hasMarksOf_41 hC.1 hC'.1 (fun c => b_X1_hasMarksOf_56 z_fit0 ⟨?_, rfl, rfl, rfl⟩) (fun c => b_X1_hasMarksOf_52 z_fit1 ⟨?_, rfl, rfl, rfl⟩)) (fun c => absurd hC.ge c)
    · rw [hC.2.1, hC'.2.1, nI_eq (by omega) (by omega)] at c
      rw [zb_f (fun w => c w.2)]; rfl
    · rw [hC.2.1, hC'.2.1, nI_eq (by omega) (by omega)] at c
      rw [zb_t ⟨hall, c⟩]; rfl
  · rintro k hk ih hall x2 rfl
    obtain ⟨k1, k2⟩ := hm.at hk
    refine b_X1_hasMarksOf_2 hC.1 (fun c => absurd c (hC.nge hk)) (fun _ => ?_)
    refine b_X1_hasMarksOf_10 hC.1 k1 hC.1 ⟨_, _, _, _, by rw [k2]; exact c_countMark (by omega) hC hm, ?_⟩
    refine b_X1_hasMarksOf_20 hC.1 k1 hC'.1 ⟨_, _, _, _, by rw [k2]; exact c_countMark (by omega) hC' hm', ?_⟩
    refine b_X1_hasMarksOf_30 (fun c => b_X1_hasMarksOf_35 (ih (fun x hx => ?_) _ (nI_1 k))) (fun c => b_X1_hasMarksOf_33 z_fit0 ⟨?_, rfl, rfl, rfl⟩)
    · by_cases e : x = k
      · rw [e]; exact c
      · exact hall x (by omega)
    · rw [zb_f (fun w => c (w.1 k hk))]; rfl
theorem c_findFirst {g g' row : Nat} (hd : 25 < d) (hQ : QLay S q) (hC : CT S I0 g n t) (ho : Off q g) (ho1 : Off q (z_rv S g 1)) (hg : Grp n t iv) (hC' : CT S I0 g' n' t') (ho' : Off q g') (ho1' : Off q (z_rv S g' 1)) (hg' : Grp n' t' iv') (hm : RD S I0 q (z_rv S g 5) n (fun x => nI (mrk n t iv x))) (hm' : RD S I0 q (z_rv S g' 5) n' (fun x => nI (mrk n' t' iv' x))) (hr1 : z_kd S row = 100) (hr2 : z_ln S row = 20) (hr3 : Off q row) (hr4 : row ≠ z_rv S g 1) : ∃ S' I', z_ev d i_X3_findFirst [.ref q, .ref g, .ref g', .ref row] S I0 J none S' I' J ∧ SQ S S' q ∧ (∀ h, Off q h → h ≠ row → I' h = I0 h) ∧ (∀ k, k ≠ 4 → I' q k = I0 q k) ∧ ∀ x, x < n → I' row x = zq (n = n') (lxa n (GM n t t') x) (-1) := by
  obtain ⟨d, rfl⟩ := z_dep (d := d) (by omega)
  have hn := hg.le
  have hgr : g ≠ row := fun e => by rw [← e, hC.1] at hr1; cases hr1
  have hgq : g ≠ q := by unfold Off at ho; omega
  have hgq' : g' ≠ q := by unfold Off at ho'; omega
  suffices hw : z_wp (d + 1) i_X3_findFirst [.ref q, .ref g, .ref g', .ref row] S I0 J (fun v S' I' J' => v = none ∧ J' = J ∧ SQ S S' q ∧ (∀ h, Off q h → h ≠ row → I' h = I0 h) ∧ (∀ k, k ≠ 4 → I' q k = I0 q k) ∧ ∀ x, x < n → I' row x = zq (n = n') (lxa n (GM n t t') x) (-1)) by
    obtain ⟨v, S', I', J', x1, rfl, rfl, x2⟩ := hw
    exact ⟨S', I', x1, x2⟩
  -- the row is laid
  have tail : ∀ S' I1 (r : Bool) (vv : Nat → Int32), SQ S S' q → QLay S' q → (∀ h, Off q h → I1 h = I0 h) → (∀ k, k ≠ 4 → I1 q k = I0 q k) → (∀ x, x < n → vv x = zq (n = n') (lxa n (GM n t t') x) (-1)) → (r = true → ∀ x, x < n → I1 (q + 3) x = vv x) → (r = false → ∀ x, x < n → vv x = -1) → Go d i_X3_findFirst 42 [.ref q, .ref g, .ref g', .ref row, .int (nI r.toNat), .int 0] [] S' I1 J (fun v S' I' J' => v = none ∧ J' = J ∧ SQ S S' q ∧ (∀ h, Off q h → h ≠ row → I' h = I0 h) ∧ (∀ k, k ≠ 4 → I' q k = I0 q k) ∧ ∀ x, x < n → I' row x = zq (n = n') (lxa n (GM n t t') x) (-1)) := by
    intro S' I1 r vv hSQ hQ' hF hF4 hvv ht hf
    have hrow : row < q ∨ q + 4 < row := hr3
    obtain ⟨a5, a6, a7, a8⟩ := hQ'.2
    have k1 : z_kd S' g = 2 := by rw [(hSQ.1 g).1]; exact hC.1
    have kr : z_kd S' row = 100 := by rw [(hSQ.1 row).1]; exact hr1
    have lr : z_ln S' row = 20 := by rw [(hSQ.1 row).2]; exact hr2
    suffices H : ∀ k, k ≤ n → ∀ I x5, (∀ h, h ≠ row → I h = I1 h) → (∀ x, x < k → I row x = vv x) → x5 = nI k → Go d i_X3_findFirst 42 [.ref q, .ref g, .ref g', .ref row, .int (nI r.toNat), .int x5] [] S' I J (fun v S' I' J' => v = none ∧ J' = J ∧ SQ S S' q ∧ (∀ h, Off q h → h ≠ row → I' h = I0 h) ∧ (∀ k, k ≠ 4 → I' q k = I0 q k) ∧ ∀ x, x < n → I' row x = zq (n = n') (lxa n (GM n t t') x) (-1)) from H 0 (by omega) I1 _ (fun _ _ => rfl) (fun x hx => by omega) rfl
    have o0 : ∀ I : zI, (∀ h, h ≠ row → I h = I1 h) → I g 0 = nI n := fun I hI => by rw [hI g hgr, hF g ho]; exact hC.2.1
    refine z_up_to n ?_ ?_
    · rintro I x5 hI hx rfl
      refine b_X3_findFirst_42 k1 (fun _ => b_X3_findFirst_77 ⟨rfl, rfl, hSQ, fun h hh hne => by rw [hI h hne]; exact hF h hh, fun k hk => by rw [hI q (by omega)]; exact hF4 k hk, fun x hx' => by rw [hx x hx', hvv x hx']⟩) (fun c => absurd (by rw [o0 I hI]; exact nI_le (Nat.le_refl _) (by omega)) c)
    · rintro k hk ih I x5 hI hx rfl
      refine b_X3_findFirst_42 k1 (fun c => absurd c (by rw [o0 I hI]; exact nI_ge hk (by omega))) (fun _ => ?_)
      have wr : z_kd S' row = 100 ∧ vp_in (nI k) (z_ln S' row) := ⟨kr, by rw [lr]; exact vp_in_nI (by omega) (by decide)⟩
      have next : ∀ w, w = vv k → Go d i_X3_findFirst 42 [.ref q, .ref g, .ref g', .ref row, .int (nI r.toNat), .int (nI k + 1)] [] S' (z_u2 I row (nI k).toNatClampNeg w) J (fun v S' I' J' => v = none ∧ J' = J ∧ SQ S S' q ∧ (∀ h, Off q h → h ≠ row → I' h = I0 h) ∧ (∀ k, k ≠ 4 → I' q k = I0 q k) ∧ ∀ x, x < n → I' row x = zq (n = n') (lxa n (GM n t t') x) (-1)) := by
        intro w hw
        refine ih _ _ (fun h hh => by rw [z_u2_row hh]; exact hI h hh) (fun x hx' => ?_) (nI_1 k)
        rw [nI_clamp (by omega)]
        by_cases e : x = k
        · rw [e, z_u2_same, hw]
        · rw [z_u2_nk e]; exact hx x (by omega)
      cases r with
      | false => exact b_X3_findFirst_51 (fun _ => b_X3_findFirst_69 wr (next _ (hf rfl k hk).symm)) (fun c => absurd rfl c)
      | true =>
        refine b_X3_findFirst_51 (fun c => absurd c (by decide)) (fun _ => b_X3_findFirst_59 hQ'.1 (a7.rd (by omega) (by decide)) wr (next _ ?_))
        rw [a7.1, nI_clamp (by omega), hI (q + 3) (by omega), ht rfl k hk]
  refine w_X3_findFirst (b_X3_findFirst_0 hC.1 ⟨_, _, _, _, c_hasMarksOf (by omega) hC hm hC' hm', ?_⟩)
  refine b_X3_findFirst_8 (fun c => b_X3_findFirst_39 ?_) (fun c => ?_)
  · rw [zb_0] at c
    refine tail S I0 false (fun _ => -1) SQ.refl hQ (fun _ _ => rfl) (fun _ _ => rfl) (fun x hx => ?_) (fun w => (by cases w)) (fun _ _ _ => rfl)
    by_cases e : n = n'
    · subst e
      rw [zq_t rfl, lxa_f (fun φ h => c ⟨fun x hx => congrArg nI (zcn_bij (f := φ) (fun i hi => h.lt hi) (fun i j hi hj e => h.inj hi hj e) (fun i hi => ?_)).symm, rfl⟩)]
      show nI (mrk n t' iv' (φ i)) = nI (mrk n t iv x) ↔ nI (mrk n t iv i) = nI (mrk n t iv x)
      rw [h.mrk hg hg' hi]
    · rw [zq_f e]
  · rw [zb_1] at c
    have e := c.2
    subst e
    obtain ⟨I1, M, mk, b1, b2, b3, b4, b5, b6, b7⟩ := c_begin (d := d) (J := J) (g' := g') (fs := z_rv S g 5) (ts := z_rv S g' 5) (by omega) hQ hC ho ho1 hg
    obtain ⟨S', hS'⟩ : ∃ S', S' = setR4 S q g g' (z_rv S g 5) (z_rv S g' 5) := ⟨_, rfl⟩
    have hQ' : QLay S' q := by rw [hS']; exact hQ.set
    obtain ⟨v0, v1, v2, v3⟩ := setR4_v (S := S) (q := q) (g := g) (g' := g') (fs := z_rv S g 5) (ts := z_rv S g' 5)
    have hr5 : z_rv S' g = z_rv S g := by rw [hS', setR4_ne hgq]
    have hr5' : z_rv S' g' = z_rv S g' := by rw [hS', setR4_ne hgq']
    have hSQ : SQ S S' q := by rw [hS']; exact SQ.set
    rw [← hS'] at b1 v0 v1 v2 v3
    obtain ⟨a5, a6, a7, a8⟩ := hQ'.2
    have off1 : ∀ h, Off q h → I1 h = I0 h := fun h hh => b6 h (by unfold Off at hh; omega) (by unfold Off at hh; omega)
    obtain ⟨I2, hI2⟩ : ∃ I2, I2 = z_u2 I1 (q + 3) 0 0 := ⟨_, rfl⟩
    have off2 : ∀ h, h ≠ q + 3 → I2 h = I1 h := fun h hh => by rw [hI2, z_u2_row hh]
    have off3 : ∀ h, Off q h → I2 h = I0 h := fun h hh => by rw [off2 h (by unfold Off at hh; omega)]; exact off1 h hh
    have hX : GX S' I2 q n t t' (fun x => nI (mrk n t iv x)) (fun x => nI (mrk n t' iv' x)) (fun x => nI (mrk n t iv x)) (fun x => nI (mrk n t' iv' x)) := by
      have hC1 : CT S' I2 g n t := (show CT S' I0 g n t by rw [hS']; exact hC.set hgq).fr (by rw [off3 g ho]) (by rw [hr5]; exact off3 _ ho1)
      have hC1' : CT S' I2 g' n t' := (show CT S' I0 g' n t' by rw [hS']; exact hC'.set hgq').fr (by rw [off3 g' ho']) (by rw [hr5']; exact off3 _ ho1')
      rw [GX, v0, v1, v2, v3, hr5, hr5']
      exact ⟨hQ', ⟨hC1, ho, ho1⟩, ⟨hC1', ho', ho1'⟩, by rw [hS']; exact (hm.fr off3).set, by rw [hS']; exact (hm'.fr off3).set, by rw [hS']; exact (hm.fr off3).set, by rw [hS']; exact (hm'.fr off3).set⟩
    refine b_X3_findFirst_11 hC.1 hC'.1 hQ.1 ⟨_, _, _, _, b1, ?_⟩
    refine b_X3_findFirst_25 hQ'.1 (a7.wr (i := 0) (by decide) (by decide)) hQ'.1 ?_
    rw [a7.1, show Int32.toNatClampNeg 0 = 0 from rfl, ← hI2]
    have hrec := c_complete (S := S') (J := J) (q := q) hg hg' b3 b4 M d 0 (fun _ => 0) I2 (by omega) (by omega) (by omega) hX (by rw [off2 q (by omega)]; exact b2) (fun j hj => by rw [off2 _ (by omega)]; exact b5 j hj) (fun j hj => by omega) ⟨fun x => x = 0, fun _ => 0, ⟨⟨rfl, rfl, fun j hj => by omega⟩, fun x _ _ => hg.pos, fun x _ _ j hj => by omega, fun x _ y _ e1 e2 _ => by rw [e1, e2], fun x _ e h0 => absurd e h0, fun φ h1 _ x _ e => by rw [e]; exact h1.1.z hg hg'⟩, fun x hx e => by rw [e, hI2, z_u2_same]; rfl⟩
    have hgms : ∀ φ, GMS n t t' (ftt (fun x => nI (mrk n t iv x)) (fun x => nI (mrk n t' iv' x)) (fun x => nI (mrk n t iv x)) (fun x => nI (mrk n t' iv' x))) φ ↔ GM n t t' φ := fun φ => ⟨fun h => h.1, fun h => ⟨h, fun z hz _ => ⟨congrArg nI (h.mrk hg hg' hz).symm, congrArg nI (h.mrk hg hg' hz).symm⟩⟩⟩
    refine hrec.mono ?_
    rintro v S1 I3 J1 ⟨r, rfl, rfl, rfl, u1, u2, u3, u4⟩
    have fin1 : ∀ h, Off q h → I3 h = I0 h := fun h hh => by rw [u1 h (by unfold Off at hh; omega)]; exact off3 h hh
    have fin2 : ∀ k, k ≠ 4 → I3 q k = I0 q k := fun k hk => by rw [u1 q (by omega), off2 q (by omega)]; exact b7 k hk
    refine b_X3_findFirst_37 ?_
    refine tail S1 I3 r (lxa n (GM n t t')) hSQ hQ' fin1 fin2 (fun x hx => (zq_t rfl).symm) (fun w x hx => ?_) (fun w x hx => ?_)
    · obtain ⟨φ, w1, w2⟩ := u3 w
      rw [w2 x hx, lxa_t ((LexK.min hg hg' b4 w1).cg hgms) hx]
    · exact lxa_f (fun φ h => u4 w φ ((hgms φ).mpr h) (fun j hj => by omega)) x
end C14

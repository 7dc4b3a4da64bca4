/-! THE CLASS: where its networks lie; the first map of one on the other -/
/-- cells of Groups -/
def Dyn (a h : Nat) : Prop := (a + 10 ≤ h ∧ h < a + 19) ∨ a + 89 ≤ h
def NLay (S : zS) (w : Nat) : Prop := z_kd S w = 9 ∧ Ar S w 4 (w + 1) 100 20 ∧ Ar S w 5 (w + 2) 100 20 ∧ Ar S w 6 (w + 3) 100 20 ∧ z_rv S w 10 = w + 4 ∧ KL S (w + 4)
/-- a group as it was made -/
def GO (S : zS) (I : zI) (a g n : Nat) (t : Nat → Nat → Nat) (iv : Nat → Nat) : Prop := CT S I g n t ∧ CR S I g 2 n iv ∧ CR S I g 3 n (per t) ∧ CR S I g 4 n (cls n t iv) ∧ CR S I g 5 n (mrk n t iv) ∧ Grp n t iv ∧ Dyn a g ∧ ∀ k, 1 ≤ k → k ≤ 5 → Dyn a (z_rv S g k)
/-- a network, and what is known of it -/
def NSt (S : zS) (I : zI) (a w n : Nat) (t : Nat → Nat → Nat) (iv : Nat → Nat) (st : Nat) : Prop := (w = a + 20 ∨ w = a + 32) ∧ NLay S w ∧ GO S I a (z_rv S w 0) n t iv ∧ I w 1 = nI st ∧ st < 2 ^ n ∧ st.testBit 0 = false ∧ (I w 8 = 0 ∨ Msd S I w n t st) ∧ (I w 9 = 0 ∨ (I w 9 = 1 ∧ Pnt S I (w + 4) n t iv st))
section C19
variable {d a w p n n' st st' : Nat} {t t' : Nat → Nat → Nat} {iv iv' : Nat → Nat} {S S' : zS} {I I0 I1 : zI} {J : zJ}
theorem GO.fr {g : Nat} (h : GO S I0 a g n t iv) (h0 : I g 0 = I0 g 0) (hF : ∀ x, Dyn a x → z_kd S x = 100 → I x = I0 x) : GO S I a g n t iv := by
  obtain ⟨h1, h2, h3, h4, h5, h6, h7, h8⟩ := h
  exact ⟨h1.fr h0 (hF _ (h8 1 (by decide) (by decide)) h1.2.2.2.1), h2.fr (hF _ (h8 2 (by decide) (by decide)) h2.1), h3.fr (hF _ (h8 3 (by decide) (by decide)) h3.1), h4.fr (hF _ (h8 4 (by decide) (by decide)) h4.1), h5.fr (hF _ (h8 5 (by decide) (by decide)) h5.1), h6, h7, h8⟩
theorem GO.sn {g : Nat} (h : GO S I a g n t iv) (hk : ∀ x, z_kd S' x = z_kd S x ∧ z_ln S' x = z_ln S x) (hr : z_rv S' g = z_rv S g) : GO S' I a g n t iv := by
  obtain ⟨⟨c1, c2, c3, c4, c5, c6⟩, h2, h3, h4, h5, h6, h7, h8⟩ := h
  have cr : ∀ {k : Nat} {f : Nat → Nat}, CR S I g k n f → CR S' I g k n f := fun q => by
    rw [CR, hr, (hk _).1, (hk _).2]; exact q
  refine ⟨?_, cr h2, cr h3, cr h4, cr h5, h6, h7, fun k k1 k2 => by rw [hr]; exact h8 k k1 k2⟩
  rw [CT, hr, (hk _).1, (hk _).1, (hk _).2]
  exact ⟨c1, c2, c3, c4, c5, c6⟩
theorem GO.kg {g c : Nat} (h : GO S I a g n t iv) (hc : a + 20 ≤ c ∧ c + 7 ≤ a + 69) : KG S I c g n t iv := by
  obtain ⟨h1, h2, h3, h4, h5, h6, h7, h8⟩ := h
  have d1 := h8 1 (by decide) (by decide)
  have d2 := h8 2 (by decide) (by decide)
  unfold Dyn at h7 d1 d2
  refine ⟨h1, h2, h6, ?_, ?_, ?_, by omega⟩ <;> unfold Oc <;> omega
theorem NSt.fr (h : NSt S I0 a w n t iv st) (h1 : ∀ x, w ≤ x → x ≤ w + 11 → I x = I0 x) (h2 : ∀ x, Dyn a x → I x = I0 x) : NSt S I a w n t iv st := by
  obtain ⟨q1, q2, q3, q4, q5, q6, q7, q8⟩ := h
  have e5 := q2.2.2.1.1
  have e6 := q2.2.2.2.1.1
  refine ⟨q1, q2, q3.fr (by rw [h2 _ q3.2.2.2.2.2.2.1]) (fun x hx _ => h2 x hx), by rw [h1 w (by omega) (by omega)]; exact q4, q5, q6, ?_, ?_⟩
  · rw [h1 w (by omega) (by omega)]
    rcases q7 with q7 | ⟨m1, m2, m3, m4⟩
    · exact Or.inl q7
    · right
      refine ⟨by rw [h1 w (by omega) (by omega)]; exact m1, fun x hx => by rw [h1 _ (by rw [e5]; omega) (by rw [e5]; omega)]; exact m2 x hx, fun x hx => by rw [h1 _ (by rw [e6]; omega) (by rw [e6]; omega)]; exact m3 x hx, ?_⟩
      rw [h1 w (by omega) (by omega)]; exact m4
  · rw [h1 w (by omega) (by omega)]
    rcases q8 with q8 | ⟨p1, p2⟩
    · exact Or.inl q8
    · exact Or.inr ⟨p1, p2.fr (fun x g1 g2 => h1 x (by omega) (by omega))⟩
theorem NSt.sn (h : NSt S I a w n t iv st) (hs : SN S S' (a + 53)) : NSt S' I a w n t iv st := by
  obtain ⟨q1, q2, q3, q4, q5, q6, q7, q8⟩ := h
  have hw : w ≠ a + 53 := by omega
  have e := hs.2.2.1 w hw
  have hgd := q3.2.2.2.2.2.2.1
  have f : ∀ {k b kd ln}, Ar S w k b kd ln → Ar S' w k b kd ln := fun q => ⟨by rw [e]; exact q.1, by rw [(hs.1 _).1]; exact q.2.1, by rw [(hs.1 _).2]; exact q.2.2⟩
  obtain ⟨l1, l2, l3, l4, l5, l6⟩ := q2
  refine ⟨q1, ⟨by rw [(hs.1 w).1]; exact l1, f l2, f l3, f l4, by rw [e]; exact l5, l6.sn hs (by omega)⟩, by rw [e]; exact q3.sn (fun x => hs.1 x) (hs.2.2.1 _ (by unfold Dyn at hgd; omega)), q4, q5, q6, ?_, q8⟩
  rcases q7 with q7 | q7
  · exact Or.inl q7
  · right
    rw [Msd, e]
    exact q7
theorem NSt.paint (hd : 3 < d) (h : NSt S I0 a w n t iv st) : ∃ I', z_ev d i_X8_painted [.ref w] S I0 J (some (.ref (w + 4))) S I' J ∧ (∀ x, x ≠ w → Oc (w + 4) x → I' x = I0 x) ∧ (∀ k, k ≠ 9 → I' w k = I0 w k) ∧ I' w 9 = 1 ∧ Pnt S I' (w + 4) n t iv st ∧ NSt S I' a w n t iv st := by
  have h' := h
  obtain ⟨q1, ⟨l1, l2, l3, l4, l5, l6⟩, q3, q4, q5, q6, q7, q8⟩ := h'
  have hgd := q3.2.2.2.2.2.2.1
  have d1 := q3.2.2.2.2.2.2.2 1 (by decide) (by decide)
  have d2 := q3.2.2.2.2.2.2.2 2 (by decide) (by decide)
  obtain ⟨I', a1, a2, a3, a4, a5⟩ := c_painted (J := J) hd l1 l5 l6 (q3.kg (by omega)) q4 q5 (by unfold Oc; omega) (by unfold Dyn at hgd d1 d2; omega) q8
  refine ⟨I', a1, a2, a3, a4, a5, q1, ⟨l1, l2, l3, l4, l5, l6⟩, q3.fr ?_ (fun x hx _ => ?_), by rw [a3 1 (by decide)]; exact q4, q5, q6, ?_, Or.inr ⟨a4, a5⟩⟩
  · rw [a2 _ (by unfold Dyn at hgd; omega) (by unfold Dyn at hgd; unfold Oc; omega)]
  · exact a2 x (by unfold Dyn at hx; omega) (by unfold Dyn at hx; unfold Oc; omega)
  · rw [a3 8 (by decide)]
    rcases q7 with q7 | ⟨m1, m2, m3, m4⟩
    · exact Or.inl q7
    · right
      have e5 := l3.1
      have e6 := l4.1
      refine ⟨by rw [a3 8 (by decide)]; exact m1, fun x hx => by rw [a2 _ (by rw [e5]; omega) (by rw [e5]; unfold Oc; omega)]; exact m2 x hx, fun x hx => by rw [a2 _ (by rw [e6]; omega) (by rw [e6]; unfold Oc; omega)]; exact m3 x hx, ?_⟩
      rw [a3 7 (by decide)]; exact m4
/-- the first network map -/
theorem c_nfindFirst (hd : 26 < d) (hM : ML S (a + 53)) (h0 : NSt S I0 a (a + 20) n t iv st) (h1 : NSt S I0 a (a + 32) n' t' iv' st') (hr1 : z_kd S (a + 71) = 100) (hr2 : z_ln S (a + 71) = 20) : ∃ S' I', z_ev d i_X7_findFirst [.ref (a + 53), .ref (a + 20), .ref (a + 32), .ref (a + 71)] S I0 J none S' I' J ∧ SN S S' (a + 53) ∧ (∀ x, x < a + 20 ∨ a + 43 < x → x < a + 53 ∨ a + 56 < x → x ≠ a + 71 → I' x = I0 x) ∧ (∀ k, k ≠ 9 → I' (a + 20) k = I0 (a + 20) k ∧ I' (a + 32) k = I0 (a + 32) k) ∧ (I' (a + 21) = I0 (a + 21) ∧ I' (a + 33) = I0 (a + 33)) ∧ NSt S' I' a (a + 20) n t iv st ∧ NSt S' I' a (a + 32) n' t' iv' st' ∧ ∀ x, x < n → I' (a + 71) x = zq (n = n') (lxa n (NM0 n (arc n t st) (arc n t' st')) x) (-1) := by
  obtain ⟨d, rfl⟩ := z_dep (d := d) (by omega)
  have hg := h0.2.2.1.2.2.2.2.2.1
  have hg' := h1.2.2.1.2.2.2.2.2.1
  have hn := hg.le
  have hn' := hg'.le
  have hk := hM.1
  have k0 := h0.2.1.1
  have k1 := h1.2.1.1
  have g0 := h0.2.2.1.1
  have g1 := h1.2.2.1.1
  have gd := h0.2.2.1.2.2.2.2.2.2.1
  obtain ⟨vv, hvv⟩ : ∃ vv : Nat → Int32, vv = fun x => zq (n = n') (lxa n (NM0 n (arc n t st) (arc n t' st')) x) (-1) := ⟨_, rfl⟩
  obtain ⟨Q, hQ⟩ : ∃ Q : zQ, Q = fun v S' I' J' => v = none ∧ J' = J ∧ SN S S' (a + 53) ∧ (∀ x, x < a + 20 ∨ a + 43 < x → x < a + 53 ∨ a + 56 < x → x ≠ a + 71 → I' x = I0 x) ∧ (∀ k, k ≠ 9 → I' (a + 20) k = I0 (a + 20) k ∧ I' (a + 32) k = I0 (a + 32) k) ∧ (I' (a + 21) = I0 (a + 21) ∧ I' (a + 33) = I0 (a + 33)) ∧ NSt S' I' a (a + 20) n t iv st ∧ NSt S' I' a (a + 32) n' t' iv' st' ∧ ∀ x, x < n → I' (a + 71) x = vv x := ⟨_, rfl⟩
  suffices hw : z_wp (d + 1) i_X7_findFirst [.ref (a + 53), .ref (a + 20), .ref (a + 32), .ref (a + 71)] S I0 J Q by
    rw [hQ, hvv] at hw
    obtain ⟨v, S', I', J', x1, rfl, rfl, x2⟩ := hw
    exact ⟨S', I', x1, x2⟩
  -- the row is laid
  have tail : ∀ S' I1 (r : Bool) , SN S S' (a + 53) → (∀ x, x < a + 20 ∨ a + 43 < x → x < a + 53 ∨ a + 56 < x → x ≠ a + 71 → I1 x = I0 x) → (∀ k, k ≠ 9 → I1 (a + 20) k = I0 (a + 20) k ∧ I1 (a + 32) k = I0 (a + 32) k) → (I1 (a + 21) = I0 (a + 21) ∧ I1 (a + 33) = I0 (a + 33)) → NSt S' I1 a (a + 20) n t iv st → NSt S' I1 a (a + 32) n' t' iv' st' → (r = true → ∀ x, x < n → I1 (a + 56) x = vv x) → (r = false → ∀ x, x < n → vv x = -1) → Go d i_X7_findFirst 59 [.ref (a + 53), .ref (a + 20), .ref (a + 32), .ref (a + 71), .int (nI r.toNat), .int 0] [] S' I1 J Q := by
    intro S' I1 r hsn f1 f2 f3 n0 n1 ht hf
    have hM' := hM.sn hsn
    have a6 := hM'.2.2.2
    have kr : z_kd S' (a + 71) = 100 := by rw [(hsn.1 _).1]; exact hr1
    have lr : z_ln S' (a + 71) = 20 := by rw [(hsn.1 _).2]; exact hr2
    have cg := n0.2.2.1.1
    have gd' := n0.2.2.1.2.2.2.2.2.2.1
    suffices H : ∀ k, k ≤ n → ∀ I x5, (∀ h, h ≠ a + 71 → I h = I1 h) → (∀ x, x < k → I (a + 71) x = vv x) → x5 = nI k → Go d i_X7_findFirst 59 [.ref (a + 53), .ref (a + 20), .ref (a + 32), .ref (a + 71), .int (nI r.toNat), .int x5] [] S' I J Q from H 0 (by omega) I1 _ (fun _ _ => rfl) (fun x hx => by omega) rfl
    have o0 : ∀ I : zI, (∀ h, h ≠ a + 71 → I h = I1 h) → I (z_rv S' (a + 20) 0) 0 = nI n := fun I hI => by rw [hI _ (by unfold Dyn at gd'; omega)]; exact cg.2.1
    refine z_up_to n ?_ ?_
    · rintro I x5 hI hx rfl
      refine b_X7_findFirst_59 n0.2.1.1 cg.1 (fun _ => b_X7_findFirst_97 ?_) (fun c => absurd (by rw [o0 I hI]; exact nI_le (Nat.le_refl _) (by omega)) c)
      rw [hQ]
      refine ⟨rfl, rfl, hsn, fun x g1 g2 g3 => by rw [hI x g3]; exact f1 x g1 g2 g3, fun k hk => by rw [hI (a + 20) (by omega), hI (a + 32) (by omega)]; exact f2 k hk, by rw [hI (a + 21) (by omega), hI (a + 33) (by omega)]; exact f3, n0.fr (fun x g1 g2 => hI x (by omega)) (fun x hx => hI x (by unfold Dyn at hx; omega)), n1.fr (fun x g1 g2 => hI x (by omega)) (fun x hx => hI x (by unfold Dyn at hx; omega)), hx⟩
    · rintro k hk' ih I x5 hI hx rfl
      refine b_X7_findFirst_59 n0.2.1.1 cg.1 (fun c => absurd c (by rw [o0 I hI]; exact nI_ge hk' (by omega))) (fun _ => ?_)
      have wr : z_kd S' (a + 71) = 100 ∧ vp_in (nI k) (z_ln S' (a + 71)) := ⟨kr, by rw [lr]; exact vp_in_nI (by omega) (by decide)⟩
      have next : ∀ w, w = vv k → Go d i_X7_findFirst 59 [.ref (a + 53), .ref (a + 20), .ref (a + 32), .ref (a + 71), .int (nI r.toNat), .int (nI k + 1)] [] S' (z_u2 I (a + 71) (nI k).toNatClampNeg w) J Q := by
        intro w hw
        refine ih _ _ (fun h hh => by rw [z_u2_row hh]; exact hI h hh) (fun x hx' => ?_) (nI_1 k)
        rw [nI_clamp (by omega)]
        by_cases e : x = k
        · rw [e, z_u2_same, hw]
        · rw [z_u2_nk e]; exact hx x (by omega)
      cases r with
      | false => exact b_X7_findFirst_71 (fun _ => b_X7_findFirst_89 wr (next _ (hf rfl k hk').symm)) (fun c => absurd rfl c)
      | true =>
        refine b_X7_findFirst_71 (fun c => absurd c (by decide)) (fun _ => b_X7_findFirst_79 hM'.1 (a6.rd (by omega) (by decide)) wr (next _ ?_))
        rw [a6.1, nI_clamp (by omega), hI (a + 53 + 3) (by omega), show a + 53 + 3 = a + 56 by omega, ht rfl k hk']
  refine w_X7_findFirst (b_X7_findFirst_0 k0 g0.1 k1 g1.1 (fun q => b_X7_findFirst_56 ?_) (fun q => ?_))
  · rw [g0.2.1, g1.2.1, nI_eq (by omega) (by omega)] at q
    exact tail S I0 false SN.refl (fun _ _ _ _ => rfl) (fun _ _ => ⟨rfl, rfl⟩) ⟨rfl, rfl⟩ h0 h1 (fun w => (by cases w)) (fun _ x _ => by rw [hvv]; exact zq_f q)
  · rw [g0.2.1, g1.2.1, nI_eq (by omega) (by omega)] at q
    subst q
    obtain ⟨Ia, hIa⟩ : ∃ Ia, Ia = z_u2 I0 (a + 53) 7 1 := ⟨_, rfl⟩
    have fa : ∀ x, x ≠ a + 53 → Ia x = I0 x := fun x hx => by rw [hIa, z_u2_row hx]
    have na0 : NSt S Ia a (a + 20) n t iv st := h0.fr (fun x g1 g2 => fa x (by omega)) (fun x hx => fa x (by unfold Dyn at hx; omega))
    have na1 : NSt S Ia a (a + 32) n t' iv' st' := h1.fr (fun x g1 g2 => fa x (by omega)) (fun x hx => fa x (by unfold Dyn at hx; omega))
    obtain ⟨Ib, b1, b2, b3, b4, b5, b6⟩ := na0.paint (d := d) (J := J) (by omega)
    have nb1 : NSt S Ib a (a + 32) n t' iv' st' := na1.fr (fun x g1 g2 => b2 x (by omega) (by unfold Oc; omega)) (fun x hx => b2 x (by unfold Dyn at hx; omega) (by unfold Dyn at hx; unfold Oc; omega))
    obtain ⟨Ic, c1, c2, c3, c4, c5, c6⟩ := nb1.paint (d := d) (J := J) (by omega)
    have nc0 : NSt S Ic a (a + 20) n t iv st := b6.fr (fun x g1 g2 => c2 x (by omega) (by unfold Oc; omega)) (fun x hx => c2 x (by unfold Dyn at hx; omega) (by unfold Dyn at hx; unfold Oc; omega))
    have pc0 : Pnt S Ic (a + 20 + 4) n t iv st := b5.fr (fun x g1 g2 => c2 x (by omega) (by unfold Oc; omega))
    have e7 : Ic (a + 53) 7 = 1 := by rw [c2 _ (by omega) (by unfold Oc; omega), b2 _ (by omega) (by unfold Oc; omega), hIa, z_u2_same]
    obtain ⟨r, Id, d1, d2, d3, d4, d5⟩ := c_nbegin (d := d) (J := J) (by omega) hM h0.2.1.2.2.2.2.2 h1.2.1.2.2.2.2.2 pc0 c5 hg hg' (by omega) (by omega) e7
    have far : ∀ x, x < a + 20 ∨ a + 43 < x → x < a + 53 ∨ a + 56 < x → Id x = I0 x := fun x g1 g2 => by
      rw [d2 x (by omega), c2 x (by omega) (by unfold Oc; omega), b2 x (by omega) (by unfold Oc; omega), fa x (by omega)]
    have fld : ∀ k, k ≠ 9 → Id (a + 20) k = I0 (a + 20) k ∧ Id (a + 32) k = I0 (a + 32) k := fun k hk => by
      rw [d2 (a + 20) (by omega), d2 (a + 32) (by omega), c2 (a + 20) (by omega) (by unfold Oc; omega), c3 k hk, b2 (a + 32) (by omega) (by unfold Oc; omega), b3 k hk, fa (a + 20) (by omega), fa (a + 32) (by omega)]
      exact ⟨rfl, rfl⟩
    have orb : Id (a + 21) = I0 (a + 21) ∧ Id (a + 33) = I0 (a + 33) := by
      rw [d2 (a + 21) (by omega), d2 (a + 33) (by omega), c2 (a + 21) (by omega) (by unfold Oc; omega), c2 (a + 33) (by omega) (by unfold Oc; omega), b2 (a + 21) (by omega) (by unfold Oc; omega), b2 (a + 33) (by omega) (by unfold Oc; omega), fa _ (by omega), fa _ (by omega)]
      exact ⟨rfl, rfl⟩
    have hsn : SN S (setR2 S (a + 53) (a + 20 + 4) (a + 32 + 4)) (a + 53) := SN.set
    have nd0 : NSt (setR2 S (a + 53) (a + 20 + 4) (a + 32 + 4)) Id a (a + 20) n t iv st := (nc0.fr (fun x g1 g2 => d2 x (by omega)) (fun x hx => d2 x (by unfold Dyn at hx; omega))).sn hsn
    have nd1 : NSt (setR2 S (a + 53) (a + 20 + 4) (a + 32 + 4)) Id a (a + 32) n t' iv' st' := (c6.fr (fun x g1 g2 => d2 x (by omega)) (fun x hx => d2 x (by unfold Dyn at hx; omega))).sn hsn
    have h00 := h0.2.2.2.2.2.1
    have h01 := h1.2.2.2.2.2.1
    refine b_X7_findFirst_20 ⟨hk, Or.inr rfl⟩ k0 ?_
    rw [← hIa]
    refine ⟨_, _, _, _, b1, b_X7_findFirst_30 k1 ⟨_, _, _, _, c1, b_X7_findFirst_34 hk ⟨_, _, _, _, d1, ?_⟩⟩⟩
    cases r with
    | false =>
      refine b_X7_findFirst_37 (fun _ => b_X7_findFirst_53 (tail _ Id false hsn (fun x g1 g2 _ => far x g1 g2) fld orb nd0 nd1 (fun w => (by cases w)) (fun _ x _ => ?_))) (fun q => absurd rfl q)
      rw [hvv]
      show zq _ _ _ = _
      rw [zq_t rfl, lxa_f (fun φ hφ => d5 rfl rfl h00 h01 φ hφ)]
    | true =>
      obtain ⟨_, w1, w2, w3, w4⟩ := d4 rfl
      have hrec := c_ncomplete (S := setR2 S (a + 53) (a + 20 + 4) (a + 32 + 4)) (J := J) (mm_dg hg hg') n d 1 1 (fun _ => 0) Id (by omega) (by omega) (zc_1 hg.pos) (by have := Nat.pow_le_pow_right (show 0 < 2 by decide) hg.pos; omega) w1 w2 w3 w4
      refine b_X7_findFirst_37 (fun q => absurd q (by decide)) (fun _ => b_X7_findFirst_40 (hM.sn hsn).1 (hrec.mono ?_))
      rintro v S1 I3 J1 ⟨r, rfl, rfl, rfl, u1, u2, u3, u4, u5⟩
      have far3 : ∀ x, x < a + 20 ∨ a + 43 < x → x < a + 53 ∨ a + 56 < x → I3 x = I0 x := fun x g1 g2 => by rw [u1 x (by omega)]; exact far x g1 g2
      have fld3 : ∀ k, k ≠ 9 → I3 (a + 20) k = I0 (a + 20) k ∧ I3 (a + 32) k = I0 (a + 32) k := fun k hk => by rw [u1 (a + 20) (by omega), u1 (a + 32) (by omega)]; exact fld k hk
      have orb3 : I3 (a + 21) = I0 (a + 21) ∧ I3 (a + 33) = I0 (a + 33) := by rw [u1 (a + 21) (by omega), u1 (a + 33) (by omega)]; exact orb
      have n30 := nd0.fr (I := I3) (fun x g1 g2 => u1 x (by omega)) (fun x hx => u1 x (by unfold Dyn at hx; omega))
      have n31 := nd1.fr (I := I3) (fun x g1 g2 => u1 x (by omega)) (fun x hx => u1 x (by unfold Dyn at hx; omega))
      have eP : ∀ ψ, (CPm n (MMh t t' iv iv' (HU n t iv st) (HU n t' iv' st')) ψ ∧ Ex n (fun x => (1 : Nat).testBit x = true) (fun _ => 0) ψ) ↔ NM0 n (arc n t st) (arc n t' st') ψ := fun ψ => by
        rw [ex_01 hg.pos]
        exact ⟨fun q => ⟨(cpm_iff hg hg' h00 h01 q.2).mp q.1, q.2⟩, fun q => ⟨(cpm_iff hg hg' h00 h01 q.2).mpr q.1, q.2⟩⟩
      cases r with
      | false =>
        refine b_X7_findFirst_46 (fun _ => b_X7_findFirst_53 (tail _ I3 false hsn (fun x g1 g2 _ => far3 x g1 g2) fld3 orb3 n30 n31 (fun w => (by cases w)) (fun _ x _ => ?_))) (fun q => absurd rfl q)
        rw [hvv]
        show zq _ _ _ = _
        rw [zq_t rfl, lxa_f (fun φ hφ => u5 rfl φ ((eP φ).mpr hφ).1 ((eP φ).mpr hφ).2)]
      | true =>
        obtain ⟨ψ, v1, v2, v3, v4⟩ := u4 rfl
        have e7' : Id (a + 53) 7 ≠ 0 := by rw [d3 7 (by decide) (by decide), e7]; decide
        have hL := (v3 e7').cg eP
        refine b_X7_findFirst_46 (fun q => absurd q (by decide)) (fun _ => b_X7_findFirst_49 (tail _ I3 true hsn (fun x g1 g2 _ => far3 x g1 g2) fld3 orb3 n30 n31 (fun _ x hx => ?_) (fun w => (by cases w))))
        rw [hvv]
        show _ = zq _ _ _
        rw [zq_t rfl, lxa_t hL hx]
        exact v4 x hx
end C19

/-! THE CLASS: a Group is made -/
/-- what lay there before is as it was, but for what is in W -/
def Ext (W : Nat → Prop) (S : zS) (I : zI) (S' : zS) (I' : zI) : Prop := z_sz S ≤ z_sz S' ∧ (∀ h, h ≤ z_sz S → z_kd S' h = z_kd S h ∧ z_ln S' h = z_ln S h) ∧ ∀ h, h ≤ z_sz S → ¬ W h → z_rv S' h = z_rv S h ∧ I' h = I h
theorem Ext.refl (W : Nat → Prop) (S : zS) (I : zI) : Ext W S I S I := ⟨Nat.le_refl _, fun _ _ => ⟨rfl, rfl⟩, fun _ _ _ => ⟨rfl, rfl⟩⟩
theorem Ext.trans {W : Nat → Prop} {S S1 S2 : zS} {I I1 I2 : zI} (h1 : Ext W S I S1 I1) (h2 : Ext W S1 I1 S2 I2) : Ext W S I S2 I2 := by
  obtain ⟨a1, a2, a3⟩ := h1
  obtain ⟨b1, b2, b3⟩ := h2
  refine ⟨by omega, fun h hh => ?_, fun h hh hw => ?_⟩
  · rw [(b2 h (by omega)).1, (b2 h (by omega)).2]; exact a2 h hh
  · rw [(b3 h (by omega) hw).1, (b3 h (by omega) hw).2]; exact a3 h hh hw
theorem Ext.mono {W W' : Nat → Prop} {S S' : zS} {I I' : zI} (h : Ext W S I S' I') (hW : ∀ x, x ≤ z_sz S → W x → W' x) : Ext W' S I S' I' := ⟨h.1, h.2.1, fun x hx hw => h.2.2 x hx (fun q => hw (hW x hx q))⟩
/-- only whole numbers change -/
theorem Ext.ints {W : Nat → Prop} {S : zS} {I I' : zI} (h : ∀ a, a ≤ z_sz S → ¬ W a → I' a = I a) : Ext W S I S I' := ⟨Nat.le_refl _, fun _ _ => ⟨rfl, rfl⟩, fun a ha hw => ⟨rfl, h a ha hw⟩⟩
theorem z_u2_row {α : Type} {f : Nat → Nat → α} {h k a : Nat} {v : α} (hne : a ≠ h) : z_u2 f h k v a = f a := by funext j; exact z_u2_ne hne
theorem z_ur_row {α : Type} {f : Nat → Nat → α} {h a : Nat} {g : Nat → α} (hne : a ≠ h) : z_ur f h g a = f a := by funext j; exact z_ur_ne hne
/-- a new cell, and a field of an older one that leads to it -/
theorem z_newF (S : zS) (kd len m g k : Nat) (hg : g ≤ z_sz S) : ∃ S1, z_setR (z_new S kd len m) g k (z_sz S + 1) = S1 ∧ z_sz S1 = z_sz S + 1 ∧ z_ce S1 = z_ce S + 1 ∧ z_sl S1 = z_sl S + m ∧ z_kd S1 (z_sz S + 1) = kd ∧ z_ln S1 (z_sz S + 1) = len ∧ (∀ h, h ≤ z_sz S → z_kd S1 h = z_kd S h ∧ z_ln S1 h = z_ln S h) ∧ z_rv S1 g k = z_sz S + 1 ∧ (∀ j, j ≠ k → z_rv S1 g j = z_rv S g j) ∧ (∀ h, h ≤ z_sz S → h ≠ g → z_rv S1 h = z_rv S h) ∧ (∀ j, z_rv S1 (z_sz S + 1) j = 0) := by
  refine ⟨_, rfl, rfl, rfl, rfl, z_kd_new (n := len) (m := m), z_ln_new (k := kd) (m := m), fun h hh => ⟨z_kd_nev (n := len) (m := m) (by omega), z_ln_nev (k := kd) (m := m) (by omega)⟩, ?_, fun j hj => ?_, fun h hh hne => ?_, fun j => ?_⟩
  · rw [z_rv_setR, if_pos rfl, if_pos rfl]
  · rw [z_rv_setR, if_pos rfl, if_neg hj, z_rv_nev (by omega)]
  · funext j
    rw [z_rv_setR, if_neg hne, z_rv_nev (by omega)]
  · rw [z_rv_setR, if_neg (by omega), z_rv_new]
theorem z_setF (S : zS) (g k v : Nat) : ∃ S1, z_setR S g k v = S1 ∧ z_sz S1 = z_sz S ∧ z_ce S1 = z_ce S ∧ z_sl S1 = z_sl S ∧ (∀ h, z_kd S1 h = z_kd S h ∧ z_ln S1 h = z_ln S h) ∧ z_rv S1 g k = v ∧ (∀ j, j ≠ k → z_rv S1 g j = z_rv S g j) ∧ (∀ h, h ≠ g → z_rv S1 h = z_rv S h) := by
  refine ⟨_, rfl, rfl, rfl, rfl, fun h => ⟨rfl, rfl⟩, ?_, fun j hj => ?_, fun h hne => ?_⟩
  · rw [z_rv_setR, if_pos rfl, if_pos rfl]
  · rw [z_rv_setR, if_pos rfl, if_neg hj]
  · funext j
    rw [z_rv_setR, if_neg hne]
theorem z_lenok {n : Nat} (hn : n ≤ 600) : ¬ nI n < 0 ∧ (nI n).toNatClampNeg * 4 ≤ 536870912 := ⟨nI_pos (by omega), by rw [nI_clamp (by omega)]; omega⟩
section C5
variable {d g n : Nat} {t : Nat → Nat → Nat} {iv : Nat → Nat} {S : zS} {I : zI} {J : zJ}
theorem c_init {tab nm og : Nat} {pr : Int32} (hd : 2 < d) (hg : Grp n t iv) (hg0 : g ≠ 0) (hk : z_kd S g = 2) (hgs : g ≤ z_sz S) (ht1 : tab ≤ z_sz S) (ht2 : z_kd S tab = 100) (ht3 : z_ln S tab = n * n) (ht4 : ∀ x, x < n → ∀ y, y < n → I tab (x * n + y) = nI (t x y)) :
    ∃ S' I', z_ev d i_X1_init [.ref g, .int (nI n), .ref tab, .ref nm, .ref og, .int pr] S I J none S' I' J ∧ z_sz S' = z_sz S + 4 ∧ z_ce S' = z_ce S + 4 ∧ z_sl S' = z_sl S + 4 * n ∧ Ext (fun h => h = g) S I S' I' ∧ CT S' I' g n t ∧ CR S' I' g 2 n iv ∧ CR S' I' g 3 n (per t) ∧ CR S' I' g 4 n (cls n t iv) ∧ CR S' I' g 5 n (mrk n t iv) ∧ z_rv S' g 1 = tab ∧ z_rv S' g 2 = z_sz S + 1 ∧ z_rv S' g 3 = z_sz S + 2 ∧ z_rv S' g 4 = z_sz S + 3 ∧ z_rv S' g 5 = z_sz S + 4 ∧ z_rv S' g 6 = nm ∧ z_rv S' g 7 = og ∧ I' g 8 = pr ∧ I' g 9 = I g 9 ∧ z_rv S' g 10 = z_rv S g 10 := by
  obtain ⟨d, rfl⟩ := z_dep (d := d) (by omega)
  have hn := hg.le
  have hn2 := z_sq400 hn
  have hgt : g ≠ tab := fun e => by rw [e, ht2] at hk; cases hk
  have hl := z_lenok (n := n) (by omega)
  obtain ⟨S1, e1, a1, a2, a3, a4, a5, a6, a7⟩ := z_setF S g 1 tab
  obtain ⟨S2, e2, b1, b2, b3, b4, b5, b6, b7⟩ := z_setF S1 g 6 nm
  obtain ⟨S3, e3, c1, c2, c3, c4, c5, c6, c7⟩ := z_setF S2 g 7 og
  obtain ⟨S4, e4, f1, f2, f3, f4, f5, f6, f7, f8, f9, f10⟩ := z_newF S3 100 n n g 2 (by omega)
  obtain ⟨S5, e5, g1, g2, g3, g4, g5, g6, g7, g8, g9, g10⟩ := z_newF S4 100 n n g 3 (by omega)
  obtain ⟨S6, e6, i1, i2, i3, i4, i5, i6, i7, i8, i9, i10⟩ := z_newF S5 100 n n g 4 (by omega)
  obtain ⟨S7, e7, j1, j2, j3, j4, j5, j6, j7, j8, j9, j10⟩ := z_newF S6 100 n n g 5 (by omega)
  have k1 : z_kd S1 g = 2 := by rw [(a4 g).1, hk]
  have k2 : z_kd S2 g = 2 := by rw [(b4 g).1, k1]
  have k3 : z_kd S3 g = 2 := by rw [(c4 g).1, k2]
  have k4 : z_kd S4 g = 2 := by rw [(f6 g (by omega)).1, k3]
  have k5 : z_kd S5 g = 2 := by rw [(g6 g (by omega)).1, k4]
  have k6 : z_kd S6 g = 2 := by rw [(i6 g (by omega)).1, k5]
  have k7 : z_kd S7 g = 2 := by rw [(j6 g (by omega)).1, k6]
  have K3 : ∀ h, h ≤ z_sz S → z_kd S3 h = z_kd S h ∧ z_ln S3 h = z_ln S h := fun h hh => by
    rw [(c4 h).1, (c4 h).2, (b4 h).1, (b4 h).2]; exact a4 h
  have K7 : ∀ h, h ≤ z_sz S → z_kd S7 h = z_kd S h ∧ z_ln S7 h = z_ln S h := fun h hh => by
    rw [(j6 h (by omega)).1, (j6 h (by omega)).2, (i6 h (by omega)).1, (i6 h (by omega)).2, (g6 h (by omega)).1, (g6 h (by omega)).2, (f6 h (by omega)).1, (f6 h (by omega)).2]; exact K3 h hh
  have R7 : ∀ h, h ≤ z_sz S → h ≠ g → z_rv S7 h = z_rv S h := fun h hh hne => by
    rw [j9 h (by omega) hne, i9 h (by omega) hne, g9 h (by omega) hne, f9 h (by omega) hne, c7 h hne, b7 h hne, a7 h hne]
  have r1 : z_rv S7 g 1 = tab := by rw [j8 1 (by decide), i8 1 (by decide), g8 1 (by decide), f8 1 (by decide), c6 1 (by decide), b6 1 (by decide), a5]
  have r2 : z_rv S7 g 2 = z_sz S + 1 := by rw [j8 2 (by decide), i8 2 (by decide), g8 2 (by decide), f7]; omega
  have r3 : z_rv S7 g 3 = z_sz S + 2 := by rw [j8 3 (by decide), i8 3 (by decide), g7]; omega
  have r4 : z_rv S7 g 4 = z_sz S + 3 := by rw [j8 4 (by decide), i7]; omega
  have r5 : z_rv S7 g 5 = z_sz S + 4 := by rw [j7]; omega
  have r6 : z_rv S7 g 6 = nm := by rw [j8 6 (by decide), i8 6 (by decide), g8 6 (by decide), f8 6 (by decide), c6 6 (by decide), b5]
  have r7 : z_rv S7 g 7 = og := by rw [j8 7 (by decide), i8 7 (by decide), g8 7 (by decide), f8 7 (by decide), c5]
  have r10 : z_rv S7 g 10 = z_rv S g 10 := by rw [j8 10 (by decide), i8 10 (by decide), g8 10 (by decide), f8 10 (by decide), c6 10 (by decide), b6 10 (by decide), a6 10 (by decide)]
  have q1 : z_kd S7 (z_sz S + 1) = 100 ∧ z_ln S7 (z_sz S + 1) = n := by
    rw [(j6 _ (by omega)).1, (j6 _ (by omega)).2, (i6 _ (by omega)).1, (i6 _ (by omega)).2, (g6 _ (by omega)).1, (g6 _ (by omega)).2, show z_sz S + 1 = z_sz S3 + 1 by omega]
    exact ⟨f4, f5⟩
  have q2 : z_kd S7 (z_sz S + 2) = 100 ∧ z_ln S7 (z_sz S + 2) = n := by
    rw [(j6 _ (by omega)).1, (j6 _ (by omega)).2, (i6 _ (by omega)).1, (i6 _ (by omega)).2, show z_sz S + 2 = z_sz S4 + 1 by omega]
    exact ⟨g4, g5⟩
  have q3 : z_kd S7 (z_sz S + 3) = 100 ∧ z_ln S7 (z_sz S + 3) = n := by
    rw [(j6 _ (by omega)).1, (j6 _ (by omega)).2, show z_sz S + 3 = z_sz S5 + 1 by omega]
    exact ⟨i4, i5⟩
  have q4 : z_kd S7 (z_sz S + 4) = 100 ∧ z_ln S7 (z_sz S + 4) = n := by
    rw [show z_sz S + 4 = z_sz S6 + 1 by omega]
    exact ⟨j4, j5⟩
  -- whole numbers
  obtain ⟨I1, E1⟩ : ∃ I1, I1 = z_u2 (z_u2 I g 0 (nI n)) g 8 pr := ⟨_, rfl⟩
  obtain ⟨I2, E2⟩ : ∃ I2, I2 = z_ur (z_ur (z_ur (z_ur I1 (z_sz S3 + 1) (fun _ => 0)) (z_sz S4 + 1) (fun _ => 0)) (z_sz S5 + 1) (fun _ => 0)) (z_sz S6 + 1) (fun _ => 0) := ⟨_, rfl⟩
  have n2 : ∀ h, h ≤ z_sz S → I2 h = I1 h := fun h hh => by
    rw [E2, z_ur_row (by omega), z_ur_row (by omega), z_ur_row (by omega), z_ur_row (by omega)]
  have n1 : ∀ h, h ≠ g → I1 h = I h := fun h hh => by rw [E1, z_u2_row hh, z_u2_row hh]
  have m0 : I2 g 0 = nI n := by rw [n2 g hgs, E1, z_u2_nk (by decide), z_u2_same]
  have m8 : I2 g 8 = pr := by rw [n2 g hgs, E1, z_u2_same]
  have m9 : I2 g 9 = I g 9 := by rw [n2 g hgs, E1, z_u2_nk (by decide), z_u2_nk (by decide)]
  have hm : ∀ x, I2 (z_sz S + 4) x = 0 := fun x => by rw [E2, show z_sz S + 4 = z_sz S6 + 1 by omega, z_ur_same]
  have hC : CT S7 I2 g n t := by
    refine ⟨k7, m0, hg.1, ?_, ?_, ?_⟩
    · rw [r1, (K7 tab ht1).1, ht2]
    · rw [r1, (K7 tab ht1).2, ht3]
    · intro x hx y hy
      rw [r1, n2 tab ht1, n1 tab (fun e => hgt e.symm)]
      exact ht4 x hx y hy
  have x1 := c_findInverses (d := d) (J := J) (by omega) hC hg (by rw [r2]; exact q1.1) (by rw [r2]; exact q1.2) (by rw [r1, r2]; omega)
  obtain ⟨I3, E3⟩ : ∃ I3, I3 = zfill I2 (z_rv S7 g 2) n (fun x => nI (iv x)) := ⟨_, rfl⟩
  rw [← E3] at x1
  have o3 : ∀ h, h ≠ z_sz S + 1 → I3 h = I2 h := fun h hh => by rw [E3, zfill_ne (by rw [r2]; exact hh)]
  have hC3 : CT S7 I3 g n t := hC.fr (by rw [o3 g (by omega)]) (by rw [o3 _ (by rw [r1]; omega)])
  have hv3 : CR S7 I3 g 2 n iv := by rw [E3]; exact CR.filled (by rw [r2]; exact q1.1) (by rw [r2]; exact q1.2)
  have x2 := c_findPeriods (d := d) (J := J) (by omega) hC3 hg (by rw [r3]; exact q2.1) (by rw [r3]; exact q2.2) (by rw [r1, r3]; omega)
  obtain ⟨I4, E4⟩ : ∃ I4, I4 = zfill I3 (z_rv S7 g 3) n (fun x => nI (per t x)) := ⟨_, rfl⟩
  rw [← E4] at x2
  have o4 : ∀ h, h ≠ z_sz S + 2 → I4 h = I3 h := fun h hh => by rw [E4, zfill_ne (by rw [r3]; exact hh)]
  have hC4 : CT S7 I4 g n t := hC3.fr (by rw [o4 g (by omega)]) (by rw [o4 _ (by rw [r1]; omega)])
  have hv4 : CR S7 I4 g 2 n iv := hv3.fr (by rw [o4 _ (by rw [r2]; omega)])
  have hp4 : CR S7 I4 g 3 n (per t) := by rw [E4]; exact CR.filled (by rw [r3]; exact q2.1) (by rw [r3]; exact q2.2)
  have x3 := c_findClasses (d := d) (J := J) (by omega) hC4 hg hv4 (by rw [r4]; exact q3.1) (by rw [r4]; exact q3.2) (by rw [r1, r4]; omega) (by rw [r2, r4]; omega)
  obtain ⟨I5, E5⟩ : ∃ I5, I5 = zfill I4 (z_rv S7 g 4) n (fun x => nI (cls n t iv x)) := ⟨_, rfl⟩
  rw [← E5] at x3
  have o5 : ∀ h, h ≠ z_sz S + 3 → I5 h = I4 h := fun h hh => by rw [E5, zfill_ne (by rw [r4]; exact hh)]
  have hC5 : CT S7 I5 g n t := hC4.fr (by rw [o5 g (by omega)]) (by rw [o5 _ (by rw [r1]; omega)])
  have hv5 : CR S7 I5 g 2 n iv := hv4.fr (by rw [o5 _ (by rw [r2]; omega)])
  have hp5 : CR S7 I5 g 3 n (per t) := hp4.fr (by rw [o5 _ (by rw [r3]; omega)])
  have hc5 : CR S7 I5 g 4 n (cls n t iv) := by rw [E5]; exact CR.filled (by rw [r4]; exact q3.1) (by rw [r4]; exact q3.2)
  have x4 := c_findMarks (d := d) (J := J) (by omega) hC5 hg hp5 hc5 (by rw [r5]; exact q4.1) (by rw [r5]; exact q4.2) (by rw [r1, r5]; omega) (by rw [r3, r5]; omega) (by rw [r4, r5]; omega) (fun x _ => by rw [r5, o5 _ (by omega), o4 _ (by omega), o3 _ (by omega), hm])
  obtain ⟨I6, E6⟩ : ∃ I6, I6 = zfill I5 (z_rv S7 g 5) n (fun x => nI (mrk n t iv x)) := ⟨_, rfl⟩
  rw [← E6] at x4
  have o6 : ∀ h, h ≠ z_sz S + 4 → I6 h = I5 h := fun h hh => by rw [E6, zfill_ne (by rw [r5]; exact hh)]
  have O : ∀ h, h ≤ z_sz S → I6 h = I2 h := fun h hh => by rw [o6 h (by omega), o5 h (by omega), o4 h (by omega), o3 h (by omega)]
  refine ⟨S7, I6, ?_, by omega, by omega, by omega, ⟨by omega, K7, fun h hh hne => ⟨R7 h hh hne, by rw [O h hh, n2 h hh, n1 h hne]⟩⟩, hC5.fr (by rw [o6 g (by omega)]) (by rw [o6 _ (by rw [r1]; omega)]), hv5.fr (by rw [o6 _ (by rw [r2]; omega)]), hp5.fr (by rw [o6 _ (by rw [r3]; omega)]), hc5.fr (by rw [o6 _ (by rw [r4]; omega)]), by rw [E6]; exact CR.filled (by rw [r5]; exact q4.1) (by rw [r5]; exact q4.2), r1, r2, r3, r4, r5, r6, r7, by rw [O g hgs, m8], by rw [O g hgs, m9], r10⟩
  refine e_X1_init (b_X1_init_0 hg0 hk ?_)
  refine b_X1_init_9 hk ?_
  rw [e1]
  refine b_X1_init_14 k1 ?_
  rw [e2]
  refine b_X1_init_19 k2 ?_
  rw [e3]
  refine b_X1_init_25 k3 ?_
  rw [← E1]
  refine b_X1_init_31 hl (by rw [z_kd_nev (by omega)]; exact k3) ?_
  rw [nI_clamp (by omega), e4]
  refine b_X1_init_38 hl (by rw [z_kd_nev (by omega)]; exact k4) ?_
  rw [nI_clamp (by omega), e5]
  refine b_X1_init_45 hl (by rw [z_kd_nev (by omega)]; exact k5) ?_
  rw [nI_clamp (by omega), e6]
  refine b_X1_init_52 hl (by rw [z_kd_nev (by omega)]; exact k6) ?_
  rw [nI_clamp (by omega), e7, ← E2]
  refine b_X1_init_59 k7 ⟨_, _, _, _, x1, ?_⟩
  refine b_X1_init_63 k7 ⟨_, _, _, _, x2, ?_⟩
  refine b_X1_init_67 k7 ⟨_, _, _, _, x3, ?_⟩
  refine b_X1_init_71 k7 ⟨_, _, _, _, x4, ?_⟩
  exact b_X1_init_75 ⟨rfl, rfl, rfl, rfl⟩
end C5

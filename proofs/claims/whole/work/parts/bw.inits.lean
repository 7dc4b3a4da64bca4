/-! CONSTRUCTORS: an object at g, the last cell so far, is filled -/
/-- from S, I, J, whose last cell is g, with c cells and l places more; of the cells that were there only g's fields have changed -/
def Mkd (g c l : Nat) (S : zS) (I : zI) (J : zJ) (S' : zS) (I' : zI) (J' : zJ) : Prop := z_sz S' = g + c ∧ z_ce S' = z_ce S + c ∧ z_sl S' = z_sl S + l ∧ (∀ h, h ≤ g → z_kd S' h = z_kd S h ∧ z_ln S' h = z_ln S h ∧ J' h = J h) ∧ ∀ h, h < g → z_rv S' h = z_rv S h ∧ I' h = I h
/-- one step of it: all cells up to q are kept, but for g's fields that lead to others -/
def Nx (g q : Nat) (S : zS) (I : zI) (J : zJ) (S' : zS) (I' : zI) (J' : zJ) : Prop := ∀ y, y ≤ q → z_kd S' y = z_kd S y ∧ z_ln S' y = z_ln S y ∧ (y ≠ g → z_rv S' y = z_rv S y) ∧ I' y = I y ∧ J' y = J y
/-- a run of cells is kept -/
def Blk (p q : Nat) (S S' : zS) : Prop := ∀ y, p ≤ y → y ≤ q → z_kd S' y = z_kd S y ∧ z_ln S' y = z_ln S y ∧ z_rv S' y = z_rv S y
/-- the fields of g that lead to its arrays -/
def Lays (S : zS) (g : Nat) : List (Nat × Nat × Nat × Nat) → Prop
  | [] => True
  | q :: L => Ar S g q.1 (g + q.2.1) q.2.2.1 q.2.2.2 ∧ Lays S g L
section KIn
variable {d g c c' l l' k kd m len p q : Nat} {n : Int32} {S S' S1 S2 S3 : zS} {I I' I1 I3 : zI} {J J' J1 J3 : zJ} {L : List (Nat × Nat × Nat × Nat)}
theorem Mkd.refl (hz : z_sz S = g) : Mkd g 0 0 S I J S I J := ⟨hz, rfl, rfl, fun _ _ => ⟨rfl, rfl, rfl⟩, fun _ _ => ⟨rfl, rfl⟩⟩
theorem Mkd.int (h : Mkd g c l S I J S1 I1 J1) (k : Nat) (v : Int32) : Mkd g c l S I J S1 (z_u2 I1 g k v) J1 := ⟨h.1, h.2.1, h.2.2.1, h.2.2.2.1, fun y hy => ⟨(h.2.2.2.2 y hy).1, by rw [z_u2_row (by omega)]; exact (h.2.2.2.2 y hy).2⟩⟩
theorem Mkd.nx (h : Mkd g c l S I J S1 I1 J1) (hn : Nx g (g + c) S1 I1 J1 S2 I' J') (h1 : z_sz S2 = g + c') (h2 : z_ce S2 = z_ce S + c') (h3 : z_sl S2 = z_sl S + l') : Mkd g c' l' S I J S2 I' J' := by
  refine ⟨h1, h2, h3, fun y hy => ?_, fun y hy => ?_⟩
  · obtain ⟨a1, a2, a3⟩ := h.2.2.2.1 y hy
    obtain ⟨b1, b2, _, _, b3⟩ := hn y (by omega)
    exact ⟨by rw [b1, a1], by rw [b2, a2], by rw [b3, a3]⟩
  · obtain ⟨a1, a2⟩ := h.2.2.2.2 y hy
    obtain ⟨_, _, b1, b2, _⟩ := hn y (by omega)
    exact ⟨by rw [b1 (by omega), a1], by rw [b2, a2]⟩
theorem Mkd.ki (h : Mkd g c l S I J S1 I1 J1) : z_kd S1 g = z_kd S g := (h.2.2.2.1 g (Nat.le_refl _)).1
theorem Mkd.nk {x y z : Nat} (h : Mkd g c l S I J S1 I1 J1) : z_kd (z_new S1 x y z) g = z_kd S g := by
  rw [z_kd_nev (by have := h.1; omega)]; exact h.ki
theorem Lays.nx : ∀ {L : List (Nat × Nat × Nat × Nat)}, Lays S g L → Nx g (g + c) S I J S' I' J' → (∀ j, j ≠ k → z_rv S' g j = z_rv S g j) → L.all (fun q => q.1 != k && Nat.ble q.2.1 c) = true → Lays S' g L
  | [], _, _, _, _ => trivial
  | q :: L, h, hn, hr, hc => by
    rw [List.all_cons, Bool.and_eq_true, Bool.and_eq_true] at hc
    obtain ⟨⟨c1, c2⟩, c3⟩ := hc
    have c2 := Nat.le_of_ble_eq_true c2
    have c1 : q.1 ≠ k := fun e => by rw [e] at c1; simp at c1
    obtain ⟨a1, a2, a3⟩ := h.1
    obtain ⟨b1, b2, _⟩ := hn (g + q.2.1) (by omega)
    exact ⟨⟨by rw [hr _ c1]; exact a1, by rw [b1]; exact a2, by rw [b2]; exact a3⟩, Lays.nx h.2 hn hr c3⟩
/-- an array more -/
theorem Mkd.arr (h : Mkd g c l S I J S1 I1 J1) (hL : Lays S1 g L) (kd k : Nat) (n : Int32) (len : Nat) (hn : n.toNatClampNeg = len) (hc : L.all (fun q => q.1 != k && Nat.ble q.2.1 c) = true) : ∃ S2 I2, z_setR (z_new S1 kd n.toNatClampNeg n.toNatClampNeg) g k (z_sz S1 + 1) = S2 ∧ z_ur I1 (z_sz S1 + 1) (fun _ => 0) = I2 ∧ Mkd g (c + 1) (l + len) S I J S2 I2 J1 ∧ Lays S2 g ((k, c + 1, kd, len) :: L) ∧ Nx g (g + c) S1 I1 J1 S2 I2 J1 ∧ ∀ j, j ≠ k → z_rv S2 g j = z_rv S1 g j := by
  have hz := h.1
  rw [hn]
  obtain ⟨S2, e1, a1, a2, a3, a4, a5, a6, a7, a8, a9, _⟩ := z_newF S1 kd len len g k (by omega)
  have hx : Nx g (g + c) S1 I1 J1 S2 (z_ur I1 (z_sz S1 + 1) (fun _ => 0)) J1 := fun y hy => ⟨(a6 y (by omega)).1, (a6 y (by omega)).2, fun hne => a9 y (by omega) hne, z_ur_row (by omega), rfl⟩
  refine ⟨S2, _, e1, rfl, h.nx hx (by omega) (by have := h.2.1; omega) (by have := h.2.2.1; omega), ⟨⟨?_, ?_, ?_⟩, hL.nx hx a8 hc⟩, hx, a8⟩
  · show z_rv S2 g k = g + (c + 1)
    rw [a7, hz]; omega
  · show z_kd S2 (g + (c + 1)) = kd
    rw [show g + (c + 1) = z_sz S1 + 1 by omega]; exact a4
  · show z_ln S2 (g + (c + 1)) = len
    rw [show g + (c + 1) = z_sz S1 + 1 by omega]; exact a5
/-- an array of others more -/
theorem Mkd.aar (h : Mkd g c l S I J S1 I1 J1) (hL : Lays S1 g L) (kd k : Nat) (n : Int32) (len : Nat) (hn : n.toNatClampNeg = len) (hc : L.all (fun q => q.1 != k && Nat.ble q.2.1 c) = true) : ∃ S2, z_setR (z_new S1 kd n.toNatClampNeg n.toNatClampNeg) g k (z_sz S1 + 1) = S2 ∧ Mkd g (c + 1) (l + len) S I J S2 I1 J1 ∧ Lays S2 g ((k, c + 1, kd, len) :: L) ∧ Nx g (g + c) S1 I1 J1 S2 I1 J1 ∧ ∀ j, j ≠ k → z_rv S2 g j = z_rv S1 g j := by
  have hz := h.1
  rw [hn]
  obtain ⟨S2, e1, a1, a2, a3, a4, a5, a6, a7, a8, a9, _⟩ := z_newF S1 kd len len g k (by omega)
  have hx : Nx g (g + c) S1 I1 J1 S2 I1 J1 := fun y hy => ⟨(a6 y (by omega)).1, (a6 y (by omega)).2, fun hne => a9 y (by omega) hne, rfl, rfl⟩
  refine ⟨S2, e1, h.nx hx (by omega) (by have := h.2.1; omega) (by have := h.2.2.1; omega), ⟨⟨?_, ?_, ?_⟩, hL.nx hx a8 hc⟩, hx, a8⟩
  · show z_rv S2 g k = g + (c + 1)
    rw [a7, hz]; omega
  · show z_kd S2 (g + (c + 1)) = kd
    rw [show g + (c + 1) = z_sz S1 + 1 by omega]; exact a4
  · show z_ln S2 (g + (c + 1)) = len
    rw [show g + (c + 1) = z_sz S1 + 1 by omega]; exact a5
/-- a field of g is set -/
theorem Mkd.set (h : Mkd g c l S I J S1 I1 J1) (hL : Lays S1 g L) (k v : Nat) (hc : L.all (fun q => q.1 != k && Nat.ble q.2.1 c) = true) : ∃ S2, z_setR S1 g k v = S2 ∧ Mkd g c l S I J S2 I1 J1 ∧ Lays S2 g L ∧ Nx g (g + c) S1 I1 J1 S2 I1 J1 ∧ (∀ j, j ≠ k → z_rv S2 g j = z_rv S1 g j) ∧ z_rv S2 g k = v := by
  obtain ⟨S2, e1, a1, a2, a3, a4, a5, a6, a7⟩ := z_setF S1 g k v
  have hx : Nx g (g + c) S1 I1 J1 S2 I1 J1 := fun y hy => ⟨(a4 y).1, (a4 y).2, fun hne => a7 y hne, rfl, rfl⟩
  exact ⟨S2, e1, h.nx hx (by rw [a1]; exact h.1) (by rw [a2]; exact h.2.1) (by rw [a3]; exact h.2.2.1), hL.nx hx a6 hc, hx, a6, a5⟩
/-- an object more, that is filled before g's field leads to it -/
theorem Mkd.sub (h : Mkd g c l S I J S1 I1 J1) (hL : Lays S1 g L) (k : Nat) (h' : Mkd (z_sz S1 + 1) c' l' (z_new S1 kd 0 m) (z_ur I1 (z_sz S1 + 1) (fun _ => 0)) (z_ur J1 (z_sz S1 + 1) (fun _ => 0)) S3 I3 J3) (hc : L.all (fun q => q.1 != k && Nat.ble q.2.1 c) = true) : ∃ S4, z_setR S3 g k (z_sz S1 + 1) = S4 ∧ Mkd g (c + 1 + c') (l + m + l') S I J S4 I3 J3 ∧ Lays S4 g L ∧ Nx g (g + c) S1 I1 J1 S4 I3 J3 ∧ (∀ j, j ≠ k → z_rv S4 g j = z_rv S1 g j) ∧ z_rv S4 g k = g + (c + 1) ∧ Blk (g + 1) (g + (c + 1 + c')) S3 S4 ∧ z_kd S3 g = z_kd S g ∧ z_kd S4 (z_sz S1 + 1) = kd := by
  have hz := h.1
  obtain ⟨b1, b2, b3, b4, b5⟩ := h'
  obtain ⟨S4, e1, a1, a2, a3, a4, a5, a6, a7⟩ := z_setF S3 g k (z_sz S1 + 1)
  have b2 : z_ce S3 = z_ce S1 + 1 + c' := b2
  have b3 : z_sl S3 = z_sl S1 + m + l' := b3
  have hx : Nx g (g + c) S1 I1 J1 S4 I3 J3 := fun y hy => by
    obtain ⟨x1, x2, x3⟩ := b4 y (by omega)
    obtain ⟨x4, x5⟩ := b5 y (by omega)
    refine ⟨by rw [(a4 y).1, x1, z_kd_nev (by omega)], by rw [(a4 y).2, x2, z_ln_nev (by omega)], fun hne => ?_, by rw [x5, z_ur_row (by omega)], by rw [x3, z_ur_row (by omega)]⟩
    rw [a7 y hne, x4]
    funext j; exact z_rv_nev (by omega)
  have r6 : ∀ j, j ≠ k → z_rv S4 g j = z_rv S1 g j := fun j hj => by
    rw [a6 j hj, (b5 g (by omega)).1, z_rv_nev (by omega)]
  refine ⟨S4, e1, h.nx hx (by omega) (by have := h.2.1; omega) (by have := h.2.2.1; omega), hL.nx hx r6 hc, hx, r6, by rw [a5, hz]; omega, fun y y1 y2 => ⟨(a4 y).1, (a4 y).2, a7 y (by omega)⟩, ?_, ?_⟩
  · rw [(b4 g (by omega)).1, z_kd_nev (by omega)]; exact h.ki
  · rw [(a4 _).1, (b4 _ (Nat.le_refl _)).1, z_kd_new]
theorem Blk.ar {x a ln : Nat} (h : Blk p q S S') (hA : Ar S x k a kd ln) (h1 : p ≤ x) (h2 : x ≤ q) (h3 : p ≤ a) (h4 : a ≤ q) : Ar S' x k a kd ln := by
  obtain ⟨a1, a2, a3⟩ := hA
  exact ⟨by rw [(h x h1 h2).2.2]; exact a1, by rw [(h a h3 h4).1]; exact a2, by rw [(h a h3 h4).2.1]; exact a3⟩
theorem Nx.blk (h : Nx g q S I J S' I' J') (hp : g < p) : Blk p q S S' := fun y y1 y2 => ⟨(h y y2).1, (h y y2).2.1, (h y y2).2.2.1 (by omega)⟩
theorem Blk.trans (h : Blk p q S S1) (h' : Blk p q S1 S2) : Blk p q S S2 := fun y y1 y2 => ⟨by rw [(h' y y1 y2).1, (h y y1 y2).1], by rw [(h' y y1 y2).2.1, (h y y1 y2).2.1], by rw [(h' y y1 y2).2.2, (h y y1 y2).2.2]⟩
theorem Blk.sub {p' q' : Nat} (h : Blk p q S S') (h1 : p ≤ p') (h2 : q' ≤ q) : Blk p' q' S S' := fun y y1 y2 => h y (by omega) (by omega)
theorem KL.bk {w : Nat} (h : KL S w) (hb : Blk p q S S') (h1 : p ≤ w) (h2 : w + 7 ≤ q) : KL S' w := by
  obtain ⟨a0, a1, a2, a3, a4, a5, a6, a7⟩ := h
  exact ⟨by rw [(hb w h1 (by omega)).1]; exact a0, hb.ar a1 h1 (by omega) (by omega) (by omega), hb.ar a2 h1 (by omega) (by omega) (by omega), hb.ar a3 h1 (by omega) (by omega) (by omega), hb.ar a4 h1 (by omega) (by omega) (by omega), hb.ar a5 h1 (by omega) (by omega) (by omega), hb.ar a6 h1 (by omega) (by omega) (by omega), hb.ar a7 h1 (by omega) (by omega) (by omega)⟩
theorem k_colour (hd : 0 < d) (hg : 0 < g) (hz : z_sz S = g) (hk : z_kd S g = 1) : ∃ S' I' J', z_ev d i_X0_init [.ref g] S I J none S' I' J' ∧ Mkd g 7 900 S I J S' I' J' ∧ KL S' g := by
  obtain ⟨d, rfl⟩ := z_dep hd
  have m0 : Mkd g 0 0 S I J S I J := Mkd.refl hz
  have l0 : Lays S g [] := trivial
  obtain ⟨S1, I1, e1, f1, m1, l1, _⟩ := m0.arr l0 100 2 20 20 rfl rfl
  obtain ⟨S2, I2, e2, f2, m2, l2, _⟩ := m1.arr l1 100 3 20 20 rfl rfl
  obtain ⟨S3, I3, e3, f3, m3, l3, _⟩ := m2.arr l2 100 4 20 20 rfl rfl
  obtain ⟨S4, I4, e4, f4, m4, l4, _⟩ := m3.arr l3 100 5 20 20 rfl rfl
  obtain ⟨S5, I5, e5, f5, m5, l5, _⟩ := m4.arr l4 100 6 400 400 rfl rfl
  obtain ⟨S6, I6, e6, f6, m6, l6, _⟩ := m5.arr l5 100 7 400 400 rfl rfl
  obtain ⟨S7, I7, e7, f7, m7, l7, _⟩ := m6.arr l6 100 8 20 20 rfl rfl
  have k7 : z_kd S7 g = 1 := by rw [m7.ki]; exact hk
  refine ⟨S7, _, J, e_X0_init (b_X0_init_0 (by omega) (by decide) (by rw [m0.nk]; exact hk) ?_), (m7.int 0 0).int 1 0, k7, l7.2.2.2.2.2.2.1, l7.2.2.2.2.2.1, l7.2.2.2.2.1, l7.2.2.2.1, l7.2.2.1, l7.2.1, l7.1⟩
  rw [e1, f1]
  refine b_X0_init_12 (by decide) (by rw [m1.nk]; exact hk) ?_
  rw [e2, f2]
  refine b_X0_init_20 (by decide) (by rw [m2.nk]; exact hk) ?_
  rw [e3, f3]
  refine b_X0_init_28 (by decide) (by rw [m3.nk]; exact hk) ?_
  rw [e4, f4]
  refine b_X0_init_36 (by decide) (by rw [m4.nk]; exact hk) ?_
  rw [e5, f5]
  refine b_X0_init_45 (by decide) (by rw [m5.nk]; exact hk) ?_
  rw [e6, f6]
  refine b_X0_init_54 (by decide) (by rw [m6.nk]; exact hk) ?_
  rw [e7, f7]
  exact b_X0_init_62 k7 (b_X0_init_67 k7 (b_X0_init_72 ⟨rfl, rfl, rfl, rfl⟩))
end KIn

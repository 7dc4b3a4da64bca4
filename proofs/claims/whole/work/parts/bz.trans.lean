/-! CONSTRUCTORS: how what is built stays while more is built -/
section KI4
variable {d a g c c' l l' k kd m p q w : Nat} {x : Slt} {S S' S1 S2 S3 : zS} {I I' I1 I2 I3 : zI} {J J' J1 J2 J3 : zJ} {L : List (Nat × Nat × Nat × Nat)}
theorem GC.bk (h : GC S I a (a + 10) x) (hb : Blk (a + 10) (a + 18) S S') (hI : ∀ y, a + 10 ≤ y → y ≤ a + 18 → I' y = I y) (hr : ∀ k, 1 ≤ k → k ≤ 7 → a + 10 ≤ z_rv S (a + 10) k ∧ z_rv S (a + 10) k ≤ a + 18) (h6 : z_rv S (a + 10) 6 = a + 12) (h60 : z_rv S (a + 12) 0 = a + 13) (h10 : z_rv S (a + 10) 10 = 0) (hki : x.nm.ki = false) : GC S' I' a (a + 10) x := by
  obtain ⟨⟨c1, c2, c3, c4, c5, c6, c7, c8⟩, ⟨n1, n2, n3, n4, n5, n6⟩, ⟨t1, t2, _, t4⟩, s9, s10⟩ := h
  have eg : z_rv S' (a + 10) = z_rv S (a + 10) := (hb _ (by omega) (by omega)).2.2
  have ig : I' (a + 10) = I (a + 10) := hI _ (by omega) (by omega)
  have K : ∀ k, 1 ≤ k → k ≤ 7 → z_kd S' (z_rv S (a + 10) k) = z_kd S (z_rv S (a + 10) k) ∧ z_ln S' (z_rv S (a + 10) k) = z_ln S (z_rv S (a + 10) k) ∧ I' (z_rv S (a + 10) k) = I (z_rv S (a + 10) k) := fun k k1 k2 => ⟨(hb _ (hr k k1 k2).1 (hr k k1 k2).2).1, (hb _ (hr k k1 k2).1 (hr k k1 k2).2).2.1, hI _ (hr k k1 k2).1 (hr k k1 k2).2⟩
  have R : ∀ k f, 1 ≤ k → k ≤ 7 → CR S I (a + 10) k x.n f → CR S' I' (a + 10) k x.n f := fun k f k1 k2 hc => by
    obtain ⟨z1, z2, z3⟩ := hc
    obtain ⟨y1, y2, y3⟩ := K k k1 k2
    refine ⟨by rw [eg, y1]; exact z1, by rw [eg, y2]; exact z2, fun u hu => ?_⟩
    rw [eg, y3]; exact z3 u hu
  have r12 : z_rv S' (a + 12) = z_rv S (a + 12) := (hb _ (by omega) (by omega)).2.2
  have i12 : I' (a + 12) = I (a + 12) := hI _ (by omega) (by omega)
  refine ⟨⟨⟨?_, ?_, c1.2.2.1, ?_, ?_, ?_⟩, R 2 _ (by decide) (by decide) c2, R 3 _ (by decide) (by decide) c3, R 4 _ (by decide) (by decide) c4, R 5 _ (by decide) (by decide) c5, c6, c7, fun k k1 k2 => by rw [eg]; exact c8 k k1 k2⟩, ⟨n1, ?_, ⟨?_, ?_, ?_, ?_⟩, by rw [ig]; exact n4, fun e => absurd e (by rw [hki]; decide), fun e => ?_⟩, ⟨by rw [eg]; exact t1, by rw [eg]; exact t2, fun e => absurd e (by rw [hki]; decide), fun e => ?_⟩, by rw [ig]; exact s9, Or.inl (by rw [eg]; exact h10)⟩
  · rw [(hb _ (by omega) (by omega)).1]; exact c1.1
  · rw [ig]; exact c1.2.1
  · rw [eg, (K 1 (by decide) (by decide)).1]; exact c1.2.2.2.1
  · rw [eg, (K 1 (by decide) (by decide)).2.1]; exact c1.2.2.2.2.1
  · rw [eg, (K 1 (by decide) (by decide)).2.2]; exact c1.2.2.2.2.2
  · rw [eg, (K 6 (by decide) (by decide)).1]; exact n2
  · rw [eg, (K 7 (by decide) (by decide)).1]; exact n3.1
  · rw [eg, (K 7 (by decide) (by decide)).2.1]; exact n3.2.1
  · rw [eg, (K 7 (by decide) (by decide)).2.1]; exact n3.2.2.1
  · rw [eg, (K 7 (by decide) (by decide)).2.2]; exact n3.2.2.2
  · have n7 := n6 e
    rw [h6, h60] at n7
    rw [eg, h6, r12, h60, (hb (a + 13) (by omega) (by omega)).1, (hb (a + 13) (by omega) (by omega)).2.1, hI (a + 13) (by omega) (by omega)]
    exact n7
  · rw [eg, h6, r12, h60]; exact Or.inl (Or.inl ⟨by omega, by omega⟩)
theorem Nx.bl {q' : Nat} (h : Nx w q S I J S' I' J') (hq : q' ≤ q) (hw : w < p ∨ q' < w) : Blk p q' S S' := fun y y1 y2 => ⟨(h y (by omega)).1, (h y (by omega)).2.1, (h y (by omega)).2.2.1 (by omega)⟩
theorem Mkd.nxw (h : Mkd g c l S I J S1 I1 J1) (hw : g ≤ w) (hn : Nx w (g + c) S1 I1 J1 S2 I' J') (h1 : z_sz S2 = g + c') (h2 : z_ce S2 = z_ce S + c') (h3 : z_sl S2 = z_sl S + l') : Mkd g c' l' S I J S2 I' J' := by
  refine ⟨h1, h2, h3, fun y hy => ?_, fun y hy => ?_⟩
  · obtain ⟨a1, a2, a3⟩ := h.2.2.2.1 y hy
    obtain ⟨b1, b2, _, _, b3⟩ := hn y (by omega)
    exact ⟨by rw [b1, a1], by rw [b2, a2], by rw [b3, a3]⟩
  · obtain ⟨a1, a2⟩ := h.2.2.2.2 y hy
    obtain ⟨_, _, b1, b2, _⟩ := hn y (by omega)
    exact ⟨by rw [b1 (by omega), a1], by rw [b2, a2]⟩
theorem Lays.nxw : ∀ {L : List (Nat × Nat × Nat × Nat)}, Lays S g L → w ≠ g → Nx w (g + c) S I J S' I' J' → L.all (fun q => Nat.ble q.2.1 c) = true → Lays S' g L
  | [], _, _, _, _ => trivial
  | q :: L, h, hw, hn, hc => by
    rw [List.all_cons, Bool.and_eq_true] at hc
    have c2 := Nat.le_of_ble_eq_true hc.1
    obtain ⟨a1, a2, a3⟩ := h.1
    obtain ⟨b1, b2, _⟩ := hn (g + q.2.1) (by omega)
    exact ⟨⟨by rw [(hn g (by omega)).2.2.1 (fun e => hw e.symm)]; exact a1, by rw [b1]; exact a2, by rw [b2]; exact a3⟩, Lays.nxw h.2 hw hn hc.2⟩
theorem Old.nx (h : Old S I J S' I' J') (hq : q ≤ z_sz S) : Nx w q S I J S' I' J' := fun y hy => by
  obtain ⟨⟨⟨a1, a2⟩, a3⟩, a4, a5⟩ := h.2 y (by omega)
  exact ⟨a1, a2, fun _ => a3, a4, a5⟩
/-- an object more, that no field of g leads to -/
theorem Mkd.app (h : Mkd g c l S I J S1 I1 J1) (h' : Mkd (z_sz S1 + 1) c' l' (z_new S1 kd 0 m) (z_ur I1 (z_sz S1 + 1) (fun _ => 0)) (z_ur J1 (z_sz S1 + 1) (fun _ => 0)) S3 I3 J3) : Mkd g (c + 1 + c') (l + m + l') S I J S3 I3 J3 ∧ Nx (z_sz S1 + 1) (g + c) S1 I1 J1 S3 I3 J3 ∧ z_kd S3 (z_sz S1 + 1) = kd ∧ J3 (z_sz S1 + 1) = fun _ => 0 := by
  have hz := h.1
  obtain ⟨b1, b2, b3, b4, b5⟩ := h'
  have b2 : z_ce S3 = z_ce S1 + 1 + c' := b2
  have b3 : z_sl S3 = z_sl S1 + m + l' := b3
  have hx : Nx (z_sz S1 + 1) (g + c) S1 I1 J1 S3 I3 J3 := fun y hy => by
    obtain ⟨x1, x2, x3⟩ := b4 y (by omega)
    obtain ⟨x4, x5⟩ := b5 y (by omega)
    refine ⟨by rw [x1, z_kd_nev (by omega)], by rw [x2, z_ln_nev (by omega)], fun hne => ?_, by rw [x5, z_ur_row (by omega)], by rw [x3, z_ur_row (by omega)]⟩
    rw [x4]
    funext j; exact z_rv_nev (by omega)
  refine ⟨h.nxw (by omega) hx (by omega) (by have := h.2.1; omega) (by have := h.2.2.1; omega), hx, ?_, ?_⟩
  · rw [(b4 _ (Nat.le_refl _)).1, z_kd_new]
  · rw [(b4 _ (Nat.le_refl _)).2.2]; funext j; exact z_ur_same
/-- an object more, told by the list -/
theorem Mkd.subl (h : Mkd g c l S I J S1 I1 J1) (hL : Lays S1 g L) (k : Nat) (h' : Mkd (z_sz S1 + 1) c' l' (z_new S1 kd 0 m) (z_ur I1 (z_sz S1 + 1) (fun _ => 0)) (z_ur J1 (z_sz S1 + 1) (fun _ => 0)) S3 I3 J3) (hc : L.all (fun q => q.1 != k && Nat.ble q.2.1 c) = true) : ∃ S4, z_setR S3 g k (z_sz S1 + 1) = S4 ∧ Mkd g (c + 1 + c') (l + m + l') S I J S4 I3 J3 ∧ Lays S4 g ((k, c + 1, kd, 0) :: L) ∧ Nx g (g + c) S1 I1 J1 S4 I3 J3 ∧ Blk (g + 1) (g + (c + 1 + c')) S3 S4 ∧ z_kd S3 g = z_kd S g := by
  obtain ⟨S4, e1, e2, e3, e4, e5, e6, e7, e8, e9⟩ := h.sub hL k h' hc
  have hz := h.1
  refine ⟨S4, e1, e2, ⟨⟨e6, ?_, ?_⟩, e3⟩, e4, e7, e8⟩
  · show z_kd S4 (g + (c + 1)) = kd
    rw [show g + (c + 1) = z_sz S1 + 1 by omega]; exact e9
  · show z_ln S4 (g + (c + 1)) = 0
    rw [(e7 _ (by omega) (by omega)).2.1, show g + (c + 1) = z_sz S1 + 1 by omega, (h'.2.2.2.1 _ (Nat.le_refl _)).2.1, z_ln_new]
/-- a field of a later cell w is set -/
theorem Mkd.setw (h : Mkd g c l S I J S1 I1 J1) (hL : Lays S1 g L) (w k v : Nat) (hw : g < w) (hc : L.all (fun q => Nat.ble q.2.1 c) = true) : ∃ S2, z_setR S1 w k v = S2 ∧ Mkd g c l S I J S2 I1 J1 ∧ Lays S2 g L ∧ Nx w (g + c) S1 I1 J1 S2 I1 J1 ∧ (∀ j, j ≠ k → z_rv S2 w j = z_rv S1 w j) ∧ z_rv S2 w k = v := by
  obtain ⟨S2, e1, a1, a2, a3, a4, a5, a6, a7⟩ := z_setF S1 w k v
  have hx : Nx w (g + c) S1 I1 J1 S2 I1 J1 := fun y hy => ⟨(a4 y).1, (a4 y).2, fun hne => a7 y hne, rfl, rfl⟩
  exact ⟨S2, e1, h.nxw (by omega) hx (by rw [a1]; exact h.1) (by rw [a2]; exact h.2.1) (by rw [a3]; exact h.2.2.1), hL.nxw (by omega) hx hc, hx, a6, a5⟩
end KI4

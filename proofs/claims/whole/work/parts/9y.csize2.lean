/-! THE CLASS: size, subgroup -/
section C39
variable {d a w s : Nat} {A : Wst} {S : zS} {I : zI} {J : zJ}
theorem c_size (x1 x2 : Int32) (hd : 8 < d) (h : CW S I J a A) (hf : SF S) (hz : a + 88 ≤ z_sz S) : ∃ S' I', z_ev d i_X11_size [.ref a, .int x1, .int x2] S I J (some (.int (aSize (fun s => (A.sl s).n) (fun s => (A.sl s).t) (fun s => (A.sl s).iv) (fun s => (A.sl s).st) x1 x2))) S' I' J ∧ CW S' I' J a A ∧ FR a S I J S' I' J ∧ Cst 1 80 S S' := by
  obtain ⟨d, rfl⟩ := z_dep (d := d) (by omega)
  rcases Classical.em (El 2 x1) with c | c
  · have e : aSize (fun s => (A.sl s).n) (fun s => (A.sl s).t) (fun s => (A.sl s).iv) (fun s => (A.sl s).st) x1 x2 = _ := zq_t c
    have cc := c
    obtain ⟨s, hs, rfl⟩ := c
    rw [ix_nI (by omega)] at e
    rw [e]
    obtain ⟨w, g1, g2, g3, g4, _, g6⟩ := h.net hs
    obtain ⟨t1, t2, t3⟩ := h.st hs
    rw [← g2] at t1
    have hg := g4.2.2.2.2.2.1
    have hn := hg.le
    have gd := g4.2.2.2.2.2.2.1
    have head : ∀ (S' : zS) (I' : zI), Go d i_X11_size (if x2 = 0 then 64 else if x2 = 1 then 69 else if x2 = 2 then 82 else if x2 = 3 then 87 else if x2 = 4 then 92 else if x2 = 5 then 97 else if x2 = 6 then 105 else 110) [.ref a, .int (nI s), .int x2, .ref (z_rv S w 0)] [] S I J (z_eq (some (.int (szv (A.sl s).n (A.sl s).t (A.sl s).iv (A.sl s).st x2))) S' I' J) → z_ev (d + 1) i_X11_size [.ref a, .int (nI s), .int x2] S I J (some (.int (szv (A.sl s).n (A.sl s).t (A.sl s).iv (A.sl s).st x2))) S' I' J := fun S' I' hgo => by
      refine e_X11_size (b_X11_size_0 ⟨_, _, _, _, c_isSlot (nI s) (by omega), b_X11_size_4 (fun _ => b_X11_size_10 h.k g6 (by rw [g1]; exact g3) (by rw [g1]; unfold Dyn at gd; omega) ?_) (fun z => absurd cc (zb_0.mp z))⟩)
      rw [g1]
      exact hgo
    by_cases e4 : x2 = 4
    · obtain ⟨S1, I1, p1, p2, p3, p4, p5, _⟩ := CW.subs (d := d) (by omega) h hf hz hs g2
      refine ⟨S1, I1, head S1 I1 ?_, p2, p3, p4⟩
      rw [e4, if_neg (by decide), if_neg (by decide), if_neg (by decide), if_neg (by decide), if_pos rfl]
      refine b_X11_size_92 g4.1.1 ⟨_, _, _, _, p1, b_X11_size_96 ⟨z_someI ?_, rfl, rfl, rfl⟩⟩
      unfold szv
      rw [if_neg (by decide), if_neg (by decide), if_neg (by decide), if_neg (by decide), if_pos rfl]
    · refine ⟨S, I, head S I ?_, h, FR.refl, Cst.refl⟩
      unfold szv
      by_cases e0 : x2 = 0
      · rw [if_pos e0, if_pos e0]
        exact b_X11_size_64 g4.1.1 ⟨z_someI g4.1.2.1, rfl, rfl, rfl⟩
      rw [if_neg e0, if_neg e0]
      by_cases e1 : x2 = 1
      · rw [if_pos e1, if_pos e1]
        refine b_X11_size_69 h.k g6 (by rw [g1]; exact g3) ?_
        rw [g1, t1]
        refine ⟨_, _, _, _, ev_bitCount (by omega) (z_lt24 hn t2), b_X11_size_81 ⟨z_someI ?_, rfl, rfl, rfl⟩⟩
        rw [zc24 hn t2]
      rw [if_neg e1, if_neg e1]
      by_cases e2 : x2 = 2
      · rw [if_pos e2, if_pos e2]
        exact b_X11_size_82 g4.1.1 ⟨_, _, _, _, c_centreOrder (by omega) g4.1 hg g4.2.2.2.1, b_X11_size_86 ⟨rfl, rfl, rfl, rfl⟩⟩
      rw [if_neg e2, if_neg e2]
      by_cases e3 : x2 = 3
      · rw [if_pos e3, if_pos e3]
        exact b_X11_size_87 g4.1.1 ⟨_, _, _, _, c_countClasses (by omega) g4.1 hg g4.2.2.2.1, b_X11_size_91 ⟨rfl, rfl, rfl, rfl⟩⟩
      rw [if_neg e3, if_neg e3, if_neg e4, if_neg e4]
      by_cases e5 : x2 = 5
      · rw [if_pos e5, if_pos e5]
        have hgl := gen_lt (A.sl s).n (A.sl s).t (dset (A.sl s).n (A.sl s).t (A.sl s).iv)
        refine b_X11_size_97 g4.1.1 ⟨_, _, _, _, c_derived (by omega) g4.1 hg g4.2.1, b_X11_size_101 ⟨_, _, _, _, ev_bitCount (by omega) (z_lt24 hn hgl), b_X11_size_104 ⟨z_someI ?_, rfl, rfl, rfl⟩⟩⟩
        rw [zc24 hn hgl]
      rw [if_neg e5, if_neg e5]
      by_cases e6 : x2 = 6
      · rw [if_pos e6, if_pos e6]
        exact b_X11_size_105 g4.1.1 ⟨_, _, _, _, c_exponent (by omega) g4.1 hg g4.2.2.1, b_X11_size_109 ⟨rfl, rfl, rfl, rfl⟩⟩
      rw [if_neg e6, if_neg e6]
      exact b_X11_size_110 ⟨rfl, rfl, rfl, rfl⟩
  · exact ⟨S, I, e_X11_size (b_X11_size_0 ⟨_, _, _, _, c_isSlot x1 (by omega), b_X11_size_4 (fun z => absurd (zb_1.mp z) c) (fun _ => b_X11_size_7 ⟨z_someI (zq_f c).symm, rfl, rfl, rfl⟩)⟩), h, FR.refl, Cst.refl⟩
theorem c_subgroup (x1 x2 : Int32) (hd : 8 < d) (h : CW S I J a A) (hf : SF S) (hz : a + 88 ≤ z_sz S) : ∃ S' I', z_ev d i_X11_subgroup [.ref a, .int x1, .int x2] S I J (some (.int (aSubgroup (fun s => (A.sl s).n) (fun s => (A.sl s).t) x1 x2))) S' I' J ∧ CW S' I' J a A ∧ FR a S I J S' I' J ∧ Cst 1 80 S S' := by
  obtain ⟨d, rfl⟩ := z_dep (d := d) (by omega)
  rcases Classical.em (El 2 x1) with c | c
  · have e : aSubgroup (fun s => (A.sl s).n) (fun s => (A.sl s).t) x1 x2 = _ := zq_t c
    have cc := c
    obtain ⟨s, hs, rfl⟩ := c
    rw [ix_nI (by omega)] at e
    rw [e]
    obtain ⟨w, g1, g2, g3, g4, _, g6⟩ := h.net hs
    have hg := g4.2.2.2.2.2.1
    have hn := hg.le
    by_cases c2 : 0 ≤ x2
    · have c4 : ¬ x2 < 0 := fun q => (i32_nle.mpr q) c2
      rw [zq_f c4]
      obtain ⟨k, hk, rfl⟩ := nI_of (x := x2) c4
      obtain ⟨d, rfl⟩ := z_dep (d := d) (by omega)
      obtain ⟨S1, I1, p1, p2, p3, p4, p5, p6⟩ := CW.subs (d := d) (by omega) h hf hz hs g2
      have hns := nsub_subL hg
      have hsl := subL_le (A.sl s).n
      have h2 : z_ev (d + 1) i_X1_subgroupAt [.ref (z_rv S w 0), .int (nI k)] S I J (some (.int (zq (El (nsub (A.sl s).n (A.sl s).t) (nI k)) (nI (kth (SG (A.sl s).n (A.sl s).t) (ix (nI k)))) (-1)))) S1 I1 J := by
        refine e_X1_subgroupAt (b_X1_subgroupAt_0 g4.1.1 ⟨_, _, _, _, p1, b_X1_subgroupAt_5 (fun z => b_X1_subgroupAt_26 ⟨z_someI ?_, rfl, rfl, rfl⟩) (fun z => ?_)⟩)
        · rw [nI_leI (by omega) hk] at z
          refine (zq_f (fun q => ?_)).symm
          obtain ⟨j, hj, ej⟩ := q
          rw [nI_eq hk (by omega)] at ej
          omega
        · rw [nI_leI (by omega) hk] at z
          refine b_X1_subgroupAt_8 p6 (by rw [p5.1]; rfl) (fun z2 => ?_) (fun _ => b_X1_subgroupAt_17 p6 (by rw [p5.1, p5.2.1]; exact ⟨rfl, vp_in_nI (by omega) (by omega)⟩) ⟨z_someI ?_, rfl, rfl, rfl⟩)
          · rw [p5.2.1, nI_leI (by omega) hk] at z2
            omega
          · rw [nI_clamp hk, p5.2.2.2 k (by omega), zq_t ⟨k, by omega, rfl⟩, ix_nI hk]
      refine ⟨S1, I1, e_X11_subgroup (b_X11_subgroup_0 ⟨_, _, _, _, c_isSlot (nI s) (by omega), b_X11_subgroup_4 (fun _ => b_X11_subgroup_10 (fun _ => b_X11_subgroup_17 h.k g6 (by rw [g1]; exact g3) (by rw [g1]; exact g4.1.1) ?_) (fun z => absurd c2 z)) (fun z => absurd cc (zb_0.mp z))⟩), p2, p3, p4⟩
      rw [g1]
      exact ⟨_, _, _, _, h2, b_X11_subgroup_30 ⟨rfl, rfl, rfl, rfl⟩⟩
    · rw [zq_t (i32_nle.mp c2)]
      exact ⟨S, I, e_X11_subgroup (b_X11_subgroup_0 ⟨_, _, _, _, c_isSlot (nI s) (by omega), b_X11_subgroup_4 (fun _ => b_X11_subgroup_10 (fun z => absurd z c2) (fun _ => b_X11_subgroup_14 ⟨rfl, rfl, rfl, rfl⟩)) (fun z => absurd cc (zb_0.mp z))⟩), h, FR.refl, Cst.refl⟩
  · exact ⟨S, I, e_X11_subgroup (b_X11_subgroup_0 ⟨_, _, _, _, c_isSlot x1 (by omega), b_X11_subgroup_4 (fun z => absurd (zb_1.mp z) c) (fun _ => b_X11_subgroup_7 ⟨z_someI (zq_f c).symm, rfl, rfl, rfl⟩)⟩), h, FR.refl, Cst.refl⟩
end C39

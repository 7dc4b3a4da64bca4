/-! THE CLASS: a line is read, the call -/
section CL3
variable {d a n q : Nat} {B : Nat → Int32} {X : Slt} {γ : Nat → Slt} {laid : Bool} {S S1 : zS} {I I1 : zI} {J J1 : zJ}
theorem Old.shx (h : Old S I J S1 I1 J1) : SH a S S1 := ⟨h.1, fun y hy => (h.2 y hy).1.1, fun y k hy _ => by rw [(h.2 y hy).1.2]⟩
theorem SH.set2 {v : Nat} : SH a S (z_setR S (a + 2) 2 v) := ⟨Nat.le_refl _, fun _ _ => ⟨rfl, rfl⟩, fun y j _ hl => by
  by_cases e : y = a + 2
  · rw [setR_nk (fun e2 => hl (by unfold Lse; omega))]
  · rw [setR_ne e]⟩
theorem stepsP_bd {ord : Nat} : ∀ f told q c, q ≤ n → told < 2 ^ ord → told.testBit 0 = false → stepsP B n ord f told q = .inr c → c.1 < 2 ^ ord ∧ c.1.testBit 0 = false := by
  intro f
  induction f with
  | zero => intro told q c _ _ _ h; cases h
  | succ f ih =>
    intro told q c hq h1 h2 h
    rcases e : numP B n 1 (ord - 1) q with c0 | c0
    · rw [stepsP_l e] at h; cases h
    · rw [stepsP_r e] at h
      obtain ⟨o1, o2, _, _, o5, _, _⟩ := numP_ok e hq
      have b1 : told ||| 2 ^ c0.1 < 2 ^ ord := z_or_lt h1 (Nat.pow_lt_pow_right (by decide) (by omega))
      have b2 : (told ||| 2 ^ c0.1).testBit 0 = false := by
        rw [Nat.testBit_or, h2, Bool.false_or]
        cases q0 : (2 ^ c0.1).testBit 0 with
        | false => rfl
        | true => rw [b_pow] at q0; omega
      rcases Classical.em (c0.2 < n ∧ Dgt (B c0.2)) with y | y
      · rw [zq_t y] at h
        exact ih _ _ _ o5 b1 b2 h
      · rw [zq_f y] at h
        have h := Sum.inr.inj h
        rw [← h]; exact ⟨b1, b2⟩
theorem c_readLine (hd : 11 < d) (h : RDS S I a γ laid X B n q) (hf : SF S) (hz : a + 88 ≤ z_sz S) (hs : STS S I) (hE : EO S I) (hE0 : z_rv S 0 20 ≤ z_sz S) : ∃ S' I' J' v γ', z_ev d i_X10_readLine [.ref (a + 2)] S I J (some (.int v)) S' I' J' ∧ TRn S I J γ S' I' J' γ' a ∧ Cst (if laid then 0 else 9) (if laid then 0 else 700) S S' ∧ (∀ c, lineP B n laid X q = .inl c → v = 0 ∧ I' (a + 2) 0 = nI c.1 ∧ I' (a + 2) 1 = nI c.2) ∧ ∀ c, lineP B n laid X q = .inr c → v = 1 ∧ RDS S' I' a γ' true c.1 B n c.2 := by
  obtain ⟨d, rfl⟩ := z_dep (d := d) (by omega)
  obtain ⟨hR, h4, h3, ⟨hG, hXe, hGC⟩, hok, h0, h1⟩ := h
  have hL' := hR.1
  obtain ⟨l1, l2, l3, l4, l5⟩ := hR.1
  have kl : z_kd S (z_rv S (a + 2) 5) = 6 := by rw [l2]; exact l5.1
  have kb : z_kd S (z_rv S (a + 2) 6) = 3 := by rw [l3]; exact l4.1
  have hn := hR.2.1.2.2.1.2
  have hql := hR.2.2.1.1
  obtain ⟨g, hg⟩ : ∃ g, g = z_rv S (a + 2) 2 := ⟨_, rfl⟩
  rw [← hg] at hG hXe hGC
  have gd := hG.1.out
  have en : (γ g).n = X.n := by rw [hXe]; rfl
  have et : (γ g).t = X.t := by rw [hXe]; rfl
  have ei : (γ g).iv = X.iv := by rw [hXe]; rfl
  have hgo := hGC.1
  rw [en, et, ei] at hgo
  have hn20 := hok.1.le
  have hn0 := hok.1.pos
  obtain ⟨Q, hQ⟩ : ∃ Q : zQ, Q = fun w S' I' J' => ∃ γ', TRn S I J γ S' I' J' γ' a ∧ Cst (if laid then 0 else 9) (if laid then 0 else 700) S S' ∧ (∀ c, lineP B n laid X q = .inl c → w = some (.int 0) ∧ I' (a + 2) 0 = nI c.1 ∧ I' (a + 2) 1 = nI c.2) ∧ (∀ c, lineP B n laid X q = .inr c → w = some (.int 1) ∧ RDS S' I' a γ' true c.1 B n c.2) ∧ ∃ v, w = some (.int v) := ⟨_, rfl⟩
  suffices hw : z_wp (d + 1) i_X10_readLine [.ref (a + 2)] S I J Q by
    rw [hQ] at hw
    obtain ⟨w, S', I', J', x1, γ', x2, x3, x4, x5, v, rfl⟩ := hw
    refine ⟨S', I', J', v, γ', x1, x2, x3, fun c hc => ?_, fun c hc => ?_⟩
    · obtain ⟨y1, y2⟩ := x4 c hc
      exact ⟨by injection y1 with y1; injection y1, y2⟩
    · obtain ⟨y1, y2⟩ := x5 c hc
      exact ⟨by injection y1 with y1; injection y1, y2⟩
  -- a line of steps, or one that adds the ways back
  have same : ∀ (I2 : zI) (st q' : Nat), lineP B n laid X q = .inr (X.to st, q') → RFr I I2 a → (I2 (a + 2) 0 = 0 ∧ I2 (a + 2) 1 = -1 ∧ I2 (a + 2) 3 = nI st ∧ I2 (a + 2) 4 = 0) → RS S I2 a B n q' → st < 2 ^ X.n → st.testBit 0 = false → Q (some (.int 1)) S I2 J := fun I2 st q' el g1 ⟨f0, f1, f3, f4⟩ g3 o1 o2 => by
    rw [hQ]
    refine ⟨γ, TRn.same hf g1, Cst.refl, fun c0 hc => (by rw [el] at hc; cases hc), fun c0 hc => ?_, 1, rfl⟩
    rw [el] at hc
    have hc := Sum.inr.inj hc
    rw [← hc]
    refine ⟨rfl, g3, f4, f3, ⟨by rw [← hg]; exact hG, ?_, ?_⟩, ⟨hok.1, o1, o2, hok.2.2.2⟩, f0, f1⟩
    · rw [← hg]
      show X.to st = (γ g).to st
      rw [hXe]; rfl
    · rw [← hg]; exact hGC.rd hf hL' g1
  have badQ : ∀ (I2 : zI) (c pl : Nat), RFr I I2 a → lineP B n laid X q = .inl (c, pl) → I2 (a + 2) 0 = nI c → I2 (a + 2) 1 = nI pl → Q (some (.int 0)) S I2 J := fun I2 c pl g1 el f0 f1 => by
    rw [hQ]
    refine ⟨γ, TRn.same hf g1, Cst.refl, fun c0 hc => ?_, fun c0 hc => (by rw [el] at hc; cases hc), 0, rfl⟩
    rw [el] at hc
    have hc := Sum.inl.inj hc
    rw [← hc]; exact ⟨rfl, f0, f1⟩
  -- a group is built
  have bld : ∀ (I2 : zI) (X' : Slt) (q' rc len : Nat), laid = false → lineP B n laid X q = .inr (X', q') → RFr I I2 a → (I2 (a + 2) 0 = 0 ∧ I2 (a + 2) 1 = -1 ∧ I2 (a + 2) 4 = 0) → RS S I2 a B n q' → I2 (a + 3) 4 = nI X'.n → SlOk X' → X'.st = 0 → I2 (a + 3) 6 = nI rc → rc < 2 ^ 31 → (if rc = 0 then I2 (a + 3) 3 = nI len ∧ len ≤ 150 else len = X'.n) → (∀ S' I' J', Old S I2 J S' I' J' → ∀ x y, x < X'.n → y < X'.n → z_ev (d - 1) (if rc = 0 then i_X2_factorsProduct else i_X2_rowProduct) [.ref (a + 3), .int (nI x), .int (nI y)] S' I' J' (some (.int (nI (X'.t x y)))) S' I' J') → (X'.nm.pr = 0 ∧ (∀ y, X'.nm.og y = y)) → (X'.nm.ki = true → rc ≠ 0 ∧ X'.n ≤ len ∧ len < 2 ^ 31 ∧ ndg (I2 (a + 3) 7) rc = nI X'.nm.ln ∧ ∀ y, y < X'.n → I2 (nsr (a + 3) rc) y = nI (pck (X'.nm.ro y) X'.nm.ln)) → (X'.nm.ki = false → rc = 0 ∧ len = X'.nm.ln ∧ ∀ i, i < len → I2 (nsr (a + 3) rc) i = nI (X'.nm.sz i)) → ∀ x1 x2 x3 : Int32, Go d i_X10_readLine 148 [.ref (a + 2), .int x1, .int x2, .int x3] [] S I2 J Q := fun I2 X' q' rc len hlf el g1 ⟨f0, f1, f4⟩ g3 b4 hok' hst' b6 hrc hlen hprod hnm hkt hkf x1 x2 x3 => by
    obtain ⟨S3, I3, J3, r1, r2, r3, r4, r5, r6⟩ := c_build (d := d) (J := J) (by omega) l4 (by omega) b4 hok'.1 b6 hrc hlen hprod
    have hf3 := r1.mo.2.2 hf
    have hgc := r6.gc hz hok' ⟨rfl, rfl, rfl⟩ hnm hkt hkf
    have o2 := r2.2 (a + 2) (by omega)
    have k3 : z_kd S3 (a + 2) = 11 := by rw [o2.1.1.1]; exact l1
    have hlen150 : len ≤ 150 := by
      by_cases e : rc = 0
      · rw [if_pos e] at hlen; exact hlen.2
      · rw [if_neg e] at hlen
        have := hok'.1.le
        omega
    have hN20 := hok'.1.le
    have hNN : X'.n * X'.n ≤ 20 * 20 := Nat.mul_le_mul hN20 hN20
    refine b_X10_readLine_148 l1 kb ?_
    rw [l3]
    refine ⟨_, _, _, _, r1, b_X10_readLine_156 k3 k3 z_fit1 ?_⟩
    obtain ⟨S4, E4⟩ : ∃ S4, S4 = z_setR S3 (a + 2) 2 (z_sz S + 3) := ⟨_, rfl⟩
    obtain ⟨I4, F4⟩ : ∃ I4, I4 = z_u2 I3 (a + 2) 3 0 := ⟨_, rfl⟩
    rw [← E4, ← F4, hQ]
    have hf4 : SF S4 := by rw [E4]; exact hf3
    have s34 : SH a S3 S4 := by rw [E4]; exact SH.set2
    have sz4 : z_sz S4 = z_sz S + 9 := by rw [E4]; exact r3
    have hX4 : SH a S S4 := (Old.shx r2).trans s34
    have i4 : ∀ y, y ≠ a + 2 → I4 y = I3 y := fun y hy => by rw [F4, z_u2_row hy]
    have rv4 : ∀ y, y ≠ a + 2 → z_rv S4 y = z_rv S3 y := fun y hy => by rw [E4, setR_ne hy]
    have hL3 : RLay S3 a := hL'.sh (Old.shx r2) hf
    have hgc4 : GC S4 I4 a (z_sz S + 3) X' := hgc.st hf3 s34 (i4 _ (by omega)) (fun y _ k1 _ => i4 y (by have := k1.nr hL3; omega)) (by rw [rv4 _ (by omega)])
    have hIsG : IsG S4 a (z_sz S + 3) := ⟨by unfold Dyn; omega, by omega, by rw [E4]; exact r6.1.1.1⟩
    obtain ⟨γ', Eγ⟩ : ∃ γ' : Nat → Slt, γ' = fun y => if y = z_sz S + 3 then X' else γ y := ⟨_, rfl⟩
    have gn : γ' (z_sz S + 3) = X' := by rw [Eγ]; exact if_pos rfl
    have go' : ∀ y, y ≤ z_sz S → γ' y = γ y := fun y hy => by rw [Eγ]; exact if_neg (by omega)
    have rg : z_rv S4 (a + 2) 2 = z_sz S + 3 := by rw [E4, setR_at]
    have i42 : ∀ k, k ≠ 3 → I4 (a + 2) k = I2 (a + 2) k := fun k hk => by rw [F4, z_u2_nk hk, o2.2.1]
    refine ⟨γ', ⟨hf4, hX4, fun y hy => ⟨fun hne => by rw [rv4 y hne, (r2.2 y hy).1.2], fun ho => by rw [i4 y (by omega), (r2.2 y hy).2.1]; exact g1 y ho, (r2.2 y hy).2.2⟩, go', fun y hy hG4 => ?_⟩, ?_, fun c0 hc => (by rw [el] at hc; cases hc), fun c0 hc => ?_, 1, rfl⟩
    · have hG3 : IsG S3 a y := by
        refine ⟨hG4.1, by have := hG4.2.1; omega, ?_⟩
        have := hG4.2.2
        rw [E4] at this; exact this
      have ey := r6.one r3 hy hG3
      rw [ey, gn]; exact hgc4
    · rw [hlf]
      refine ⟨?_, ?_⟩
      · show z_ce S4 ≤ z_ce S + 9
        rw [E4]; show z_ce S3 ≤ _; omega
      · show z_sl S4 ≤ z_sl S + 700
        rw [E4]; show z_sl S3 ≤ _; omega
    · rw [el] at hc
      have hc := Sum.inr.inj hc
      rw [← hc]
      have hRS4 : RS S4 I4 a B n q' := by
        obtain ⟨_, ⟨y1, ⟨y2, y2b, y2c⟩, y3, y4⟩, y5⟩ := g3
        have e9 : I4 (a + 9) = I2 (a + 9) := by rw [i4 _ (by omega), (r2.2 _ (by omega)).2.1]
        have e1' : I4 (a + 1) = I2 (a + 1) := by rw [i4 _ (by omega), (r2.2 _ (by omega)).2.1]
        refine ⟨hL'.sh hX4 hf, ⟨(hL'.sh hX4 hf).2.2.2.2.1, (hL'.sh hX4 hf).2.2.2.2.2, by rw [e9]; exact y3, fun j hj => by rw [e1']; exact y4 j hj⟩, ?_⟩
        unfold LXq
        rw [e9]; exact y5
      refine ⟨rfl, hRS4, by rw [i42 4 (by decide)]; exact f4, ?_, ⟨by rw [rg]; exact hIsG, ?_, by rw [rg, gn]; exact hgc4⟩, hok', by rw [i42 0 (by decide)]; exact f0, by rw [i42 1 (by decide)]; exact f1⟩
      · show I4 (a + 2) 3 = nI X'.st
        rw [hst', F4, z_u2_same]; rfl
      · rw [rg, gn]; rfl
  -- no line can begin so
  have bad : ∀ x1 : Int32, lineP B n laid X q = .inl (1, q) → Go d i_X10_readLine 92 [.ref (a + 2), .int x1, .retAddr 0, .retAddr 0] [] S I J Q := fun x1 el => by
    refine b_X10_readLine_92 l1 kl l1 ⟨_, _, _, _, c_take0 (by omega) hR, b_X10_readLine_107 (fun z => absurd rfl z) (fun _ => b_X10_readLine_110 z_fit0 ?_)⟩
    exact badQ _ 1 q (fun y hy => by rw [z_u2_row (by omega), z_u2_row (by omega)]) el (by rw [z_u2_nk (by decide), z_u2_same]; rfl) z_u2_same
  -- a group is told
  have good : (pkw B n q = 0 ∨ pkw B n q = 1) → laid = false → Go d i_X10_readLine 88 [.ref (a + 2), .int (nI (zb (pkw B n q = 0))), .retAddr 0, .retAddr 0] [] S I J Q := fun hk hlf => by
    obtain ⟨I2, t1, t2, t3⟩ := c_take1 (d := d) (J := J) (by omega) hR
    have hb2 : n < n + 1 + pnx B n q := by omega
    refine b_X10_readLine_88 l1 kl l1 ⟨_, _, _, _, t1, b_X10_readLine_107 (fun _ => b_X10_readLine_112 ⟨l1, Or.inl rfl⟩ l1 kb ?_) (fun z => by cases z)⟩
    rw [l2, hR.2.2.2.1, l3]
    obtain ⟨I3, E3⟩ : ∃ I3, I3 = z_u2 I2 (a + 2) 4 0 := ⟨_, rfl⟩
    obtain ⟨I4, E4⟩ : ∃ I4, I4 = z_u2 (z_u2 (z_u2 (z_u2 I3 (a + 3) 3 0) (a + 3) 4 1) (a + 3) 6 0) (a + 3) 7 0 := ⟨_, rfl⟩
    have sa : z_ev d i_X2_startAnew [.ref (a + 3)] S I3 J none S I4 J := by
      obtain ⟨d', hd'⟩ := z_dep (d := d) (by omega)
      rw [hd']
      exact e_X2_startAnew (b_X2_startAnew_0 l4.1 l4.1 l4.1 l4.1 ⟨rfl, rfl, E4.symm, rfl⟩)
    rw [← E3]
    have f4 : ∀ y, y ≠ a + 3 → I4 y = I3 y := fun y hy => by rw [E4, z_u2_row hy, z_u2_row hy, z_u2_row hy, z_u2_row hy]
    have f3 : ∀ y, y ≠ a + 2 → I3 y = I2 y := fun y hy => by rw [E3, z_u2_row hy]
    have rf4 : RFr I I4 a := fun y hy => by rw [f4 y (by omega), f3 y (by omega)]; exact t2.rf y hy
    have rs4 : RS S I4 a B n (pnx B n q) := t3.of (by rw [f4 _ (by omega), f3 _ (by omega)]) (by rw [f4 _ (by omega), f3 _ (by omega)])
    have k0 : I4 (a + 2) 0 = 0 := by rw [f4 _ (by omega), E3, z_u2_nk (by decide), t2.1 _ (by omega)]; exact h0
    have k1 : I4 (a + 2) 1 = -1 := by rw [f4 _ (by omega), E3, z_u2_nk (by decide), t2.1 _ (by omega)]; exact h1
    have k4 : I4 (a + 2) 4 = 0 := by rw [f4 _ (by omega), E3, z_u2_same]
    have b3 : I4 (a + 3) 3 = 0 := by rw [E4, z_u2_nk (by decide), z_u2_nk (by decide), z_u2_nk (by decide), z_u2_same]
    have b4 : I4 (a + 3) 4 = 1 := by rw [E4, z_u2_nk (by decide), z_u2_nk (by decide), z_u2_same]
    have b6 : I4 (a + 3) 6 = 0 := by rw [E4, z_u2_nk (by decide), z_u2_same]
    refine ⟨_, _, _, _, sa, ?_⟩
    rcases Classical.em (pkw B n q = 0) with c0 | c0
    · rw [zb_t c0]
      have el : lineP B n laid X q = (match facsP B n (n + 1) (fun _ => (0, 0)) 0 (pnx B n q) with | .inl c => .inl c | .inr c => .inr (grF c.1.1 c.1.2, c.2)) := by
        unfold lineP
        rw [zq_f (by omega), zq_f (by omega), zq_t ⟨c0, hlf⟩]
        rcases facsP B n (n + 1) (fun _ => (0, 0)) 0 (pnx B n q) with c | c <;> rfl
      obtain ⟨I5, v, r1, r2, r3, r4, r5⟩ := c_readFactors (d := d) (J := J) (f := n + 1) (F0 := fun _ => (0, 0)) (by omega) rs4 (hs.rf hL' rf4) (hE.rf hL' rf4) ⟨b3, b4, b6, fun i hi => by omega⟩ hb2
      have rf5 := rf4.trans r2
      refine b_X10_readLine_124 (fun z => by cases z) (fun _ => b_X10_readLine_128 l1 ⟨_, _, _, _, r1, ?_⟩)
      rcases ef : facsP B n (n + 1) (fun _ => (0, 0)) 0 (pnx B n q) with c | c
      · obtain ⟨s1, s2, s3⟩ := r4 c ef
        subst s1
        exact b_X10_readLine_132 (fun z => absurd rfl z) (fun _ => b_X10_readLine_135 z_fit0 (badQ I5 c.1 c.2 rf5 (by rw [el, ef]) s2 s3))
      · obtain ⟨s1, s2, s3, s4, s5, s6, s7⟩ := r5 c ef
        subst s1
        have hE5 := hE.rf hL' rf5
        refine b_X10_readLine_132 (fun _ => bld I5 (grF c.1.1 c.1.2) c.2 0 c.1.2 hlf (by rw [el, ef]) rf5 (by rw [s2]; exact ⟨k0, k1, k4⟩) s3 s4.2.1 (grF_ok s6 s7 s5) rfl s4.2.2.1 (by decide) (by rw [if_pos rfl]; exact ⟨s4.1, by omega⟩) (fun S' I' J' ho x y hx hy => ?_) ⟨rfl, fun _ => rfl⟩ (fun q => (by cases q)) (fun _ => ⟨rfl, rfl, fun i hi => (s4.2.2.2 i hi).2.2⟩) _ _ _) (fun z => by cases z)
        rw [if_pos rfl]
        exact c_factorsProduct (by omega) (BL.old ho l4 (by omega)) (EO.old ho hE5 hE0) (BFs.old ho s4 (by omega)) (by omega) s6 s7 hx hy
    · rw [zb_f c0]
      have c1 : pkw B n q = 1 := by omega
      have el : lineP B n laid X q = permsP B n (n + 1) q (pnx B n q) := by
        unfold lineP
        rw [zq_f (by omega), zq_f (by omega), zq_f (fun z => c0 z.1), zq_t ⟨c1, hlf⟩]
      obtain ⟨I5, v, r1, r2, r3, r4, r5⟩ := c_readRows (d := d) (J := J) (f := n + 1) (place := q) (by omega) rs4 ⟨b6, fun h => by omega, fun t h => by omega⟩ hb2
      have rf5 := rf4.trans r2
      refine b_X10_readLine_124 (fun _ => b_X10_readLine_138 l1 ⟨_, _, _, _, r1, ?_⟩) (fun z => absurd rfl z)
      rcases ef : permsP B n (n + 1) q (pnx B n q) with c | c
      · obtain ⟨s1, s2, s3⟩ := r4 c ef
        subst s1
        exact b_X10_readLine_143 (fun z => absurd rfl z) (fun _ => b_X10_readLine_146 z_fit0 (badQ I5 c.1 c.2 rf5 (by rw [el, ef]) s2 s3))
      · obtain ⟨s1, s2, s3, R, T, D, s, u1, u2, u3, u4, u5, u6, u7⟩ := r5 c ef
        subst s1
        have hT0 : ¬ T = 0 := by omega
        have h7 : I5 (a + 3) 7 = nI D := u6.2.1 u5.1
        have el2 : lineP B n laid X q = .inr (grR D s, c.2) := by rw [el, ef, ← u1]
        refine b_X10_readLine_143 (fun _ => bld I5 (grR D s) c.2 T s.1 hlf el2 rf5 (by rw [s2]; exact ⟨k0, k1, k4⟩) s3 u7.1 (grR_ok u3 u2 u4.2) rfl u6.1 (by omega) (by rw [if_neg hT0]; rfl) (fun S' I' J' ho x y hx hy => ?_) ⟨rfl, fun _ => rfl⟩ (fun _ => ⟨hT0, Nat.le_refl _, ?_, ?_, fun y hy => ?_⟩) (fun q => (by cases q)) _ _ _) (fun z => by cases z)
        · rw [if_neg hT0]
          have e3' := (ho.2 (a + 3) (by omega)).2.1
          have e8' := (ho.2 (a + 3 + 5) (by omega)).2.1
          refine c_rowProduct (by omega) (BL.old ho l4 (by omega)) u4 (by rw [e3']; exact h7) u3 u2 ⟨by rw [e3']; exact u7.1, fun y hy => by rw [e8']; exact u7.2 y hy⟩ hx hy
        · obtain ⟨⟨v1, _⟩, _⟩ := clo_ok u3 u2
          omega
        · unfold ndg; rw [if_neg hT0, h7]; rfl
        · unfold nsr
          rw [if_neg hT0, u7.2 y hy]
          refine congrArg nI (pck_cg D (fun i hi => ?_))
          show s.2 y i = if y < s.1 ∧ i < D then s.2 y i else 0
          rw [if_pos ⟨hy, hi⟩]
  have hkl := pkw_le (B := B) (n := n) (q := q)
  have w := fun {j k} (hj : j < 9) (hk : skx j = k) => c_word (d := d) (J := J) (k := k) hj hk (by omega) hR hs
  refine w_X10_readLine (b_X10_readLine_0 l1 kl ?_)
  rw [l2]
  refine ⟨_, _, _, _, w (j := 0) (k := 2) (by decide) rfl, b_X10_readLine_9 (fun z => b_X10_readLine_17 l1 kl ?_) (fun z => b_X10_readLine_12 l1 ?_)⟩
  · have n2 := zb_0.mp z
    rw [l2]
    refine ⟨_, _, _, _, w (j := 1) (k := 3) (by decide) rfl, b_X10_readLine_26 (fun z2 => b_X10_readLine_55 l1 kl ?_) (fun z2 => b_X10_readLine_29 ⟨l1, Or.inl rfl⟩ l1 l1 (by rw [← hg]; exact hG.2.2) ?_)⟩
    · have n3 := zb_0.mp z2
      rw [l2]
      refine ⟨_, _, _, _, w (j := 2) (k := 0) (by decide) rfl, b_X10_readLine_64 l1 (fun y => ?_) (fun y => b_X10_readLine_72 (fun y2 => ?_) (fun y2 => b_X10_readLine_76 l1 kl ?_))⟩
      · have hlt : laid = true := by
          cases laid with
          | true => rfl
          | false => rw [h4] at y; cases y
        refine bad _ ?_
        unfold lineP
        rw [zq_f n2, zq_f n3, zq_f (fun y => by rw [hlt] at y; cases y.2), zq_f (fun y => by rw [hlt] at y; cases y.2)]
      · have hlf : laid = false := by
          cases laid with
          | false => rfl
          | true => exact absurd (by rw [h4]; rfl) y
        exact good (Or.inl (zb_1.mp y2)) hlf
      · have hlf : laid = false := by
          cases laid with
          | false => rfl
          | true => exact absurd (by rw [h4]; rfl) y
        have n0 := zb_0.mp y2
        rw [l2]
        refine ⟨_, _, _, _, w (j := 3) (k := 1) (by decide) rfl, b_X10_readLine_85 (fun y3 => bad _ ?_) (fun y3 => good (Or.inr (zb_1.mp y3)) hlf)⟩
        have n1 := zb_0.mp y3
        unfold lineP
        rw [zq_f n2, zq_f n3, zq_f (fun y => n0 y.1), zq_f (fun y => n1 y.1)]
    · have e3 := zb_1.mp z2
      have el : lineP B n laid X q = .inr (X.to (bth X), pnx B n q) := by unfold lineP; rw [zq_f n2, zq_t e3]
      obtain ⟨Ia, Ea⟩ : ∃ Ia, Ia = z_u2 I (a + 2) 4 0 := ⟨_, rfl⟩
      have fa : ∀ y, y ≠ a + 2 → Ia y = I y := fun y hy => by rw [Ea, z_u2_row hy]
      have rfa : RFr I Ia a := fun y hy => fa y (by omega)
      have hgoa := (hGC.rd hf hL' rfa).1
      rw [en, et, ei] at hgoa
      obtain ⟨o1, o2⟩ := bth_ok hok
      have wi := c_withInverses (d := d) (J := J) (by omega) hgoa.1 hok.1 hgoa.2.1 hok.2.1
      obtain ⟨Ib, Eb⟩ : ∃ Ib, Ib = z_u2 Ia (a + 2) 3 (nI (bth X)) := ⟨_, rfl⟩
      have fb : ∀ y, y ≠ a + 2 → Ib y = I y := fun y hy => by rw [Eb, z_u2_row hy, fa y hy]
      have rb : RS S Ib a B n q := hR.of (fb _ (by omega)) (fb _ (by omega))
      obtain ⟨I3, t1, t2, t3⟩ := c_take1 (d := d) (J := J) (by omega) rb
      have i3 : I3 (a + 2) = Ib (a + 2) := t2.1 _ (by omega)
      rw [← hg, ← Ea, show Ia (a + 2) 3 = nI X.st by rw [Ea, z_u2_nk (by decide)]; exact h3]
      refine ⟨_, _, _, _, wi, b_X10_readLine_46 l1 l1 ?_⟩
      have eb : z_u2 Ia (a + 2) 3 (nI (X.st ||| zim (fun i => X.st.testBit i) X.iv X.n)) = Ib := Eb.symm
      rw [eb]
      refine ⟨_, _, _, _, t1, b_X10_readLine_54 z_fit1 (same I3 (bth X) (pnx B n q) el (fun y hy => by rw [t2.rf y hy, fb y (by omega)]) ⟨?_, ?_, ?_, ?_⟩ t3 o1 o2)⟩
      · rw [i3, Eb, z_u2_nk (by decide), Ea, z_u2_nk (by decide)]; exact h0
      · rw [i3, Eb, z_u2_nk (by decide), Ea, z_u2_nk (by decide)]; exact h1
      · rw [i3, Eb, z_u2_same]
      · rw [i3, Eb, z_u2_nk (by decide), Ea, z_u2_same]
  · have e2 := zb_1.mp z
    have el : lineP B n laid X q = (match stepsP B n X.n (n + 1) 0 (pnx B n q) with | .inl c => .inl c | .inr c => .inr (X.to c.1, c.2)) := by
      unfold lineP
      rw [zq_t e2]
      rcases stepsP B n X.n (n + 1) 0 (pnx B n q) with c | c <;> rfl
    obtain ⟨I2, v, r1, r2, r4, r5⟩ := c_readSteps (d := d) (J := J) (f := n + 1) (N := X.n) (g := g) (by omega) hR hg.symm hG.2.2 (by omega) hgo.1.2.1 ⟨hn0, hn20⟩ (by omega)
    refine ⟨_, _, _, _, r1, ?_⟩
    rcases ef : stepsP B n X.n (n + 1) 0 (pnx B n q) with c | c
    · obtain ⟨s1, s2, s3⟩ := r4 c ef
      subst s1
      exact b_X10_readLine_16 z_fit0 (badQ I2 c.1 c.2 r2 (by rw [el, ef]) s2 s3)
    · obtain ⟨s1, ⟨s2, s3, s4, s5⟩, s6⟩ := r5 c ef
      subst s1
      obtain ⟨o1, o2⟩ := stepsP_bd (B := B) (n := n) _ _ _ _ (pnx_le hql) (Nat.pow_pos (by decide)) (Nat.zero_testBit 0) ef
      exact b_X10_readLine_16 z_fit1 (same I2 c.1 c.2 (by rw [el, ef]) r2 ⟨by rw [s2]; exact h0, by rw [s3]; exact h1, s4, s5⟩ s6 o1 o2)
end CL3

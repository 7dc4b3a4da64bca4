/-! PURE: colours of pairs of points -/
def mixf (a b : Int32) : Int32 :=
  let z := ((a * (-1640531535) + b) ^^^ ((Int32.toUInt32 (a * (-1640531535) + b) >>> (Int32.toUInt32 15 &&& Int32.toUInt32 31)).toInt32))
  (z * (-2048144777)) ^^^ ((Int32.toUInt32 (z * (-2048144777)) >>> (Int32.toUInt32 13 &&& Int32.toUInt32 31)).toInt32)
/-- a sum -/
def zsm (f : Nat → Int32) : Nat → Int32
  | 0 => 0
  | k + 1 => zsm f k + f k
theorem zsm_congr {f g : Nat → Int32} {n : Nat} (h : ∀ i, i < n → f i = g i) : zsm f n = zsm g n := by
  induction n with
  | zero => rfl
  | succ n ih =>
    show zsm f n + f n = zsm g n + g n
    rw [ih (fun i hi => h i (by omega)), h n (by omega)]
theorem zsm_put {f : Nat → Int32} {n a : Nat} {v : Int32} (ha : a < n) : zsm (fun i => if i = a then v else f i) n + f a = zsm f n + v := by
  induction n with
  | zero => omega
  | succ n ih =>
    show zsm (fun i => if i = a then v else f i) n + (if n = a then v else f n) + f a = zsm f n + f n + v
    by_cases e : n = a
    · subst e
      rw [if_pos rfl, zsm_congr (g := f) (fun i hi => if_neg (by omega)), Int32.add_assoc, Int32.add_comm v (f n), ← Int32.add_assoc]
    · rw [if_neg e, Int32.add_assoc, Int32.add_comm (f n) (f a), ← Int32.add_assoc, ih (by omega), Int32.add_assoc, Int32.add_comm v (f n), ← Int32.add_assoc]
/-- in another order -/
theorem zsm_bij : ∀ (n : Nat) (f : Nat → Int32) (π : Nat → Nat), (∀ i, i < n → π i < n) → (∀ i j, i < n → j < n → π i = π j → i = j) → zsm (fun i => f (π i)) n = zsm f n := by
  intro n
  induction n with
  | zero => intro f π _ _; rfl
  | succ n ih =>
    intro f π h1 h2
    obtain ⟨a, ha, hπ⟩ := z_surj h1 h2 (j := n) (by omega)
    by_cases e : a = n
    · subst e
      show zsm (fun i => f (π i)) a + f (π a) = zsm f a + f a
      rw [hπ, ih f π (fun i hi => by
        have p1 := h1 i (by omega)
        have p2 : π i ≠ a := fun q => by have := h2 i a (by omega) (by omega) (by rw [q, hπ]); omega
        omega) (fun i j hi hj => h2 i j (by omega) (by omega))]
    · have han : a < n := by omega
      have hπn : π n < n := by
        have p1 := h1 n (by omega)
        have p2 : π n ≠ n := fun q => by have := h2 a n ha (by omega) (by rw [q, hπ]); omega
        omega
      have ih2 := ih f (fun i => if i = a then π n else π i) (fun i hi => by
        by_cases q : i = a
        · simp only [if_pos q]; exact hπn
        · simp only [if_neg q]
          have p1 := h1 i (by omega)
          have p2 : π i ≠ n := fun w => q (h2 i a (by omega) ha (by rw [w, hπ]))
          omega) (fun i j hi hj w => by
        by_cases q : i = a
        · by_cases r : j = a
          · omega
          · simp only [if_pos q, if_neg r] at w
            have := h2 n j (by omega) (by omega) w; omega
        · by_cases r : j = a
          · simp only [if_neg q, if_pos r] at w
            have := h2 i n (by omega) (by omega) w; omega
          · simp only [if_neg q, if_neg r] at w
            exact h2 i j (by omega) (by omega) w)
      show zsm (fun i => f (π i)) n + f (π n) = zsm f n + f n
      rw [← ih2]
      have e1 : zsm (fun i => f (if i = a then π n else π i)) n = zsm (fun i => if i = a then f (π n) else f (π i)) n := zsm_congr (fun i _ => by
        by_cases q : i = a
        · simp only [if_pos q]
        · simp only [if_neg q])
      rw [e1]
      have := zsm_put (f := fun i => f (π i)) (v := f (π n)) han
      rw [hπ] at this
      exact this.symm
/-- the first colour -/
def hu0 (iv : Nat → Nat) (st z : Nat) : Int32 := if z = 0 then 0 else nI (1 + (st.testBit z).toNat + 2 * (st.testBit (iv z)).toNat)
/-- one round -/
def hrf (n : Nat) (t : Nat → Nat → Nat) (iv : Nat → Nat) (h : Nat → Int32) (z : Nat) : Int32 := ((mixf (h z) (zsm (fun x => mixf (h x) (h (t (iv x) z))) n)) &&& (-8)) ||| (h z &&& 7)
/-- how many colours -/
def ledp (h : Nat → Int32) (z : Nat) : Prop := ∀ y, y < z → h y ≠ h z
noncomputable def ncs (n : Nat) (h : Nat → Int32) : Nat := zcn (ledp h) n
noncomputable def hpt (n : Nat) (t : Nat → Nat → Nat) (iv : Nat → Nat) : Nat → (Nat → Int32) → Nat → Int32
  | 0, h => h
  | k + 1, h => if ncs n (hrf n t iv h) = ncs n h then hrf n t iv h else hpt n t iv k (hrf n t iv h)
noncomputable def HU (n : Nat) (t : Nat → Nat → Nat) (iv : Nat → Nat) (st : Nat) : Nat → Int32 := hpt n t iv n (hu0 iv st)
theorem ncs_crd (h : Nat → Int32) : ∀ n, Crd (fun v => ∃ z, z < n ∧ h z = v) (ncs n h) := by
  intro n
  induction n with
  | zero => exact Crd.zero (fun v ⟨z, hz, _⟩ => by omega)
  | succ n ih =>
    by_cases e : ledp h n
    · have e1 : ncs (n + 1) h = ncs n h + 1 := zcn_t (p := ledp h) e
      rw [e1]
      refine (ih.or (Crd.one (p := fun v => v = h n) rfl (fun b hb => hb)) (fun v ⟨z, z1, z2⟩ hv => e z z1 (by rw [z2, hv]))).cg (fun v => ⟨?_, ?_⟩)
      · rintro (⟨z, z1, z2⟩ | q)
        · exact ⟨z, by omega, z2⟩
        · exact ⟨n, by omega, q.symm⟩
      · rintro ⟨z, z1, z2⟩
        by_cases ez : z = n
        · rw [ez] at z2; exact Or.inr z2.symm
        · exact Or.inl ⟨z, by omega, z2⟩
    · have e1 : ncs (n + 1) h = ncs n h := zcn_f (p := ledp h) e
      rw [e1]
      refine ih.cg (fun v => ⟨fun ⟨z, z1, z2⟩ => ⟨z, by omega, z2⟩, ?_⟩)
      rintro ⟨z, z1, z2⟩
      by_cases ez : z = n
      · rcases Classical.em (∃ y, y < n ∧ h y = h n) with ⟨y, y1, y2⟩ | q
        · exact ⟨y, y1, by rw [y2, ← ez]; exact z2⟩
        · exact absurd (fun y hy q2 => q ⟨y, hy, q2⟩) e
      · exact ⟨z, by omega, z2⟩
theorem ncs_le (n : Nat) (h : Nat → Int32) : ncs n h ≤ n := zcn_le _ _
theorem i32_low (a b : Int32) : ((a &&& (-8)) ||| (b &&& 7)) &&& 7 = b &&& 7 := by
  apply z_inj
  rw [Int32.toBitVec_and, Int32.toBitVec_or, Int32.toBitVec_and, Int32.toBitVec_and]
  apply BitVec.eq_of_getLsbD_eq
  intro i hi
  rw [BitVec.getLsbD_and, BitVec.getLsbD_or, BitVec.getLsbD_and, BitVec.getLsbD_and]
  have h1 : ∀ i, i < 32 → ((Int32.toBitVec (-8)).getLsbD i && (Int32.toBitVec 7).getLsbD i) = false := by decide
  have h2 := h1 i hi
  cases p : (Int32.toBitVec 7).getLsbD i with
  | false => simp
  | true =>
    rw [p, Bool.and_true] at h2
    rw [h2]; simp
section H
variable {n : Nat} {t t' : Nat → Nat → Nat} {iv iv' : Nat → Nat} {st st' : Nat} {φ : Nat → Nat} {h h' : Nat → Int32}
theorem hrf_low (z : Nat) : hrf n t iv h z &&& 7 = h z &&& 7 := i32_low _ _
theorem hpt_low (z : Nat) : ∀ k h, hpt n t iv k h z &&& 7 = h z &&& 7 := by
  intro k
  induction k with
  | zero => intro h; rfl
  | succ k ih =>
    intro h
    show (if ncs n (hrf n t iv h) = ncs n h then hrf n t iv h else hpt n t iv k (hrf n t iv h)) z &&& 7 = _
    by_cases e : ncs n (hrf n t iv h) = ncs n h
    · rw [if_pos e, hrf_low]
    · rw [if_neg e, ih, hrf_low]
theorem hu0_7 : ∀ a : Bool, ∀ b : Bool, nI (1 + a.toNat + 2 * b.toNat) &&& 7 = nI (1 + a.toNat + 2 * b.toNat) := by decide
theorem HU_low (z : Nat) : HU n t iv st z &&& 7 = hu0 iv st z := by
  unfold HU
  rw [hpt_low]
  unfold hu0
  by_cases e : z = 0
  · rw [if_pos e]; decide
  · rw [if_neg e]; exact hu0_7 _ _
theorem hu0_eq {z z' : Nat} (e : hu0 iv st z = hu0 iv' st' z') : (z = 0 ↔ z' = 0) ∧ (z ≠ 0 → st.testBit z = st'.testBit z' ∧ st.testBit (iv z) = st'.testBit (iv' z')) := by
  have d1 : ∀ a : Bool, ∀ b : Bool, nI (1 + a.toNat + 2 * b.toNat) ≠ 0 := by decide
  have d2 : ∀ a : Bool, ∀ b : Bool, ∀ c : Bool, ∀ d : Bool, nI (1 + a.toNat + 2 * b.toNat) = nI (1 + c.toNat + 2 * d.toNat) → a = c ∧ b = d := by decide
  unfold hu0 at e
  by_cases h1 : z = 0
  · rw [if_pos h1] at e
    by_cases h2 : z' = 0
    · exact ⟨⟨fun _ => h2, fun _ => h1⟩, fun q => absurd h1 q⟩
    · rw [if_neg h2] at e; exact absurd e.symm (d1 _ _)
  · rw [if_neg h1] at e
    by_cases h2 : z' = 0
    · rw [if_pos h2] at e; exact absurd e (d1 _ _)
    · rw [if_neg h2] at e
      exact ⟨⟨fun q => absurd q h1, fun q => absurd q h2⟩, fun _ => d2 _ _ _ _ e⟩
theorem arc_bit (hg : Grp n t iv) (h0 : st.testBit 0 = false) {x y : Nat} (hx : x < n) (hy : y < n) : st.testBit (t (iv x) y) = true ↔ arc n t st x y := by
  constructor
  · intro h
    refine ⟨t (iv x) y, hg.lt (hg.il hx) hy, fun e => (by rw [e, h0] at h; cases h), h, ?_⟩
    rw [← hg.as hx (hg.il hx) hy, hg.ri hx, hg.l0 hy]
  · rintro ⟨s, h1, _, h3, h4⟩
    rw [← h4, ← hg.as (hg.il hx) hx h1, hg.li hx, hg.l0 h1]; exact h3
theorem tiv0 (hg : Grp n t iv) {x y : Nat} (hx : x < n) (hy : y < n) : t (iv x) y = 0 ↔ x = y := by
  constructor
  · intro e
    have := hg.iu (hg.il hx) hy e
    rw [hg.ii hx] at this
    exact this.symm
  · rintro rfl
    exact hg.li hx
theorem iv_t (hg : Grp n t iv) {x y : Nat} (hx : x < n) (hy : y < n) : iv (t (iv x) y) = t (iv y) x := by rw [hg.ip (hg.il hx) hy, hg.ii hx]
/-- like colours along a map -/
def Cor (n : Nat) (t t' : Nat → Nat → Nat) (iv iv' : Nat → Nat) (h h' : Nat → Int32) (φ : Nat → Nat) : Prop := ∀ x y, x < n → y < n → h (t (iv x) y) = h' (t' (iv' (φ x)) (φ y))
theorem cor_0 (hg : Grp n t iv) (hg' : Grp n t' iv') (h0 : st.testBit 0 = false) (h0' : st'.testBit 0 = false) (hφ : NMp n (arc n t st) (arc n t' st') φ) : Cor n t t' iv iv' (hu0 iv st) (hu0 iv' st') φ := by
  intro x y hx hy
  have px := hφ.2.1 x hx
  have py := hφ.2.1 y hy
  have b1 : ∀ x y, x < n → y < n → st.testBit (t (iv x) y) = st'.testBit (t' (iv' (φ x)) (φ y)) := fun x y hx hy => by
    rw [Bool.eq_iff_iff, arc_bit hg h0 hx hy, arc_bit hg' h0' (hφ.2.1 x hx) (hφ.2.1 y hy)]
    exact hφ.2.2.2 x y hx hy
  unfold hu0
  by_cases e : x = y
  · rw [if_pos ((tiv0 hg hx hy).mpr e), if_pos ((tiv0 hg' px py).mpr (by rw [e]))]
  · rw [if_neg (fun q => e ((tiv0 hg hx hy).mp q)), if_neg (fun q => e (hφ.2.2.1 x y hx hy ((tiv0 hg' px py).mp q))), b1 x y hx hy, iv_t hg hx hy, iv_t hg' px py, b1 y x hy hx]
theorem hsum (hg : Grp n t iv) {g k : Nat} (hgn : g < n) (hk : k < n) : zsm (fun x => mixf (h x) (h (t (iv x) (t (iv g) k)))) n = zsm (fun u => mixf (h (t (iv g) u)) (h (t (iv u) k))) n := by
  rw [← zsm_bij n (fun x => mixf (h x) (h (t (iv x) (t (iv g) k)))) (fun u => t (iv g) u) (fun i hi => hg.lt (hg.il hgn) hi) (fun i j hi hj e => hg.cl (hg.il hgn) hi hj e)]
  refine zsm_congr (fun u hu => ?_)
  rw [iv_t hg hgn hu, hg.as (hg.il hu) hgn (hg.lt (hg.il hgn) hk), ← hg.as hgn (hg.il hgn) hk, hg.ri hgn, hg.l0 hk]
theorem cor_s (hg : Grp n t iv) (hg' : Grp n t' iv') (h2 : ∀ x, x < n → φ x < n) (h3 : ∀ x y, x < n → y < n → φ x = φ y → x = y) (hc : Cor n t t' iv iv' h h' φ) : Cor n t t' iv iv' (hrf n t iv h) (hrf n t' iv' h') φ := by
  intro x y hx hy
  unfold hrf
  rw [hsum hg hx hy, hsum hg' (h2 x hx) (h2 y hy), hc x y hx hy]
  have e : zsm (fun u => mixf (h (t (iv x) u)) (h (t (iv u) y))) n = zsm (fun u => mixf (h' (t' (iv' (φ x)) u)) (h' (t' (iv' u) (φ y)))) n := by
    rw [← zsm_bij n (fun u => mixf (h' (t' (iv' (φ x)) u)) (h' (t' (iv' u) (φ y)))) φ h2 h3]
    exact zsm_congr (fun u hu => by rw [hc x u hx hu, hc u y hu hy])
  rw [e]
theorem cor_n (hg : Grp n t iv) (hg' : Grp n t' iv') (h2 : ∀ x, x < n → φ x < n) (h3 : ∀ x y, x < n → y < n → φ x = φ y → x = y) (hz : φ 0 = 0) (hc : Cor n t t' iv iv' h h' φ) : (∀ z, z < n → h z = h' (φ z)) ∧ ncs n h = ncs n h' := by
  have e1 : ∀ z, z < n → h z = h' (φ z) := fun z hz' => by
    have := hc 0 z hg.pos hz'
    rw [hg.i0, hg.l0 hz', hz, hg'.i0, hg'.l0 (h2 z hz')] at this
    exact this
  refine ⟨e1, (ncs_crd h n).uq ((ncs_crd h' n).cg (fun v => ⟨?_, ?_⟩))⟩
  · rintro ⟨z, z1, z2⟩
    obtain ⟨u, u1, u2⟩ := z_surj h2 h3 z1
    exact ⟨u, u1, by rw [e1 u u1, u2]; exact z2⟩
  · rintro ⟨z, z1, z2⟩
    exact ⟨φ z, h2 z z1, by rw [← e1 z z1]; exact z2⟩
theorem cor_p (hg : Grp n t iv) (hg' : Grp n t' iv') (h2 : ∀ x, x < n → φ x < n) (h3 : ∀ x y, x < n → y < n → φ x = φ y → x = y) (hz : φ 0 = 0) : ∀ k h h', Cor n t t' iv iv' h h' φ → Cor n t t' iv iv' (hpt n t iv k h) (hpt n t' iv' k h') φ := by
  intro k
  induction k with
  | zero => intro h h' hc; exact hc
  | succ k ih =>
    intro h h' hc
    have hs := cor_s hg hg' h2 h3 hc
    have e1 := (cor_n hg hg' h2 h3 hz hc).2
    have e2 := (cor_n hg hg' h2 h3 hz hs).2
    show Cor n t t' iv iv' (if ncs n (hrf n t iv h) = ncs n h then hrf n t iv h else hpt n t iv k (hrf n t iv h)) (if ncs n (hrf n t' iv' h') = ncs n h' then hrf n t' iv' h' else hpt n t' iv' k (hrf n t' iv' h')) φ
    by_cases e : ncs n (hrf n t iv h) = ncs n h
    · rw [if_pos e, if_pos (by rw [← e2, ← e1]; exact e)]; exact hs
    · rw [if_neg e, if_neg (by rw [← e2, ← e1]; exact e)]; exact ih _ _ hs
/-- maps with 0 on 0 keep all colours -/
def NM0 (n : Nat) (E E' : Nat → Nat → Prop) (φ : Nat → Nat) : Prop := NMp n E E' φ ∧ φ 0 = 0
theorem nm_cor (hg : Grp n t iv) (hg' : Grp n t' iv') (h0 : st.testBit 0 = false) (h0' : st'.testBit 0 = false) (hφ : NM0 n (arc n t st) (arc n t' st') φ) : Cor n t t' iv iv' (HU n t iv st) (HU n t' iv' st') φ := cor_p hg hg' hφ.1.2.1 hφ.1.2.2.1 hφ.2 n _ _ (cor_0 hg hg' h0 h0' hφ.1)
/-- a map that keeps the colours is one -/
theorem cor_nm (hg : Grp n t iv) (hg' : Grp n t' iv') (h0 : st.testBit 0 = false) (h0' : st'.testBit 0 = false) {f : Nat → Nat} (h2 : ∀ x, x < n → f x < n) (hc : Cor n t t' iv iv' (HU n t iv st) (HU n t' iv' st') f) : NMp n (arc n t st) (arc n t' st') (rowm n f) := by
  have key : ∀ x y, x < n → y < n → (t (iv x) y = 0 ↔ t' (iv' (f x)) (f y) = 0) ∧ (t (iv x) y ≠ 0 → st.testBit (t (iv x) y) = st'.testBit (t' (iv' (f x)) (f y))) := fun x y hx hy => by
    have e : hu0 iv st (t (iv x) y) = hu0 iv' st' (t' (iv' (f x)) (f y)) := by rw [← HU_low (n := n) (t := t), ← HU_low (n := n) (t := t'), hc x y hx hy]
    exact ⟨(hu0_eq e).1, fun q => ((hu0_eq e).2 q).1⟩
  refine ⟨fun x hx => if_neg (by omega), fun x hx => by rw [rowm_in hx]; exact h2 x hx, fun x y hx hy e => ?_, fun x y hx hy => ?_⟩
  · rw [rowm_in hx, rowm_in hy] at e
    exact (tiv0 hg hx hy).mp ((key x y hx hy).1.mpr ((tiv0 hg' (h2 x hx) (h2 y hy)).mpr e))
  · rw [rowm_in hx, rowm_in hy, ← arc_bit hg h0 hx hy, ← arc_bit hg' h0' (h2 x hx) (h2 y hy)]
    by_cases e : t (iv x) y = 0
    · rw [e, (key x y hx hy).1.mp e, h0, h0']
    · rw [(key x y hx hy).2 e]
end H

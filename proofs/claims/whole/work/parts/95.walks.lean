/-! PURE: walks, and sets in their order -/

def jsm (f : Nat → Int64) : Nat → Int64
  | 0 => 0
  | k + 1 => jsm f k + f k
theorem jsm_congr {f g : Nat → Int64} {n : Nat} (h : ∀ i, i < n → f i = g i) : jsm f n = jsm g n := by
  induction n with
  | zero => rfl
  | succ n ih =>
    show jsm f n + f n = jsm g n + g n
    rw [ih (fun i hi => h i (by omega)), h n (by omega)]
theorem jsm_put {f : Nat → Int64} {n a : Nat} {v : Int64} (ha : a < n) : jsm (fun i => if i = a then v else f i) n + f a = jsm f n + v := by
  induction n with
  | zero => omega
  | succ n ih =>
    show jsm (fun i => if i = a then v else f i) n + (if n = a then v else f n) + f a = jsm f n + f n + v
    by_cases e : n = a
    · subst e
      rw [if_pos rfl, jsm_congr (g := f) (fun i hi => if_neg (by omega)), Int64.add_assoc, Int64.add_comm v (f n), ← Int64.add_assoc]
    · rw [if_neg e, Int64.add_assoc, Int64.add_comm (f n) (f a), ← Int64.add_assoc, ih (by omega), Int64.add_assoc, Int64.add_comm v (f n), ← Int64.add_assoc]

theorem jsm_bij : ∀ (n : Nat) (f : Nat → Int64) (π : Nat → Nat), (∀ i, i < n → π i < n) → (∀ i j, i < n → j < n → π i = π j → i = j) → jsm (fun i => f (π i)) n = jsm f n := by
  intro n
  induction n with
  | zero => intro f π _ _; rfl
  | succ n ih =>
    intro f π h1 h2
    obtain ⟨a, ha, hπ⟩ := z_surj h1 h2 (j := n) (by omega)
    by_cases e : a = n
    · subst e
      show jsm (fun i => f (π i)) a + f (π a) = jsm f a + f a
      rw [hπ, ih f π (fun i hi => by
        have p1 := h1 i (by omega)
        have p2 : π i ≠ a := fun q => by have := h2 i a (by omega) (by omega) (by rw [q, hπ]); omega
        omega) (fun i j hi hj => h2 i j (by omega) (by omega))]
    · have han : a < n := by omega
      have hπn : π n < n := by
        have p1 := h1 n (by omega)
        have p2 : π n ≠ n := fun q => by have := h2 a n ha (by omega) (by rw [q, hπ]); omega
        omega
      have ih2 := ih f (fun i => if i = a then π n else π i) (fun i hi => by
        by_cases q : i = a
        · simp only [if_pos q]; exact hπn
        · simp only [if_neg q]
          have p1 := h1 i (by omega)
          have p2 : π i ≠ n := fun w => q (h2 i a (by omega) ha (by rw [w, hπ]))
          omega) (fun i j hi hj w => by
        by_cases q : i = a
        · by_cases r : j = a
          · omega
          · simp only [if_pos q, if_neg r] at w
            have := h2 n j (by omega) (by omega) w; omega
        · by_cases r : j = a
          · simp only [if_neg q, if_pos r] at w
            have := h2 i n (by omega) (by omega) w; omega
          · simp only [if_neg q, if_neg r] at w
            exact h2 i j (by omega) (by omega) w)
      show jsm (fun i => f (π i)) n + f (π n) = jsm f n + f n
      rw [← ih2]
      have e1 : jsm (fun i => f (if i = a then π n else π i)) n = jsm (fun i => if i = a then f (π n) else f (π i)) n := jsm_congr (fun i _ => by
        by_cases q : i = a
        · simp only [if_pos q]
        · simp only [if_neg q])
      rw [e1]
      have := jsm_put (f := fun i => f (π i)) (v := f (π n)) han
      rw [hπ] at this
      exact this.symm
theorem zsm_zero : ∀ n, zsm (fun _ => 0) n = 0 := by
  intro n
  induction n with
  | zero => rfl
  | succ n ih => show zsm (fun _ => 0) n + 0 = 0; rw [ih]; rfl
theorem zsm_one {a n : Nat} {v : Int32} (ha : a < n) : zsm (fun x => if x = a then v else 0) n = v := by
  have := zsm_put (f := fun _ => 0) (v := v) ha
  rw [zsm_zero, Int32.add_zero, Int32.zero_add] at this
  exact this
/-- the row of a set -/
def RowOf (A : Nat) (c : Nat → Nat) (m : Nat) : Prop := (∀ i, i < m → 1 ≤ c i) ∧ (∀ i j, i < j → j < m → c i < c j) ∧ ∀ b, A.testBit b = true ↔ ∃ i, i < m ∧ c i = b
section W1
variable {n m A X : Nat} {c : Nat → Nat} {t t' : Nat → Nat → Nat} {iv iv' : Nat → Nat} {φ : Nat → Nat} {A' : Nat}
theorem RowOf.inj (h : RowOf A c m) {i j : Nat} (hi : i < m) (hj : j < m) (e : c i = c j) : i = j := by
  rcases Nat.lt_trichotomy i j with q | q | q
  · have := h.2.1 i j q hj; omega
  · exact q
  · have := h.2.1 j i q hi; omega
theorem zsm_enum (h : RowOf A c m) (hn : ∀ i, i < m → c i < n) (f : Nat → Int32) : zsm (fun i => f (c i)) m = zsm (fun x => if A.testBit x = true then f x else 0) n := by
  have key : ∀ k, k ≤ m → zsm (fun i => f (c i)) k = zsm (fun x => zq (∃ i, i < k ∧ c i = x) (f x) 0) n := by
    intro k
    induction k with
    | zero =>
      intro _
      rw [zsm_congr (g := fun _ => 0) (fun i _ => zq_f (fun ⟨j, hj, _⟩ => by omega)), zsm_zero]
      rfl
    | succ k ih =>
      intro hk
      have p := zsm_put (f := fun x => zq (∃ i, i < k ∧ c i = x) (f x) 0) (v := f (c k)) (hn k (by omega))
      have e0 : zq (∃ i, i < k ∧ c i = c k) (f (c k)) 0 = 0 := zq_f (fun ⟨j, hj, e⟩ => by have := h.inj (by omega) (by omega) e; omega)
      rw [e0, Int32.add_zero, ← ih (by omega)] at p
      show zsm (fun i => f (c i)) k + f (c k) = _
      rw [← p]
      refine zsm_congr (fun x hx => ?_)
      by_cases e : x = c k
      · rw [if_pos e, zq_t ⟨k, by omega, e.symm⟩, e]
      · rw [if_neg e]
        by_cases q : ∃ i, i < k ∧ c i = x
        · obtain ⟨i, hi, q⟩ := q
          rw [zq_t ⟨i, hi, q⟩, zq_t ⟨i, by omega, q⟩]
        · rw [zq_f q, zq_f (fun ⟨i, hi, w⟩ => by
            by_cases ei : i = k
            · exact e (by rw [← w, ei])
            · exact q ⟨i, by omega, w⟩)]
  rw [key m (Nat.le_refl _)]
  refine zsm_congr (fun x hx => ?_)
  by_cases q : ∃ i, i < m ∧ c i = x
  · rw [zq_t q, if_pos ((h.2.2 x).mpr q)]
  · rw [zq_f q, if_neg (fun w => q ((h.2.2 x).mp w))]
/-- walks of one step more -/
def nxw (n : Nat) (t : Nat → Nat → Nat) (iv : Nat → Nat) (A : Nat) (w : Nat → Int32) (y : Nat) : Int32 := zsm (fun u => if A.testBit (t (iv u) y) = true then w u else 0) n
def wk (n : Nat) (t : Nat → Nat → Nat) (iv : Nat → Nat) (A : Nat) : Nat → Nat → Int32
  | 0 => fun x => if A.testBit x = true then 1 else 0
  | k + 1 => nxw n t iv A (wk n t iv A k)
def wtr (n : Nat) (t : Nat → Nat → Nat) (iv : Nat → Nat) (A : Nat) : Nat → Nat → Int32
  | 0 => wk n t iv A 1
  | k + 1 => fun y => mixf (wtr n t iv A k y) (wk n t iv A (k + 2) y)
def pv (w : Int32) (b : Bool) : Int64 := if w ≤ 0 then 0 else (1 : Int64) <<< (Int32.toInt64 (6 * ((2 * w) - nI b.toNat)) &&& 63)
def prf (n : Nat) (t : Nat → Nat → Nat) (iv : Nat → Nat) (A : Nat) : Int64 := jsm (fun y => if y = 0 then Int32.toInt64 (wk n t iv A 1 0) else pv (wk n t iv A 1 y) (A.testBit y)) n
def lws (n : Nat) (t : Nat → Nat → Nat) (iv : Nat → Nat) (A m : Nat) : Int32 := mixf (wtr n t iv A 4 0) (nI m) + zsm (fun y => mixf (wtr n t iv A 4 y) 0) n
theorem bit_inv (hg : Grp n t iv) (hg' : Grp n t' iv') (h0 : A.testBit 0 = false) (h0' : A'.testBit 0 = false) (hφ : NM0 n (arc n t A) (arc n t' A') φ) {x y : Nat} (hx : x < n) (hy : y < n) : A.testBit (t (iv x) y) = A'.testBit (t' (iv' (φ x)) (φ y)) := by
  rw [Bool.eq_iff_iff, arc_bit hg h0 hx hy, arc_bit hg' h0' (hφ.1.2.1 x hx) (hφ.1.2.1 y hy)]
  exact hφ.1.2.2.2 x y hx hy
theorem bit_inv0 (hg : Grp n t iv) (hg' : Grp n t' iv') (h0 : A.testBit 0 = false) (h0' : A'.testBit 0 = false) (hφ : NM0 n (arc n t A) (arc n t' A') φ) {y : Nat} (hy : y < n) : A.testBit y = A'.testBit (φ y) := by
  have := bit_inv hg hg' h0 h0' hφ hg.pos hy
  rw [hg.i0, hg.l0 hy, hφ.2, hg'.i0, hg'.l0 (hφ.1.2.1 y hy)] at this
  exact this
theorem wk_inv (hg : Grp n t iv) (hg' : Grp n t' iv') (h0 : A.testBit 0 = false) (h0' : A'.testBit 0 = false) (hφ : NM0 n (arc n t A) (arc n t' A') φ) : ∀ k y, y < n → wk n t iv A k y = wk n t' iv' A' k (φ y) := by
  intro k
  induction k with
  | zero =>
    intro y hy
    show (if A.testBit y = true then (1 : Int32) else 0) = if A'.testBit (φ y) = true then 1 else 0
    rw [bit_inv0 hg hg' h0 h0' hφ hy]
  | succ k ih =>
    intro y hy
    show zsm (fun u => if A.testBit (t (iv u) y) = true then wk n t iv A k u else 0) n = zsm (fun u => if A'.testBit (t' (iv' u) (φ y)) = true then wk n t' iv' A' k u else 0) n
    rw [← zsm_bij n (fun u => if A'.testBit (t' (iv' u) (φ y)) = true then wk n t' iv' A' k u else 0) φ hφ.1.2.1 hφ.1.2.2.1]
    exact zsm_congr (fun u hu => by rw [bit_inv hg hg' h0 h0' hφ hu hy, ih u hu])
theorem wtr_inv (hg : Grp n t iv) (hg' : Grp n t' iv') (h0 : A.testBit 0 = false) (h0' : A'.testBit 0 = false) (hφ : NM0 n (arc n t A) (arc n t' A') φ) : ∀ k y, y < n → wtr n t iv A k y = wtr n t' iv' A' k (φ y) := by
  intro k
  induction k with
  | zero => intro y hy; exact wk_inv hg hg' h0 h0' hφ 1 y hy
  | succ k ih =>
    intro y hy
    show mixf (wtr n t iv A k y) (wk n t iv A (k + 2) y) = mixf (wtr n t' iv' A' k (φ y)) (wk n t' iv' A' (k + 2) (φ y))
    rw [ih y hy, wk_inv hg hg' h0 h0' hφ (k + 2) y hy]
theorem lws_inv (hg : Grp n t iv) (hg' : Grp n t' iv') (h0 : A.testBit 0 = false) (h0' : A'.testBit 0 = false) (hφ : NM0 n (arc n t A) (arc n t' A') φ) : lws n t iv A m = lws n t' iv' A' m := by
  unfold lws
  rw [wtr_inv hg hg' h0 h0' hφ 4 0 hg.pos, hφ.2, ← zsm_bij n (fun y => mixf (wtr n t' iv' A' 4 y) 0) φ hφ.1.2.1 hφ.1.2.2.1]
  exact congrArg _ (zsm_congr (fun y hy => by rw [wtr_inv hg hg' h0 h0' hφ 4 y hy]))
theorem prf_inv (hg : Grp n t iv) (hg' : Grp n t' iv') (h0 : A.testBit 0 = false) (h0' : A'.testBit 0 = false) (hφ : NM0 n (arc n t A) (arc n t' A') φ) : prf n t iv A = prf n t' iv' A' := by
  unfold prf
  rw [← jsm_bij n (fun y => if y = 0 then Int32.toInt64 (wk n t' iv' A' 1 0) else pv (wk n t' iv' A' 1 y) (A'.testBit y)) φ hφ.1.2.1 hφ.1.2.2.1]
  refine jsm_congr (fun y hy => ?_)
  by_cases e : y = 0
  · subst e
    rw [if_pos rfl, if_pos hφ.2, wk_inv hg hg' h0 h0' hφ 1 0 hy, hφ.2]
  · rw [if_neg e, if_neg (fun q => e (hφ.1.2.2.1 y 0 hy hg.pos (by rw [q, hφ.2]))), wk_inv hg hg' h0 h0' hφ 1 y hy, bit_inv0 hg hg' h0 h0' hφ hy]
/-- walks of two steps, from the row -/
theorem wk_2 (hg : Grp n t iv) (h : RowOf A c m) (hn : ∀ i, i < m → c i < n) {y : Nat} (hy : y < n) : zsm (fun i => zsm (fun j => if t (c i) (c j) = y then 1 else 0) m) m = wk n t iv A 1 y := by
  have e1 : ∀ i, i < m → zsm (fun j => if t (c i) (c j) = y then 1 else 0) m = (fun x => if A.testBit (t (iv x) y) = true then (1 : Int32) else 0) (c i) := fun i hi => by
    have hc := hn i hi
    rw [zsm_enum h hn (fun x => if t (c i) x = y then 1 else 0), zsm_congr (g := fun x => if x = t (iv (c i)) y then (if A.testBit (t (iv (c i)) y) = true then (1 : Int32) else 0) else 0) (fun x hx => ?_), zsm_one (hg.lt (hg.il hc) hy)]
    by_cases e : x = t (iv (c i)) y
    · have e2 : t (c i) x = y := by rw [e, ← hg.as hc (hg.il hc) hy, hg.ri hc, hg.l0 hy]
      rw [if_pos e, if_pos e2, ← e]
    · have e2 : ¬ t (c i) x = y := fun q => e (by rw [← q, ← hg.as (hg.il hc) hc hx, hg.li hc, hg.l0 hx])
      rw [if_neg e, if_neg e2]
      by_cases q : A.testBit x = true
      · rw [if_pos q]
      · rw [if_neg q]
  rw [zsm_congr e1, zsm_enum h hn (fun x => if A.testBit (t (iv x) y) = true then (1 : Int32) else 0)]
  show _ = zsm (fun u => if A.testBit (t (iv u) y) = true then (if A.testBit u = true then (1 : Int32) else 0) else 0) n
  refine zsm_congr (fun x _ => ?_)
  by_cases p : A.testBit x = true
  · by_cases q : A.testBit (t (iv x) y) = true
    · rw [if_pos p, if_pos q, if_pos q, if_pos p]
    · rw [if_pos p, if_neg q, if_neg q]
  · by_cases q : A.testBit (t (iv x) y) = true
    · rw [if_neg p, if_pos q, if_neg p]
    · rw [if_neg p, if_neg q]
theorem nxw_row (hg : Grp n t iv) (h : RowOf A c m) (hn : ∀ i, i < m → c i < n) {y : Nat} {w : Nat → Int32} (hy : y < n) : zsm (fun i => zsm (fun x => if t x (c i) = y then w x else 0) n) m = nxw n t iv A w y := by
  have e1 : ∀ i, i < m → zsm (fun x => if t x (c i) = y then w x else 0) n = (fun x => w (t y (iv x))) (c i) := fun i hi => by
    have hc := hn i hi
    rw [zsm_congr (g := fun x => if x = t y (iv (c i)) then w (t y (iv (c i))) else 0) (fun x hx => ?_), zsm_one (hg.lt hy (hg.il hc))]
    by_cases e : x = t y (iv (c i))
    · have e2 : t x (c i) = y := by rw [e, hg.as hy (hg.il hc) hc, hg.li hc, hg.r0 hy]
      rw [if_pos e, if_pos e2, ← e]
    · have e2 : ¬ t x (c i) = y := fun q => e (by rw [← q, hg.as hx hc (hg.il hc), hg.ri hc, hg.r0 hx])
      rw [if_neg e, if_neg e2]
  rw [zsm_congr e1, zsm_enum h hn (fun x => w (t y (iv x)))]
  show _ = zsm (fun u => if A.testBit (t (iv u) y) = true then w u else 0) n
  rw [← zsm_bij n (fun x => if A.testBit x = true then w (t y (iv x)) else 0) (fun u => t (iv u) y) (fun i hi => hg.lt (hg.il hi) hy) (fun i j hi hj e => ?_)]
  · refine zsm_congr (fun u hu => ?_)
    rw [hg.ip (hg.il hu) hy, hg.ii hu, ← hg.as hy (hg.il hy) hu, hg.ri hy, hg.l0 hu]
  · have e2 : iv i = iv j := by
      have e : t (iv i) y = t (iv j) y := e
      have := congrArg (fun z => t z (iv y)) e
      have : t (t (iv i) y) (iv y) = t (t (iv j) y) (iv y) := this
      rw [hg.as (hg.il hi) hy (hg.il hy), hg.as (hg.il hj) hy (hg.il hy), hg.ri hy, hg.r0 (hg.il hi), hg.r0 (hg.il hj)] at this
      exact this
    have := congrArg iv e2
    rw [hg.ii hi, hg.ii hj] at this
    exact this
end W1

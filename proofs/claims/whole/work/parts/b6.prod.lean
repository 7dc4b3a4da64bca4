/-! PURE: groups as products of known ones -/
/-- an inverse, found -/
noncomputable def ivt (t : Nat → Nat → Nat) (x : Nat) : Nat := zleast (fun y => t x y = 0)
def evl : List (List Nat) := [[0, 1, 2, 3], [0, 2, 3, 1], [0, 3, 1, 2], [1, 0, 3, 2], [1, 2, 0, 3], [1, 3, 2, 0], [2, 0, 1, 3], [2, 1, 3, 0], [2, 3, 0, 1], [3, 0, 2, 1], [3, 1, 0, 2], [3, 2, 1, 0]]
def evi (i p : Nat) : Nat := (evl.getD i []).getD p 0
def evf (l : List Nat) : Nat := evl.idxOf l
def evp (i j : Nat) : Nat := evf [evi j (evi i 0), evi j (evi i 1), evi j (evi i 2), evi j (evi i 3)]
def tur (w mo i j : Nat) : Nat := (if w ≤ i then i % w + w - j % w + (if w ≤ j then mo else 0) else i % w + j % w) % w + (if w ≤ i then (if w ≤ j then 0 else w) else (if w ≤ j then w else 0))
def fsz (k b : Nat) : Nat := if k = 5 then b else if k = 6 then 2 * b else if k = 7 then 4 * b else 12
def fpr (k b i j : Nat) : Nat := if k = 5 then (i + j) % b else if k = 6 then tur b 0 i j else if k = 7 then tur (2 * b) b i j else evp i j
def FOk (k b : Nat) : Prop := (k = 5 ∧ 1 ≤ b ∧ b ≤ 20) ∨ (k = 6 ∧ 1 ≤ b ∧ b ≤ 10) ∨ (k = 7 ∧ 2 ≤ b ∧ b ≤ 5) ∨ (k = 8 ∧ b = 0)
def pdt (h : Nat) (t u : Nat → Nat → Nat) (x y : Nat) : Nat := t (x % h) (y % h) + h * u (x / h) (y / h)
/-- what a group is, without its inverses -/
def Gr0 (n : Nat) (t : Nat → Nat → Nat) : Prop := 0 < n ∧ (∀ x, x < n → ∀ y, y < n → t x y < n) ∧ (∀ x, x < n → ∀ y, y < n → ∀ z, z < n → t (t x y) z = t x (t y z)) ∧ (∀ x, x < n → t 0 x = x ∧ t x 0 = x) ∧ ∀ x, x < n → ∃ y, y < n ∧ t x y = 0
section PG1
variable {n g : Nat} {t u : Nat → Nat → Nat}
theorem Gr0.grp (h : Gr0 n t) (hn : n ≤ 20) : Grp n t (ivt t) := by
  obtain ⟨h1, h2, h3, h4, h5⟩ := h
  have ri : ∀ x, x < n → ivt t x < n ∧ t x (ivt t x) = 0 := fun x hx => by
    obtain ⟨y, hy, e⟩ := h5 x hx
    obtain ⟨a, b⟩ := zleast_spec (p := fun y => t x y = 0) ⟨y, e⟩
    refine ⟨?_, a⟩
    rcases Nat.lt_or_ge y (zleast (fun y => t x y = 0)) with q | q
    · exact absurd e (b y q)
    · exact Nat.lt_of_le_of_lt q hy
  refine ⟨⟨h1, hn, h2⟩, h3, h4, fun x hx => ?_⟩
  obtain ⟨a1, a2⟩ := ri x hx
  obtain ⟨b1, b2⟩ := ri (ivt t x) a1
  refine ⟨a1, a2, ?_⟩
  have e : ivt t (ivt t x) = x := by
    have q := h3 x hx (ivt t x) a1 (ivt t (ivt t x)) b1
    rw [a2, b2, (h4 _ b1).1, (h4 x hx).2] at q
    exact q
  rw [e] at b2
  exact b2
theorem gr0_c {b : Nat} (hb : 0 < b) : Gr0 b (fun i j => (i + j) % b) := by
  refine ⟨hb, fun x _ y _ => Nat.mod_lt _ hb, fun x _ y _ z _ => ?_, fun x hx => ⟨?_, ?_⟩, fun x hx => ⟨(b - x) % b, Nat.mod_lt _ hb, ?_⟩⟩
  · show ((x + y) % b + z) % b = (x + (y + z) % b) % b
    rw [Nat.mod_add_mod, Nat.add_mod_mod, Nat.add_assoc]
  · show (0 + x) % b = x
    rw [Nat.zero_add, Nat.mod_eq_of_lt hx]
  · show (x + 0) % b = x
    rw [Nat.add_zero, Nat.mod_eq_of_lt hx]
  · show (x + (b - x) % b) % b = 0
    rw [Nat.add_mod_mod, show x + (b - x) = b by omega, Nat.mod_self]
theorem pdt_m {h x y : Nat} (hh : 0 < h) (ht : t (x % h) (y % h) < h) : pdt h t u x y % h = t (x % h) (y % h) ∧ pdt h t u x y / h = u (x / h) (y / h) := by
  unfold pdt
  refine ⟨?_, ?_⟩
  · rw [Nat.add_mul_mod_self_left, Nat.mod_eq_of_lt ht]
  · rw [Nat.add_mul_div_left _ _ hh, Nat.div_eq_of_lt ht, Nat.zero_add]
theorem gr0_pdt (ht : Gr0 n t) (hu : Gr0 g u) : Gr0 (n * g) (pdt n t u) := by
  obtain ⟨t1, t2, t3, t4, t5⟩ := ht
  obtain ⟨u1, u2, u3, u4, u5⟩ := hu
  have lo : ∀ x, x % n < n := fun x => Nat.mod_lt _ t1
  have hi : ∀ x, x < n * g → x / n < g := fun x hx => (Nat.div_lt_iff_lt_mul t1).mpr (by rw [Nat.mul_comm]; exact hx)
  have mk : ∀ a b, a < n → b < g → a + n * b < n * g := fun a b ha hb => by
    have : n * (b + 1) ≤ n * g := Nat.mul_le_mul_left n hb
    rw [Nat.mul_add, Nat.mul_one] at this
    omega
  refine ⟨Nat.mul_pos t1 u1, fun x hx y hy => mk _ _ (t2 _ (lo x) _ (lo y)) (u2 _ (hi x hx) _ (hi y hy)), fun x hx y hy z hz => ?_, fun x hx => ⟨?_, ?_⟩, fun x hx => ?_⟩
  · have a := pdt_m (t := t) (u := u) (x := x) (y := y) t1 (t2 _ (lo x) _ (lo y))
    have b := pdt_m (t := t) (u := u) (x := y) (y := z) t1 (t2 _ (lo y) _ (lo z))
    show t (pdt n t u x y % n) (z % n) + n * u (pdt n t u x y / n) (z / n) = t (x % n) (pdt n t u y z % n) + n * u (x / n) (pdt n t u y z / n)
    rw [a.1, a.2, b.1, b.2, t3 _ (lo x) _ (lo y) _ (lo z), u3 _ (hi x hx) _ (hi y hy) _ (hi z hz)]
  · show t (0 % n) (x % n) + n * u (0 / n) (x / n) = x
    rw [Nat.zero_mod, Nat.zero_div, (t4 _ (lo x)).1, (u4 _ (hi x hx)).1, Nat.mod_add_div]
  · show t (x % n) (0 % n) + n * u (x / n) (0 / n) = x
    rw [Nat.zero_mod, Nat.zero_div, (t4 _ (lo x)).2, (u4 _ (hi x hx)).2, Nat.mod_add_div]
  · obtain ⟨a, ha, ea⟩ := t5 _ (lo x)
    obtain ⟨b, hb, eb⟩ := u5 _ (hi x hx)
    refine ⟨a + n * b, mk a b ha hb, ?_⟩
    show t (x % n) ((a + n * b) % n) + n * u (x / n) ((a + n * b) / n) = 0
    rw [Nat.add_mul_mod_self_left, Nat.mod_eq_of_lt ha, Nat.add_mul_div_left _ _ t1, Nat.div_eq_of_lt ha, Nat.zero_add, ea, eb, Nat.mul_zero]
end PG1
/-- checked by trying all -/
def ck (n : Nat) (t : Nat → Nat → Nat) : Bool := (List.range n).all (fun x => Nat.beq (t 0 x) x && Nat.beq (t x 0) x && (List.range n).any (fun y => Nat.beq (t x y) 0) && (List.range n).all (fun y => Nat.blt (t x y) n && (List.range n).all (fun z => Nat.beq (t (t x y) z) (t x (t y z)))))
theorem ck_gr {n : Nat} {t : Nat → Nat → Nat} (hn : 0 < n) (h : ck n t = true) : Gr0 n t := by
  unfold ck at h
  rw [List.all_eq_true] at h
  have h' : ∀ x, x < n → (t 0 x = x ∧ t x 0 = x) ∧ (∃ y, y < n ∧ t x y = 0) ∧ ∀ y, y < n → t x y < n ∧ ∀ z, z < n → t (t x y) z = t x (t y z) := fun x hx => by
    have q := h x (List.mem_range.mpr hx)
    rw [Bool.and_eq_true, Bool.and_eq_true, Bool.and_eq_true, List.any_eq_true, List.all_eq_true] at q
    obtain ⟨⟨⟨q1, q2⟩, y, y1, y2⟩, q3⟩ := q
    refine ⟨⟨Nat.eq_of_beq_eq_true q1, Nat.eq_of_beq_eq_true q2⟩, ⟨y, List.mem_range.mp y1, Nat.eq_of_beq_eq_true y2⟩, fun y hy => ?_⟩
    have r := q3 y (List.mem_range.mpr hy)
    rw [Bool.and_eq_true, List.all_eq_true] at r
    exact ⟨Nat.le_of_ble_eq_true r.1, fun z hz => Nat.eq_of_beq_eq_true (r.2 z (List.mem_range.mpr hz))⟩
  exact ⟨hn, fun x hx y hy => ((h' x hx).2.2 y hy).1, fun x hx y hy z hz => ((h' x hx).2.2 y hy).2 z hz, fun x hx => (h' x hx).1, fun x hx => (h' x hx).2.1⟩
theorem ck_d : ∀ b, b < 11 → 1 ≤ b → ck (2 * b) (tur b 0) = true := by decide +kernel
theorem ck_q : ∀ b, b < 6 → 2 ≤ b → ck (4 * b) (tur (2 * b) b) = true := by decide +kernel
theorem ck_a : ck 12 evp = true := by decide +kernel
theorem fpr_gr {k b : Nat} (h : FOk k b) : Gr0 (fsz k b) (fpr k b) := by
  unfold fsz
  have e : ∀ u : Nat → Nat → Nat, (∀ i j, fpr k b i j = u i j) → fpr k b = u := fun u hu => by funext i j; exact hu i j
  rcases h with ⟨h1, h2, h3⟩ | ⟨h1, h2, h3⟩ | ⟨h1, h2, h3⟩ | ⟨h1, h2⟩
  · rw [if_pos h1, e (fun i j => (i + j) % b) (fun i j => by unfold fpr; rw [if_pos h1])]
    exact gr0_c h2
  · rw [if_neg (by omega), if_pos h1, e (tur b 0) (fun i j => by unfold fpr; rw [if_neg (by omega), if_pos h1])]
    exact ck_gr (by omega) (ck_d b (by omega) h2)
  · rw [if_neg (by omega), if_neg (by omega), if_pos h1, e (tur (2 * b) b) (fun i j => by unfold fpr; rw [if_neg (by omega), if_neg (by omega), if_pos h1])]
    exact ck_gr (by omega) (ck_q b (by omega) h2)
  · rw [if_neg (by omega), if_neg (by omega), if_neg (by omega), e evp (fun i j => by unfold fpr; rw [if_neg (by omega), if_neg (by omega), if_neg (by omega)])]
    exact ck_gr (by decide) ck_a
/-! rows of factors -/
def nP (F : Nat → Nat × Nat) : Nat → Nat
  | 0 => 1
  | i + 1 => nP F i * fsz (F i).1 (F i).2
def tP (F : Nat → Nat × Nat) : Nat → Nat → Nat → Nat
  | 0 => fun _ _ => 0
  | i + 1 => pdt (nP F i) (tP F i) (fpr (F i).1 (F i).2)
def fup (F : Nat → Nat × Nat) (i : Nat) (p : Nat × Nat) (j : Nat) : Nat × Nat := if j = i then p else F j
section PG2
variable {F F' : Nat → Nat × Nat} {i j : Nat}
theorem nP_cg (h : ∀ j, j < i → F j = F' j) : nP F i = nP F' i := by
  induction i with
  | zero => rfl
  | succ i ih => show nP F i * _ = nP F' i * _; rw [ih (fun j hj => h j (by omega)), h i (by omega)]
theorem tP_cg (h : ∀ j, j < i → F j = F' j) : tP F i = tP F' i := by
  induction i with
  | zero => rfl
  | succ i ih => show pdt (nP F i) (tP F i) _ = pdt (nP F' i) (tP F' i) _; rw [ih (fun j hj => h j (by omega)), h i (by omega), nP_cg (i := i) (fun j hj => h j (by omega))]
theorem tP_gr (h : ∀ j, j < i → FOk (F j).1 (F j).2) : Gr0 (nP F i) (tP F i) := by
  induction i with
  | zero => exact ⟨Nat.zero_lt_one, fun x _ y _ => Nat.zero_lt_one, fun _ _ _ _ _ _ => rfl, fun x hx => ⟨(Nat.lt_one_iff.mp hx).symm, (Nat.lt_one_iff.mp hx).symm⟩, fun x _ => ⟨0, Nat.zero_lt_one, rfl⟩⟩
  | succ i ih => exact gr0_pdt (ih (fun j hj => h j (by omega))) (fpr_gr (h i (by omega)))
theorem fsz_pos {k b : Nat} (h : FOk k b) : 0 < fsz k b := (fpr_gr h).1
theorem nP_mono (h : ∀ l, l < j → FOk (F l).1 (F l).2) (hij : i ≤ j) : nP F i ≤ nP F j := by
  obtain ⟨k, rfl⟩ := Nat.exists_eq_add_of_le hij
  induction k with
  | zero => exact Nat.le_refl _
  | succ k ih =>
    refine Nat.le_trans (ih (fun l hl => h l (by omega)) (by omega)) ?_
    show nP F (i + k) ≤ nP F (i + k) * _
    exact Nat.le_mul_of_pos_right _ (fsz_pos (h (i + k) (by omega)))
end PG2

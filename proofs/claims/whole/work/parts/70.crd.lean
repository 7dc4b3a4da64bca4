/-! PURE: how many there are of a kind; maps -/
def Crd {α : Type} (p : α → Prop) (k : Nat) : Prop := ∃ L : List α, L.length = k ∧ L.Nodup ∧ ∀ a, a ∈ L ↔ p a
section K
variable {α : Type} {p q : α → Prop} {k l : Nat}
theorem Crd.uq (h : Crd p k) (h' : Crd p l) : k = l := by
  obtain ⟨L, h1, h2, h3⟩ := h
  obtain ⟨M, g1, g2, g3⟩ := h'
  have : L.Perm M := (List.perm_ext_iff_of_nodup h2 g2).mpr (fun a => by rw [h3, g3])
  rw [← h1, ← g1, this.length_eq]
theorem Crd.cg (h : Crd p k) (hq : ∀ a, p a ↔ q a) : Crd q k := by
  obtain ⟨L, h1, h2, h3⟩ := h
  exact ⟨L, h1, h2, fun a => by rw [h3, hq]⟩
theorem Crd.zero (h : ∀ a, ¬ p a) : Crd p 0 := ⟨[], rfl, List.nodup_nil, fun a => ⟨fun q => (by cases q), fun q => absurd q (h a)⟩⟩
theorem Crd.one {a : α} (h : p a) (hu : ∀ b, p b → b = a) : Crd p 1 := ⟨[a], rfl, List.nodup_cons.mpr ⟨fun q => (by cases q), List.nodup_nil⟩, fun b => by
  rw [List.mem_singleton]
  exact ⟨fun e => by rw [e]; exact h, hu b⟩⟩
theorem Crd.or (h : Crd p k) (h' : Crd q l) (hd : ∀ a, p a → q a → False) : Crd (fun a => p a ∨ q a) (k + l) := by
  obtain ⟨L, h1, h2, h3⟩ := h
  obtain ⟨M, g1, g2, g3⟩ := h'
  refine ⟨L ++ M, by rw [List.length_append, h1, g1], List.nodup_append.mpr ⟨h2, g2, fun a ha b hb e => ?_⟩, fun a => by rw [List.mem_append, h3, g3]⟩
  subst e
  exact hd a ((h3 a).mp ha) ((g3 a).mp hb)
theorem Crd.pos {a : α} (h : Crd p k) (ha : p a) : 0 < k := by
  obtain ⟨L, h1, h2, h3⟩ := h
  have := (h3 a).mpr ha
  rw [← h1]
  exact List.length_pos_of_mem this
theorem Crd.ex (h : Crd p k) (hk : 0 < k) : ∃ a, p a := by
  obtain ⟨L, h1, h2, h3⟩ := h
  obtain ⟨a, ha⟩ := List.exists_mem_of_length_pos (l := L) (by omega)
  exact ⟨a, (h3 a).mp ha⟩
theorem nodup_map {β : Type} {f : α → β} : ∀ (L : List α), L.Nodup → (∀ a ∈ L, ∀ b ∈ L, f a = f b → a = b) → (L.map f).Nodup
  | [], _, _ => List.nodup_nil
  | x :: L, h, hf => by
    rw [List.nodup_cons] at h
    rw [List.map_cons, List.nodup_cons]
    refine ⟨fun hm => ?_, nodup_map L h.2 (fun a ha b hb => hf a (List.mem_cons_of_mem _ ha) b (List.mem_cons_of_mem _ hb))⟩
    obtain ⟨y, hy, e⟩ := List.mem_map.mp hm
    have := hf y (List.mem_cons_of_mem _ hy) x List.mem_cons_self e
    subst this
    exact h.1 hy
theorem Crd.map {β : Type} {r : β → Prop} {f : α → β} (h : Crd p k) (h1 : ∀ a, p a → r (f a)) (h2 : ∀ b, r b → ∃ a, p a ∧ f a = b) (h3 : ∀ a b, p a → p b → f a = f b → a = b) : Crd r k := by
  obtain ⟨L, g1, g2, g3⟩ := h
  refine ⟨L.map f, by rw [List.length_map, g1], nodup_map L g2 (fun a ha b hb e => h3 a b ((g3 a).mp ha) ((g3 b).mp hb) e), fun b => ?_⟩
  rw [List.mem_map]
  constructor
  · rintro ⟨a, ha, rfl⟩
    exact h1 a ((g3 a).mp ha)
  · intro hb
    obtain ⟨a, ha, e⟩ := h2 b hb
    exact ⟨a, (g3 a).mpr ha, e⟩
end K
/-- the first ones of rows -/
def Ext1 (m : Nat) (φ ψ : Nat → Nat) : Prop := ∀ y, y < m → φ y = ψ y
def LexMin (n : Nat) (p : (Nat → Nat) → Prop) (φ : Nat → Nat) : Prop := p φ ∧ ∀ ψ, p ψ → Ext1 n φ ψ ∨ ∃ x, x < n ∧ Ext1 x φ ψ ∧ φ x < ψ x
theorem LexMin.uq {n : Nat} {p : (Nat → Nat) → Prop} {φ ψ : Nat → Nat} (h : LexMin n p φ) (h' : LexMin n p ψ) : Ext1 n φ ψ := by
  rcases h.2 ψ h'.1 with q | ⟨x, x1, x2, x3⟩
  · exact q
  · rcases h'.2 φ h.1 with q | ⟨y, y1, y2, y3⟩
    · exact fun z hz => (q z hz).symm
    · rcases Nat.lt_trichotomy x y with q | q | q
      · have := y2 x q; omega
      · subst q; omega
      · have := x2 y q; omega
theorem LexMin.cg {n : Nat} {p q : (Nat → Nat) → Prop} {φ : Nat → Nat} (h : LexMin n p φ) (hq : ∀ ψ, p ψ ↔ q ψ) : LexMin n q φ := ⟨(hq φ).mp h.1, fun ψ hp => h.2 ψ ((hq ψ).mpr hp)⟩
/-- the answer -/
noncomputable def lxa (n : Nat) (p : (Nat → Nat) → Prop) (x : Nat) : Int32 := @dite Int32 (∃ φ, LexMin n p φ) (Classical.propDecidable _) (fun h => nI (Classical.choose h x)) (fun _ => -1)
theorem lxa_t {n : Nat} {p : (Nat → Nat) → Prop} {φ : Nat → Nat} (h : LexMin n p φ) {x : Nat} (hx : x < n) : lxa n p x = nI (φ x) := by
  unfold lxa
  rw [dif_pos ⟨φ, h⟩]
  have := Classical.choose_spec (p := fun φ => LexMin n p φ) ⟨φ, h⟩
  rw [this.uq h x hx]
theorem lxa_f {n : Nat} {p : (Nat → Nat) → Prop} (h : ∀ φ, ¬ p φ) (x : Nat) : lxa n p x = -1 := dif_neg (fun ⟨φ, q⟩ => h φ q.1)
/-- on n places one to one: all are met -/
theorem z_surj {n : Nat} {f : Nat → Nat} (h1 : ∀ i, i < n → f i < n) (h2 : ∀ i j, i < n → j < n → f i = f j → i = j) {j : Nat} (hj : j < n) : ∃ i, i < n ∧ f i = j := by
  rcases Classical.em (∃ i, i < n ∧ f i = j) with q | q
  · exact q
  · exfalso
    have hne : ∀ i, i < n → f i ≠ j := fun i hi e => q ⟨i, hi, e⟩
    have := z_holes (n - 1) n (fun i => if f i = n - 1 then j else f i) (fun i hi => by
      have := h1 i hi
      have := hne i hi
      by_cases e : f i = n - 1
      · simp only [if_pos e]; omega
      · simp only [if_neg e]; omega) (fun a b hab hb e => by
      have ha' := hne a (by omega)
      have hb' := hne b hb
      by_cases e1 : f a = n - 1
      · by_cases e2 : f b = n - 1
        · have := h2 a b (by omega) hb (by omega); omega
        · simp only [if_pos e1, if_neg e2] at e; omega
      · by_cases e2 : f b = n - 1
        · simp only [if_neg e1, if_pos e2] at e; omega
        · simp only [if_neg e1, if_neg e2] at e
          have := h2 a b (by omega) hb e; omega)
    omega
theorem zcn_bij {n : Nat} {f : Nat → Nat} {p q : Nat → Prop} (h1 : ∀ i, i < n → f i < n) (h2 : ∀ i j, i < n → j < n → f i = f j → i = j) (hpq : ∀ i, i < n → (q (f i) ↔ p i)) : zcn q n = zcn p n := by
  have e1 : ∀ r : Nat → Prop, zcn r n = zc n (zset n r) := fun r => by
    rw [zc_zcn]
    exact zcn_congr (fun i hi => by rw [zset_bit]; exact ⟨fun w => ⟨hi, w⟩, fun w => w.2⟩)
  have e2 : zset n q = zim (fun i => (zset n p).testBit i) f n := by
    symm
    refine zset_eq (zim_lt (fun i hi _ => h1 i hi)) (fun j hj => ?_)
    rw [zim_bit]
    constructor
    · rintro ⟨i, hi, g1, rfl⟩
      exact (hpq i hi).mpr ((zset_bit _ _ _).mp g1).2
    · intro hq
      obtain ⟨i, hi, rfl⟩ := z_surj h1 h2 hj
      exact ⟨i, hi, (zset_bit _ _ _).mpr ⟨hi, (hpq i hi).mp hq⟩, rfl⟩
  rw [e1, e1, e2, zc_img n (fun i hi _ => h1 i hi) (fun i j hi hj _ _ e => h2 i j hi hj e)]
/-! PURE: group maps -/
def GM (n : Nat) (t t' : Nat → Nat → Nat) (φ : Nat → Nat) : Prop := (∀ x, n ≤ x → φ x = 0) ∧ (∀ x, x < n → φ x < n) ∧ (∀ x y, x < n → y < n → φ x = φ y → x = y) ∧ ∀ x y, x < n → y < n → φ (t x y) = t' (φ x) (φ y)
section GMs
variable {n : Nat} {t t' t'' : Nat → Nat → Nat} {iv iv' : Nat → Nat} {φ ψ : Nat → Nat}
theorem GM.lt (h : GM n t t' φ) {x : Nat} (hx : x < n) : φ x < n := h.2.1 x hx
theorem GM.inj (h : GM n t t' φ) {x y : Nat} (hx : x < n) (hy : y < n) (e : φ x = φ y) : x = y := h.2.2.1 x y hx hy e
theorem GM.m (h : GM n t t' φ) {x y : Nat} (hx : x < n) (hy : y < n) : φ (t x y) = t' (φ x) (φ y) := h.2.2.2 x y hx hy
theorem GM.z (h : GM n t t' φ) (hg : Grp n t iv) (hg' : Grp n t' iv') : φ 0 = 0 := by
  have h1 := h.m hg.pos hg.pos
  rw [hg.l0 hg.pos] at h1
  have h2 := h.lt hg.pos
  exact (hg'.cl h2 hg'.pos h2 (by rw [hg'.r0 h2]; exact h1)).symm
theorem GM.ext (h : GM n t t' φ) (h' : GM n t t' ψ) (he : ∀ x, x < n → φ x = ψ x) : φ = ψ := by
  funext x
  by_cases hx : x < n
  · exact he x hx
  · rw [h.1 x (by omega), h'.1 x (by omega)]
theorem GM.ivm (h : GM n t t' φ) (hg : Grp n t iv) (hg' : Grp n t' iv') {x : Nat} (hx : x < n) : φ (iv x) = iv' (φ x) := by
  refine hg'.iu (h.lt hx) (h.lt (hg.il hx)) ?_
  rw [← h.m hx (hg.il hx), hg.ri hx, h.z hg hg']
theorem GM.pw (h : GM n t t' φ) (hg : Grp n t iv) {x : Nat} (hx : x < n) (e : Nat) : φ (pw t x e) = pw t' (φ x) e := by
  induction e with
  | zero => rfl
  | succ e ih =>
    show φ (t (Jvm.Pilot.CStepNetsLaw_law_r4948_78c5f1.pw t x e) x) = _
    rw [h.m (pw_lt hg hx e) hx, ih]
    rfl
theorem GM.per (h : GM n t t' φ) (hg : Grp n t iv) (hg' : Grp n t' iv') {x : Nat} (hx : x < n) : per t' (φ x) = per t x := by
  obtain ⟨e, h1, h2, h3, h4⟩ := per_spec hg hx
  have hz := h.z hg hg'
  rw [h1]
  have : zleast (fun e => Jvm.Pilot.CStepNetsLaw_law_r4948_78c5f1.pw t' (φ x) e = 0) = e := zleast_eq (by rw [← h.pw hg hx, h3, hz]) (fun j hj q => by
    rw [← h.pw hg hx] at q
    exact h4 j hj (h.inj (pw_lt hg hx j) hg.pos (by rw [q, hz])))
  show zleast (fun e => Jvm.Pilot.CStepNetsLaw_law_r4948_78c5f1.pw t' (φ x) e = 0) + 1 = e + 1
  rw [this]
theorem GM.cls (h : GM n t t' φ) (hg : Grp n t iv) (hg' : Grp n t' iv') {x : Nat} (hx : x < n) : zc n (cls n t' iv' (φ x)) = zc n (cls n t iv x) := by
  have e : Jvm.Pilot.CStepNetsLaw_law_r4948_78c5f1.cls n t' iv' (φ x) = zim (fun i => (Jvm.Pilot.CStepNetsLaw_law_r4948_78c5f1.cls n t iv x).testBit i) φ n := by
    refine z_ext (cls_lt hg' (h.lt hx)) (zim_lt (fun i hi _ => h.lt hi)) (fun j hj => ?_)
    rw [Bool.eq_iff_iff, cls_bit, zim_bit]
    constructor
    · rintro ⟨g', hg1, rfl⟩
      obtain ⟨g, hg2, rfl⟩ := z_surj (fun i hi => h.lt hi) (fun i j hi hj e => h.inj hi hj e) hg1
      refine ⟨t (t (iv g) x) g, hg.lt (hg.lt (hg.il hg2) hx) hg2, cls_bit.mpr ⟨g, hg2, rfl⟩, ?_⟩
      rw [h.m (hg.lt (hg.il hg2) hx) hg2, h.m (hg.il hg2) hx, h.ivm hg hg' hg2]
    · rintro ⟨i, hi, hb, rfl⟩
      obtain ⟨g, hg2, rfl⟩ := cls_bit.mp hb
      exact ⟨φ g, h.lt hg2, by rw [h.m (hg.lt (hg.il hg2) hx) hg2, h.m (hg.il hg2) hx, h.ivm hg hg' hg2]⟩
  rw [e, zc_img n (fun i hi _ => h.lt hi) (fun i j hi hj _ _ e => h.inj hi hj e)]
theorem GM.mrk (h : GM n t t' φ) (hg : Grp n t iv) (hg' : Grp n t' iv') {x : Nat} (hx : x < n) : mrk n t' iv' (φ x) = mrk n t iv x := by
  show Jvm.Pilot.CStepNetsLaw_law_r4948_78c5f1.per t' (φ x) * 1024 + zc n (Jvm.Pilot.CStepNetsLaw_law_r4948_78c5f1.cls n t' iv' (φ x)) * 32 + zcn (fun y => t' y y = φ x) n = _
  rw [h.per hg hg' hx, h.cls hg hg' hx, zcn_bij (f := φ) (p := fun y => t y y = x) (fun i hi => h.lt hi) (fun i j hi hj e => h.inj hi hj e) (fun i hi => ?_)]
  · rfl
  · rw [← h.m hi hi]
    exact ⟨fun q => h.inj (hg.lt hi hi) hx q, fun q => by rw [q]⟩
/-- one after another -/
def cmp (n : Nat) (φ ψ : Nat → Nat) (x : Nat) : Nat := if x < n then ψ (φ x) else 0
theorem GM.cmp (hg : Grp n t iv) (h : GM n t t' φ) (h' : GM n t' t'' ψ) : GM n t t'' (cmp n φ ψ) := by
  refine ⟨fun x hx => if_neg (by omega), fun x hx => ?_, fun x y hx hy e => ?_, fun x y hx hy => ?_⟩
  · show (if x < n then ψ (φ x) else 0) < n
    rw [if_pos hx]; exact h'.lt (h.lt hx)
  · have e' : (if x < n then ψ (φ x) else 0) = (if y < n then ψ (φ y) else 0) := e
    rw [if_pos hx, if_pos hy] at e'
    exact h.inj hx hy (h'.inj (h.lt hx) (h.lt hy) e')
  · show (if t x y < n then ψ (φ (t x y)) else 0) = t'' (if x < n then ψ (φ x) else 0) (if y < n then ψ (φ y) else 0)
    rw [if_pos hx, if_pos hy, if_pos (hg.lt hx hy), h.m hx hy, h'.m (h.lt hx) (h.lt hy)]
/-- back -/
noncomputable def bck (n : Nat) (φ : Nat → Nat) (y : Nat) : Nat := if y < n then zleast (fun x => x < n ∧ φ x = y) else 0
theorem bck_spec (h1 : ∀ i, i < n → φ i < n) (h2 : ∀ i j, i < n → j < n → φ i = φ j → i = j) {y : Nat} (hy : y < n) : bck n φ y < n ∧ φ (bck n φ y) = y := by
  unfold bck
  rw [if_pos hy]
  exact (zleast_spec (p := fun x => x < n ∧ φ x = y) (z_surj h1 h2 hy)).1
theorem bck_of (h1 : ∀ i, i < n → φ i < n) (h2 : ∀ i j, i < n → j < n → φ i = φ j → i = j) {x : Nat} (hx : x < n) : bck n φ (φ x) = x := by
  obtain ⟨g1, g2⟩ := bck_spec h1 h2 (h1 x hx)
  exact h2 _ _ g1 hx g2
theorem GM.bck (hg : Grp n t iv) (hg' : Grp n t' iv') (h : GM n t t' φ) : GM n t' t (bck n φ) := by
  have s := fun y (hy : y < n) => bck_spec h.2.1 h.2.2.1 hy
  refine ⟨fun x hx => if_neg (by omega), fun x hx => (s x hx).1, fun x y hx hy e => ?_, fun x y hx hy => ?_⟩
  · rw [← (s x hx).2, ← (s y hy).2, e]
  · refine h.inj (s _ (hg'.lt hx hy)).1 (hg.lt (s x hx).1 (s y hy).1) ?_
    rw [(s _ (hg'.lt hx hy)).2, h.m (s x hx).1 (s y hy).1, (s x hx).2, (s y hy).2]
end GMs

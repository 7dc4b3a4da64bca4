/-! THE START: the heap at the law's entry as a memory -/
def s_in (ad : Nat → Nat) (h : Nat) : Nat → Bool
  | 0 => false
  | n + 1 => decide (h = ad n + 1) || s_in ad h n
theorem s_in_iff {ad : Nat → Nat} {h : Nat} : ∀ n, s_in ad h n = true ↔ ∃ i, i < n ∧ h = ad i + 1
  | 0 => ⟨fun q => (by cases q), fun ⟨_, q, _⟩ => absurd q (Nat.not_lt_zero _)⟩
  | n + 1 => by
    unfold s_in
    rw [Bool.or_eq_true, decide_eq_true_eq, s_in_iff n]
    constructor
    · rintro (q | ⟨i, q1, q2⟩)
      · exact ⟨n, Nat.lt_succ_self n, q⟩
      · exact ⟨i, by omega, q2⟩
    · rintro ⟨i, q1, q2⟩
      by_cases e : i = n
      · left; rw [← e]; exact q2
      · exact Or.inr ⟨i, by omega, q2⟩
theorem s_in_not {ad : Nat → Nat} {h n : Nat} (q : ∀ i, i < n → h ≠ ad i + 1) : s_in ad h n = false := by
  cases e : s_in ad h n with
  | false => rfl
  | true =>
    obtain ⟨i, q1, q2⟩ := (s_in_iff n).mp e
    exact absurd q2 (q i q1)
def s_vl (adK adV : Nat → Nat) (h : Nat) : Nat → Nat
  | 0 => 0
  | n + 1 => if h = adK n + 1 then adV n + 1 else s_vl adK adV h n
theorem s_vl_at {adK adV : Nat → Nat} : ∀ n i, i < n → (∀ i j, i < n → j < n → adK i = adK j → i = j) → s_vl adK adV (adK i + 1) n = adV i + 1
  | 0, i, h, _ => absurd h (Nat.not_lt_zero _)
  | n + 1, i, h, hj => by
    unfold s_vl
    by_cases e : i = n
    · rw [e, if_pos rfl]
    · rw [if_neg (fun q => e (hj i n h (Nat.lt_succ_self n) (by omega)))]
      exact s_vl_at n i (by omega) (fun i j q1 q2 q3 => hj i j (by omega) (by omega) q3)
def s_iv (o : Option Value) : Int32 := match o with
  | some (.int v) => v
  | _ => 0
def s_sz (o : Option Cell) : Nat := match o with
  | some c => c.slots.size.toInt32.toNatClampNeg
  | none => 0
def s_I (H : Heap) (adK : Nat → Nat) : zI := fun h j => if s_in adK h 10 = true then 0 else s_iv ((H[h - 1]?).bind (fun c => c.slots[j]?))
def s_kd (b ev : Nat) (adK adV : Nat → Nat) (h : Nat) : Nat := if h = b + 1 ∨ h = ev + 1 then 120 else if s_in adK h 10 = true then 22 else if s_in adV h 10 = true then 121 else 0
def s_rv (ev fo : Nat) (adK adV : Nat → Nat) (h k : Nat) : Nat := if h = 0 then (if k < 10 then adK k + 1 else if k = 20 then ev + 1 else fo) else s_vl adK adV h 10
def s_S (H : Heap) (b ev fo : Nat) (adK adV : Nat → Nat) : zS := (s_kd b ev adK adV, fun h => s_sz (H[h - 1]?), s_rv ev fo adK adV, H.size, 0, 0)
theorem s_kd_cs {b ev : Nat} {adK adV : Nat → Nat} (h : Nat) : s_kd b ev adK adV h = 0 ∨ (s_kd b ev adK adV h = 120 ∧ (h = b + 1 ∨ h = ev + 1)) ∨ (s_kd b ev adK adV h = 22 ∧ ∃ i, i < 10 ∧ h = adK i + 1) ∨ (s_kd b ev adK adV h = 121 ∧ ∃ i, i < 10 ∧ h = adV i + 1) := by
  unfold s_kd
  by_cases c1 : h = b + 1 ∨ h = ev + 1
  · rw [if_pos c1]; exact Or.inr (Or.inl ⟨rfl, c1⟩)
  · rw [if_neg c1]
    by_cases c2 : s_in adK h 10 = true
    · rw [if_pos c2]; exact Or.inr (Or.inr (Or.inl ⟨rfl, (s_in_iff 10).mp c2⟩))
    · rw [if_neg c2]
      by_cases c3 : s_in adV h 10 = true
      · rw [if_pos c3]; exact Or.inr (Or.inr (Or.inr ⟨rfl, (s_in_iff 10).mp c3⟩))
      · rw [if_neg c3]; exact Or.inl rfl
/-- an array that nobody writes, as the memory has it -/
theorem s_arr {s : State} {ty : FieldType} {t N : Nat} {g : Nat → Int32} {adK : Nat → Nat} (h : va_T ty t N (fun j => .int (g j)) (zB s) s s.heap) (hN : N < 2 ^ 31) (ht : s_in adK (t + 1) 10 = false) : s_sz (s.heap[t + 1 - 1]?) = N ∧ (∀ j, j < N → s_I s.heap adK (t + 1) j = g j) ∧ va_T ty t N (fun j => .int (s_I s.heap adK (t + 1) j)) (zB s) s s.heap ∧ t < s.heap.size := by
  obtain ⟨cell, h1, h2, h3, h4, h5, h6, h7⟩ := h
  have e : s.heap[t + 1 - 1]? = some cell := h1
  have hI : ∀ j, j < N → s_I s.heap adK (t + 1) j = g j := fun j hj => by
    unfold s_I
    rw [ht, if_neg (by decide), e]
    show s_iv (cell.slots[j]?) = g j
    rw [h6 j hj]
    rfl
  refine ⟨?_, hI, ⟨cell, h1, h2, h3, h4, h5, fun j hj => ?_, h7⟩, (Array.getElem?_eq_some_iff.mp h1).1⟩
  · rw [e]
    show cell.slots.size.toInt32.toNatClampNeg = N
    rw [h5]
    exact nI_clamp hN
  · show cell.slots[j]? = some (Value.int (s_I s.heap adK (t + 1) j))
    rw [hI j hj]; exact h6 j hj
theorem s_ints : ∀ j, j < 9 → kln (skx j) = s_len.getD j 0 ∧ ∀ i, i < s_len.getD j 0 → (s_byt.getD j []).getD i 0 = nI (kch (skx j) i) ∧ kch (skx j) i < 128 := by decide +kernel
theorem s_int9 : ∀ i, i < 34 → (s_byt.getD 9 []).getD i 0 = nI (kyc i) ∧ kyc i < 128 := by decide +kernel
theorem s_evn : ∀ k, k < 12 → s_ev.getD k 0 = nI (pck (evi k) 4) := by decide +kernel
theorem s_len_s : ∀ i : Nat, i < 10 → s_len.getD i 0 < 2 ^ 20 := by decide
/-- the memory at the law's entry -/
theorem s_start {b L : Nat} {xs : Nat → Int32} {s : State} {D : va_G} {cs : zCs} (hts : ∀ w ∈ lw_tbl, w.before #[Value.ref b] s = true) (hgv : (Jvm.Cond.and given_1 narrow_1).before #[Value.ref b] s = true) (hX : va_X b L xs s s.heap) (hL : L ≤ 3072) (hf : heapFits s = true) : ∃ (S : zS) (I : zI) (J : zJ), z_Abs s D cs S I J s.heap ∧ z_isI (z_kd S (b + 1)) = true ∧ z_ln S (b + 1) = L ∧ CN0 S I (z_sz S + 1) := by
  have hs : ∀ c ∈ s_fl, c.before #[Value.ref b] s = true := flat_of_before _ hgv
  have hA : ∀ a : Nat, a < s.heap.size → ¬ zB s a := fun a h => Nat.not_le.mpr h
  obtain ⟨adK, adV, hS, hev⟩ := vk_Sof (args := #[Value.ref b]) (s := s) (N := 10) (tm := s_tm) (len := s_len) (byt := s_byt) (A := zB s) s_len_lt (fun i hi => hs _ (s_ex i hi)) (fun i hi => hs _ (s_co i hi)) (fun i hi => hs _ (s_ar i hi)) (fun i hi => hs _ (s_le i hi)) (fun i hi j hj => hs _ (s_el i hi j hj)) (fun i j hi hj hne => (s_ne i hi j hj hne).imp (hs _) (hs _)) hA
  obtain ⟨ev, he1, hE⟩ := va_Tof (args := #[Value.ref b]) (s := s) (tm := s_et) (ty := .int) (N := 12) (f := fun j => .int (s_ev.getD j 0)) (A := zB s) (by decide) (hs _ s_eva) (va_eqt (hs _ s_evl)) (fun j hj => va_eqt (hs _ (s_evm j hj))) hA
  have zE : va_Z "StepNets" "EVEN_ORDERS" "[I" (.ref ev) (zB s) s s.heap := va_Zof (hts _ (z_tb 631 (by decide +kernel))) (hts _ (z_tb 1 (by decide +kernel))) he1 hA
  have zC : va_Z "java/lang/String" "COMPACT_STRINGS" "Z" (.int 1) (zB s) s s.heap := va_Zof (hts _ (z_tb 534 (by decide +kernel))) (hts _ (z_tb 16 (by decide +kernel))) (va_eqt (hs _ s_cmp)) hA
  obtain ⟨fo, zF⟩ : ∃ fo, va_Z "jdk/internal/util/Preconditions" "SIOOBE_FORMATTER" "Ljava/util/function/BiFunction;" (va_rf (z_op fo)) (zB s) s s.heap := by
    rcases va_Zqof (hts _ (z_tb 550 (by decide +kernel))) (hts _ (z_tb 18 (by decide +kernel))) (hs _ s_fmt) hA with q | ⟨t, q⟩
    · exact ⟨0, q⟩
    · exact ⟨t + 1, q⟩
  have hB : va_T .int b L (fun j => .int (xs j)) (zB s) s s.heap := by
    obtain ⟨scr, x1, x2, x3, x4, x5⟩ := hX
    exact ⟨scr, x1, x2, x3, (by omega), (by rw [x4]), x5, hA _ (Array.getElem?_eq_some_iff.mp x1).1⟩
  have nKb : ∀ i, i < 10 → b ≠ adK i := fun i hi e => s_apart hf (hS.1 i hi).2.2.1 (by rw [← e]; exact hB) (Or.inl rfl)
  have nKe : ∀ i, i < 10 → ev ≠ adK i := fun i hi e => s_apart hf (hS.1 i hi).2.2.1 (by rw [← e]; exact hE) (Or.inl rfl)
  have nKV : ∀ i, i < 10 → ∀ j, j < 10 → adV j ≠ adK i := fun i hi j hj e => s_apart hf (hS.1 i hi).2.2.1 (by rw [← e]; exact (hS.1 j hj).2.2.2) (Or.inr rfl)
  have nIB : ∀ {t N M : Nat} {f g : Nat → Value}, va_T .int t N f (zB s) s s.heap → va_T .byte t M g (zB s) s s.heap → False := fun {t N M f g} h1 h2 => by
    obtain ⟨c1, p1, ⟨_, k1, p2, m1, p3⟩, _⟩ := h1
    obtain ⟨c2, q1, ⟨_, k2, q2, m2, q3⟩, _⟩ := h2
    rw [p1] at q1; cases q1
    rw [p2] at q2; cases q2
    rw [p3] at q3; cases q3
  have nVb : ∀ j, j < 10 → adV j ≠ b := fun j hj e => nIB hB (by rw [← e]; exact (hS.1 j hj).2.2.2)
  have nVe : ∀ j, j < 10 → adV j ≠ ev := fun j hj e => nIB hE (by rw [← e]; exact (hS.1 j hj).2.2.2)
  have tb : s_in adK (b + 1) 10 = false := s_in_not (fun i hi e => nKb i hi (by omega))
  have te : s_in adK (ev + 1) 10 = false := s_in_not (fun i hi e => nKe i hi (by omega))
  have tV : ∀ j, j < 10 → s_in adK (adV j + 1) 10 = false := fun j hj => s_in_not (fun i hi e => nKV i hi j hj (by omega))
  have tK : ∀ j, j < 10 → s_in adK (adK j + 1) 10 = true := fun j hj => (s_in_iff 10).mpr ⟨j, hj, rfl⟩
  obtain ⟨b1, b2, b3, b4⟩ := s_arr hB (by omega) tb
  obtain ⟨e1, e2, e3, e4⟩ := s_arr hE (by decide) te
  have V : ∀ j, j < 10 → _ := fun j hj => s_arr (hS.1 j hj).2.2.2 (s_len_lt j hj) (tV j hj)
  have K : ∀ j, j < 10 → adK j < s.heap.size := fun j hj => by
    obtain ⟨c, q, _⟩ := (hS.1 j hj).1
    exact (Array.getElem?_eq_some_iff.mp q).1
  have kb : s_kd b ev adK adV (b + 1) = 120 := if_pos (Or.inl rfl)
  have ke : s_kd b ev adK adV (ev + 1) = 120 := if_pos (Or.inr rfl)
  have kK : ∀ j, j < 10 → s_kd b ev adK adV (adK j + 1) = 22 := fun j hj => by
    unfold s_kd
    rw [if_neg (fun q => q.elim (fun q => nKb j hj (by omega)) (fun q => nKe j hj (by omega))), if_pos (tK j hj)]
  have kV : ∀ j, j < 10 → s_kd b ev adK adV (adV j + 1) = 121 := fun j hj => by
    unfold s_kd
    rw [if_neg (fun q => q.elim (fun q => nVb j hj (by omega)) (fun q => nVe j hj (by omega))), if_neg (by rw [tV j hj]; decide), if_pos ((s_in_iff 10).mpr ⟨j, hj, rfl⟩)]
  have r0 : ∀ j, j < 10 → s_rv ev fo adK adV 0 j = adK j + 1 := fun j hj => by
    unfold s_rv; rw [if_pos rfl, if_pos hj]
  have rK : ∀ j, j < 10 → s_rv ev fo adK adV (adK j + 1) 0 = adV j + 1 := fun j hj => by
    unfold s_rv; rw [if_neg (by omega)]; exact s_vl_at 10 j hj hS.2
  have iK : ∀ j, j < 10 → ∀ k, s_I s.heap adK (adK j + 1) k = 0 := fun j hj k => if_pos (tK j hj)
  have str : ∀ j, j < 10 → ∀ f : Nat → Nat, (∀ i, i < s_len.getD j 0 → (s_byt.getD j []).getD i 0 = nI (f i) ∧ f i < 128) → Str (s_S s.heap b ev fo adK adV) (s_I s.heap adK) (z_rv (s_S s.heap b ev fo adK adV) 0 j) (s_len.getD j 0) f := fun j hj f hfi => by
    show Str _ _ (s_rv ev fo adK adV 0 j) _ _
    rw [r0 j hj]
    obtain ⟨v1, v2, v3, v4⟩ := V j hj
    refine ⟨kK j hj, iK j hj 1, ?_, ?_, ?_, s_len_s j hj⟩
    · show z_isB (s_kd b ev adK adV (s_rv ev fo adK adV (adK j + 1) 0)) = true
      rw [rK j hj, kV j hj]; rfl
    · show s_sz (s.heap[s_rv ev fo adK adV (adK j + 1) 0 - 1]?) = _
      rw [rK j hj]; exact v1
    · intro i hi
      show s_I s.heap adK (s_rv ev fo adK adV (adK j + 1) 0) i = _ ∧ _
      rw [rK j hj, v2 i hi]
      exact hfi i hi
  refine ⟨s_S s.heap b ev fo adK adV, s_I s.heap adK, fun _ _ => 0, ⟨rfl, Nat.le_refl _, fun _ _ => rfl, ?_, fun h hh => ?_, fun h hh => ?_, fun h hh h0 => ?_, ?_⟩, ?_, b1, ?_⟩
  · show s_kd b ev adK adV 0 = 0
    rcases s_kd_cs (b := b) (ev := ev) (adK := adK) (adV := adV) 0 with q | ⟨_, q⟩ | ⟨_, i, _, q⟩ | ⟨_, i, _, q⟩
    · exact q
    · omega
    · omega
    · omega
  · have hh : s.heap.size < h := hh
    show s_kd b ev adK adV h = 0
    rcases s_kd_cs (b := b) (ev := ev) (adK := adK) (adV := adV) h with q | ⟨_, q⟩ | ⟨_, i, hi, q⟩ | ⟨_, i, hi, q⟩
    · exact q
    · omega
    · have := K i hi; omega
    · have := (V i hi).2.2.2; omega
  · have hh : z_wk (s_kd b ev adK adV h) = true := hh
    rcases s_kd_cs (b := b) (ev := ev) (adK := adK) (adV := adV) h with q | ⟨q, _⟩ | ⟨q, _⟩ | ⟨q, _⟩ <;> (rw [q] at hh; exact absurd hh (by decide))
  · have h0 : s_kd b ev adK adV h ≠ 0 := h0
    rcases s_kd_cs (b := b) (ev := ev) (adK := adK) (adV := adV) h with q | ⟨q, q2⟩ | ⟨q, i, hi, q2⟩ | ⟨q, i, hi, q2⟩
    · exact absurd q h0
    · refine Or.inl ⟨q, ?_⟩
      show va_T .int (h - 1) (s_sz (s.heap[h - 1]?)) (fun j => .int (s_I s.heap adK h j)) (zB s) s s.heap
      rcases q2 with q2 | q2
      · subst q2; rw [b1]; exact b3
      · subst q2; rw [e1]; exact e3
    · refine Or.inr (Or.inr ⟨q, ?_⟩)
      subst q2
      obtain ⟨w1, w2, w3, _⟩ := hS.1 i hi
      refine ⟨w1, ?_, ?_⟩
      · rw [iK i hi 1]; exact w2
      · show va_OF _ _ _ (va_rf (z_op (s_rv ev fo adK adV (adK i + 1) 0))) _ _ _ _
        rw [rK i hi]; exact w3
    · refine Or.inr (Or.inl ⟨q, ?_⟩)
      subst q2
      show va_T .byte (adV i + 1 - 1) (s_sz (s.heap[adV i + 1 - 1]?)) (fun j => .int (s_I s.heap adK (adV i + 1) j)) (zB s) s s.heap
      rw [(V i hi).1]; exact (V i hi).2.2.1
  · refine ⟨fun k hk => ⟨adK k, r0 k hk, vk_R.of (hts _ (s_sr k hk)) (hev k hk)⟩, zC, zE, zF⟩
  · show z_isI (s_kd b ev adK adV (b + 1)) = true
    rw [kb]; rfl
  · refine ⟨Nat.succ_pos _, fun j hj => ?_, str 9 (by decide) kyc s_int9, ⟨ke, e1, fun k hk => by rw [← s_evn k hk]; exact e2 k hk⟩, fun j hj => ⟨?_, ?_⟩, ?_⟩
    · rw [(s_ints j hj).1]
      exact str j (by omega) _ (s_ints j hj).2
    · show s_rv ev fo adK adV 0 j < s.heap.size + 1
      rw [r0 j hj]; have := K j hj; omega
    · show s_rv ev fo adK adV (s_rv ev fo adK adV 0 j) 0 < s.heap.size + 1
      rw [r0 j hj, rK j hj]; have := (V j hj).2.2.2; omega
    · show ev + 1 < s.heap.size + 1
      omega

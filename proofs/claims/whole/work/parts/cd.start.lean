/-! THE START: what the Statement says of the tables and the constants -/
def z_gw (w : Cond) : Bool := match w with
  | .arrayClass _ => true
  | .arrayOver _ => true
  | .stringRef _ _ _ => true
  | .laysStatic _ _ _ => true
  | v => v.onTables
theorem z_good : ∀ w ∈ lw_tbl, z_gw w = true := List.all_eq_true.mp (by decide +kernel)
/-- the tables' words don't speak of the arguments -/
theorem z_gwa {w : Cond} (h : z_gw w = true) {A B : Array Value} {s : State} (hb : w.before A s = true) : w.before B s = true := by
  cases w <;> first | exact va_tabs h rfl hb | exact (Bool.noConfusion (h : false = true)) | exact hb | (simp [z_gw, Cond.onTables] at h)
theorem z_tb {w : Cond} (i : Nat) (h : tables_1[i]? = some w) : w ∈ lw_tbl := List.mem_append_right _ (List.mem_of_getElem? h)
/-- classes and array classes as the tables have them -/
theorem z_world {b : Nat} {s : State} (hts : ∀ w ∈ lw_tbl, w.before #[Value.ref b] s = true) : ∃ (D : va_G) (cs : zCs), z_World s D cs := by
  have h0 : ∀ ci : Nat, ∃ q : ClassId × (Nat → Nat), ci < 13 → u_Kn s (z_cn ci) (z_T ci) (z_nf ci) q.1 q.2 := by
    intro ci
    by_cases hi : ci < 13
    · obtain ⟨cC, iS, h⟩ := u_known (C := z_cn ci) (T := z_T ci) (N := z_nf ci) (n := z_nf ci) hts (fun w hw => (z_lays ci hi w hw).1) (hts _ (z_cll_use ci hi).1)
      exact ⟨(cC, iS), fun _ => h⟩
    · exact ⟨(0, fun _ => 0), fun h => absurd h hi⟩
  obtain ⟨f, hf⟩ := Classical.axiomOfChoice h0
  obtain ⟨c1, k1, m1, a1, a2, a3⟩ := Cond.arrayClass_spec (args := #[Value.ref b]) (first := s) (o := none) (s := s) (idx := []) (hts (Cond.arrayClass .int) (z_tb 70 (by decide +kernel)))
  obtain ⟨c2, k2, m2, b1, b2, b3⟩ := Cond.arrayClass_spec (args := #[Value.ref b]) (first := s) (o := none) (s := s) (idx := []) (hts (Cond.arrayClass .byte) (z_tb 69 (by decide +kernel)))
  obtain ⟨m3, c3, k3, d1, -, d2, d3, d4⟩ := Cond.arrayOver_spec (args := #[Value.ref b]) (first := s) (o := none) (s := s) (idx := []) (hts (Cond.arrayOver (.object "StepNets$Network")) (z_tb 224 (by decide +kernel)))
  obtain ⟨m4, c4, k4, e1, -, e2, e3, e4⟩ := Cond.arrayOver_spec (args := #[Value.ref b]) (first := s) (o := none) (s := s) (idx := []) (hts (Cond.arrayOver (.object "StepNets$Group")) (z_tb 323 (by decide +kernel)))
  refine ⟨(fun k => (f k).1, fun k => (f k).2), (c1, c2, c3, c4), fun w hw => z_gwa (z_good w hw) (hts w hw), fun c q hq => ?_, fun k q hq => ?_⟩
  · have hc : c < 13 := (List.getElem?_eq_some_iff.mp hq).1
    rw [z_cl_at c hc] at hq
    cases hq
    exact hf c hc
  · match k, hq with
    | 0, hq => cases hq; exact ⟨fun n z => ⟨fun k h => by simp [arrV] at h, k1, a2, m1, a3⟩, a1⟩
    | 1, hq => cases hq; exact ⟨fun n z => ⟨fun k h => by simp [arrV] at h, k2, b2, m2, b3⟩, b1⟩
    | 2, hq => cases hq; exact ⟨fun n z => ⟨fun k h => by simp [arrV] at h, k3, d2, m3, d3⟩, ⟨k3, m3, d2, d3, d1, d4⟩⟩
    | 3, hq => cases hq; exact ⟨fun n z => ⟨fun k h => by simp [arrV] at h, k4, e2, m4, e3⟩, ⟨k4, m4, e2, e3, e1, e4⟩⟩
    | n + 4, hq => cases hq
/-- the constants' texts -/
def s_tm (i : Nat) : Term := Term.string (z_sow i).1 (z_sow i).2.1
def s_len : List Nat := [5, 4, 5, 5, 1, 1, 1, 1, 1, 34]
def s_byt : List (List Int32) := [[115, 116, 101, 112, 115], [98, 111, 116, 104], [103, 114, 111, 117, 112], [112, 101, 114, 109, 115], [120], [99], [100], [113], [97], [32, 103, 114, 111, 117, 112, 32, 112, 101, 114, 109, 115, 32, 115, 116, 101, 112, 115, 32, 98, 111, 116, 104, 32, 120, 32, 99, 32, 100, 32, 113, 32, 97, 32]]
def s_ev : List Int32 := [83, 153, 202, 538, 643, 720, 1035, 1112, 1217, 1553, 1602, 1672]
def s_fl : List Cond := flatC (Jvm.Cond.and given_1 narrow_1)
def s_et : Term := Term.static "StepNets" "EVEN_ORDERS" "[I"
theorem s_ex : ∀ i : Nat, i < 10 → Cond.exactly (s_tm i) "java/lang/String" ∈ s_fl := by decide +kernel
theorem s_co : ∀ i : Nat, i < 10 → Cond.eq (.field (s_tm i) "java/lang/String" "coder" "B") (.int 0) ∈ s_fl := by decide +kernel
theorem s_ar : ∀ i : Nat, i < 10 → Cond.arrayOf (.field (s_tm i) "java/lang/String" "value" "[B") .byte ∈ s_fl := by decide +kernel
theorem s_le : ∀ i : Nat, i < 10 → Cond.eq (.length (.field (s_tm i) "java/lang/String" "value" "[B")) (.int (Int32.ofNat (s_len.getD i 0))) ∈ s_fl := by decide +kernel
theorem s_el : ∀ i : Nat, i < 10 → ∀ j : Nat, j < s_len.getD i 0 → Cond.eq (.elem (.field (s_tm i) "java/lang/String" "value" "[B") (.int (Int32.ofNat j))) (.int ((s_byt.getD i []).getD j 0)) ∈ s_fl := by decide +kernel
theorem s_ne : ∀ i : Nat, i < 10 → ∀ j : Nat, j < 10 → i ≠ j → (Cond.not (Cond.eq (s_tm i) (s_tm j)) ∈ s_fl ∨ Cond.not (Cond.eq (s_tm j) (s_tm i)) ∈ s_fl) := by decide +kernel
theorem s_evm : ∀ j : Nat, j < 12 → Cond.eq (.elem s_et (.int (Int32.ofNat j))) (.int (s_ev.getD j 0)) ∈ s_fl := by decide +kernel
theorem s_eva : Cond.arrayOf s_et .int ∈ s_fl := by decide +kernel
theorem s_evl : Cond.eq (.length s_et) (.int (Int32.ofNat 12)) ∈ s_fl := by decide +kernel
theorem s_cmp : Cond.eq (Term.static "java/lang/String" "COMPACT_STRINGS" "Z") (.int 1) ∈ s_fl := by decide +kernel
theorem s_fmt : Cond.isRef (Term.static "jdk/internal/util/Preconditions" "SIOOBE_FORMATTER" "Ljava/util/function/BiFunction;") ∈ s_fl := by decide +kernel
theorem s_len_lt : ∀ i : Nat, i < 10 → s_len.getD i 0 < 2 ^ 31 := by decide
theorem s_sr : ∀ k : Nat, k < 10 → Cond.stringRef (z_sow k).1 (z_sow k).2.1 (z_sow k).2.2 ∈ lw_tbl
  | 0, _ => z_tb 520 (by decide +kernel)
  | 1, _ => z_tb 590 (by decide +kernel)
  | 2, _ => z_tb 595 (by decide +kernel)
  | 3, _ => z_tb 596 (by decide +kernel)
  | 4, _ => z_tb 632 (by decide +kernel)
  | 5, _ => z_tb 613 (by decide +kernel)
  | 6, _ => z_tb 614 (by decide +kernel)
  | 7, _ => z_tb 615 (by decide +kernel)
  | 8, _ => z_tb 616 (by decide +kernel)
  | 9, _ => z_tb 1282 (by decide +kernel)
  | n + 10, h => absurd h (by omega)
/-- a text is no array of numbers -/
theorem s_apart {s : State} (hf : heapFits s = true) {o n d : String} {v t N : Nat} {ty : FieldType} {f : Nat → Value} {A B : Nat → Prop} (h1 : va_OF o n d (.ref v) t A s s.heap) (h2 : va_T ty t N f B s s.heap) (hty : ty = .int ∨ ty = .byte) : False := by
  obtain ⟨cf, k, i, fd, cell, -, -, hc, -, hsl, -⟩ := h1
  obtain ⟨cell', hc', ⟨hst, kk, hk, comp, hkind⟩, -⟩ := h2
  rw [hc] at hc'
  cases hc'
  have hfit : cellFits s cell = true := by
    obtain ⟨ht, he⟩ := Array.getElem?_eq_some_iff.mp hc
    have := (Array.all_eq_true_iff_forall_mem.mp hf) _ (Array.getElem_mem ht)
    rw [he] at this
    exact this
  have hlt := (Array.getElem?_eq_some_iff.mp hsl).1
  have h3 := List.all_eq_true.mp hfit fd.slot (List.mem_range.mpr hlt)
  simp only [hsl] at h3
  have h4 : s.slotType? cell.cls cell.vm fd.slot = some ty := by
    unfold State.slotType?
    rw [hk]
    cases hv : cell.vm with
    | statics q => exact absurd hv (hst q)
    | _ => simp [hkind]
  unfold State.fitsSlot at h3
  rw [h4] at h3
  rcases hty with e | e
  · subst e; cases h3
  · subst e; cases h3

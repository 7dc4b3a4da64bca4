/-! SOUNDNESS, first part: what a memory says of a heap; the instructions that touch the heap -/
abbrev zB (s0 : State) : Nat → Prop := fun q => s0.heap.size ≤ q
abbrev zCs : Type := ClassId × ClassId × ClassId × ClassId
abbrev z_tys (cs : zCs) : List (ClassId × FieldType) := [(cs.1, .int), (cs.2.1, .byte), (cs.2.2.1, .object "StepNets$Network"), (cs.2.2.2, .object "StepNets$Group")]
def z_World (s0 : State) (D : va_G) (cs : zCs) : Prop := (∀ w ∈ lw_tbl, w.before #[] s0 = true) ∧ va_K D z_cl (z_tys cs) s0
def z_op (h : Nat) : Option Nat := match h with
  | 0 => none
  | n + 1 => some n
def z_cv (v : Value) : Value := match v with
  | .ref h => va_rf (z_op h)
  | w => w
def z_fv (S : zS) (I : zI) (J : zJ) (h j t : Nat) : Value := match t with
  | 1 => .long (J h j)
  | 2 => va_rf (z_op (z_rv S h j))
  | _ => .int (I h j)
def z_flds (S : zS) (I : zI) (J : zJ) (h ci : Nat) : List Value := (List.range (z_nf ci)).map (fun j => z_fv S I J h j (z_tc (z_ty ci j)))
def z_enc (cs : zCs) (S : zS) (I : zI) (J : zJ) (h : Nat) : va_E :=
  if z_kd S h = 100 then .inl (cs.1, z_ln S h, .inl (I h))
  else if z_kd S h = 101 then .inl (cs.2.1, z_ln S h, .inl (I h))
  else if z_kd S h = 102 then .inl (cs.2.2.1, z_ln S h, .inr (.inr (.inr (.inr (fun i => z_op (z_rv S h i))))))
  else if z_kd S h = 103 then .inl (cs.2.2.2, z_ln S h, .inr (.inr (.inr (.inr (fun i => z_op (z_rv S h i))))))
  else .inr (z_kd S h - 1, z_flds S I J h (z_kd S h - 1))
def z_wk (k : Nat) : Bool := (Nat.blt 0 k && Nat.ble k 13) || (Nat.ble 100 k && Nat.ble k 103)
/-- what nobody writes: the script, the constants' texts, a static array -/
def z_RO (s0 : State) (S : zS) (I : zI) (h : Nat) : Prop :=
  (z_kd S h = 120 ∧ va_T .int (h - 1) (z_ln S h) (fun j => .int (I h j)) (zB s0) s0 s0.heap) ∨
  (z_kd S h = 121 ∧ va_T .byte (h - 1) (z_ln S h) (fun j => .int (I h j)) (zB s0) s0 s0.heap) ∨
  (z_kd S h = 22 ∧ va_O "java/lang/String" (h - 1) (zB s0) s0 s0.heap ∧ va_OF "java/lang/String" "coder" "B" (.int (I h 1)) (h - 1) (zB s0) s0 s0.heap ∧ va_OF "java/lang/String" "value" "[B" (va_rf (z_op (z_rv S h 0))) (h - 1) (zB s0) s0 s0.heap)
def z_sow (k : Nat) : String × Nat × String := match k with
  | 0 => ("StepNets$TextReader", 74, "steps")
  | 1 => ("StepNets$TextReader", 82, "both")
  | 2 => ("StepNets$TextReader", 90, "group")
  | 3 => ("StepNets$TextReader", 91, "perms")
  | 4 => ("StepNets$TextReader", 120, "x")
  | 5 => ("StepNets$TextReader", 134, "c")
  | 6 => ("StepNets$TextReader", 136, "d")
  | 7 => ("StepNets$TextReader", 138, "q")
  | 8 => ("StepNets$TextReader", 140, "a")
  | 9 => ("StepNetsModel", 98, " group perms steps both x c d q a ")
  | _ => ("", 0, "")
def z_Gl (s0 : State) (S : zS) : Prop :=
  (∀ k, k < 10 → ∃ a, z_rv S 0 k = a + 1 ∧ vk_R (z_sow k).1 (z_sow k).2.1 (z_sow k).2.2 a s0) ∧
  va_Z "java/lang/String" "COMPACT_STRINGS" "Z" (.int 1) (zB s0) s0 s0.heap ∧
  va_Z "StepNets" "EVEN_ORDERS" "[I" (va_rf (z_op (z_rv S 0 20))) (zB s0) s0 s0.heap ∧
  va_Z "jdk/internal/util/Preconditions" "SIOOBE_FORMATTER" "Ljava/util/function/BiFunction;" (va_rf (z_op (z_rv S 0 21))) (zB s0) s0 s0.heap
/-- the heap is as the memory says; old cells are as they were at the law's start s0 -/
def z_Abs (s0 : State) (D : va_G) (cs : zCs) (S : zS) (I : zI) (J : zJ) (H : Heap) : Prop :=
  H.size = z_sz S ∧ s0.heap.size ≤ H.size ∧ (∀ q, q < s0.heap.size → H[q]? = s0.heap[q]?) ∧ z_kd S 0 = 0 ∧ (∀ h, z_sz S < h → z_kd S h = 0) ∧
  (∀ h, z_wk (z_kd S h) = true → s0.heap.size < h ∧ va_at D z_cl (h - 1, z_enc cs S I J h) H) ∧
  (∀ h, z_wk (z_kd S h) = false → z_kd S h ≠ 0 → z_RO s0 S I h) ∧ z_Gl s0 S
theorem z_cl_at : ∀ ci, ci < 13 → z_cl[ci]? = some (z_cn ci, z_T ci, z_nf ci)
  | 0, _ => rfl
  | 1, _ => rfl
  | 2, _ => rfl
  | 3, _ => rfl
  | 4, _ => rfl
  | 5, _ => rfl
  | 6, _ => rfl
  | 7, _ => rfl
  | 8, _ => rfl
  | 9, _ => rfl
  | 10, _ => rfl
  | 11, _ => rfl
  | 12, _ => rfl
  | n + 13, h => absurd h (by omega)
theorem z_lays : ∀ ci, ci < 13 → ∀ w ∈ u_ws (z_cn ci) (z_T ci) (z_nf ci), w ∈ lw_tbl ∧ goodWord w = true
  | 0, _ => fun w h => ⟨z_in0 w h, List.all_eq_true.mp (by decide +kernel : (u_ws RX0 TX0 9).all goodWord = true) w h⟩
  | 1, _ => fun w h => ⟨z_in1 w h, List.all_eq_true.mp (by decide +kernel : (u_ws RX1 TX1 12).all goodWord = true) w h⟩
  | 2, _ => fun w h => ⟨z_in2 w h, List.all_eq_true.mp (by decide +kernel : (u_ws RX2 TX2 9).all goodWord = true) w h⟩
  | 3, _ => fun w h => ⟨z_in3 w h, List.all_eq_true.mp (by decide +kernel : (u_ws RX3 TX3 9).all goodWord = true) w h⟩
  | 4, _ => fun w h => ⟨z_in4 w h, List.all_eq_true.mp (by decide +kernel : (u_ws RX4 TX4 5).all goodWord = true) w h⟩
  | 5, _ => fun w h => ⟨z_in5 w h, List.all_eq_true.mp (by decide +kernel : (u_ws RX5 TX5 5).all goodWord = true) w h⟩
  | 6, _ => fun w h => ⟨z_in6 w h, List.all_eq_true.mp (by decide +kernel : (u_ws RX6 TX6 3).all goodWord = true) w h⟩
  | 7, _ => fun w h => ⟨z_in7 w h, List.all_eq_true.mp (by decide +kernel : (u_ws RX7 TX7 8).all goodWord = true) w h⟩
  | 8, _ => fun w h => ⟨z_in8 w h, List.all_eq_true.mp (by decide +kernel : (u_ws RX8 TX8 11).all goodWord = true) w h⟩
  | 9, _ => fun w h => ⟨z_in9 w h, List.all_eq_true.mp (by decide +kernel : (u_ws RX9 TX9 6).all goodWord = true) w h⟩
  | 10, _ => fun w h => ⟨z_in10 w h, List.all_eq_true.mp (by decide +kernel : (u_ws RX10 TX10 7).all goodWord = true) w h⟩
  | 11, _ => fun w h => ⟨z_in11 w h, List.all_eq_true.mp (by decide +kernel : (u_ws RX11 TX11 16).all goodWord = true) w h⟩
  | 12, _ => fun w h => ⟨z_in12 w h, List.all_eq_true.mp (by decide +kernel : (u_ws RX12 TX12 36).all goodWord = true) w h⟩
  | n + 13, h => absurd h (by omega)
theorem z_tyok : ∀ ci, ci < 13 → ∀ k, k < z_nf ci → parseFieldDescriptor (z_T ci k).2.2.1 = some (z_ty ci k)
  | 0, _ => tyX0_ok
  | 1, _ => tyX1_ok
  | 2, _ => tyX2_ok
  | 3, _ => tyX3_ok
  | 4, _ => tyX4_ok
  | 5, _ => tyX5_ok
  | 6, _ => tyX6_ok
  | 7, _ => tyX7_ok
  | 8, _ => tyX8_ok
  | 9, _ => tyX9_ok
  | 10, _ => tyX10_ok
  | 11, _ => tyX11_ok
  | 12, _ => tyX12_ok
  | n + 13, h => absurd h (by omega)
theorem z_nmok : ∀ ci, ci < 13 → ∀ a, a < z_nf ci → ∀ b, b < z_nf ci → a ≠ b → (z_T ci a).2.1 ≠ (z_T ci b).2.1
  | 0, _ => nmX0
  | 1, _ => nmX1
  | 2, _ => nmX2
  | 3, _ => nmX3
  | 4, _ => nmX4
  | 5, _ => nmX5
  | 6, _ => nmX6
  | 7, _ => nmX7
  | 8, _ => nmX8
  | 9, _ => nmX9
  | 10, _ => nmX10
  | 11, _ => nmX11
  | 12, _ => nmX12
  | n + 13, h => absurd h (by omega)
theorem z_dclok : ∀ ci, ci < 13 → ∀ k, k < z_nf ci → (z_T ci k).1 = z_cn ci
  | 0, _ => fun k h => (by decide +kernel : ∀ k, k < 9 → (TX0 k).1 = RX0) k h
  | 1, _ => fun k h => (by decide +kernel : ∀ k, k < 12 → (TX1 k).1 = RX1) k h
  | 2, _ => fun k h => (by decide +kernel : ∀ k, k < 9 → (TX2 k).1 = RX2) k h
  | 3, _ => fun k h => (by decide +kernel : ∀ k, k < 9 → (TX3 k).1 = RX3) k h
  | 4, _ => fun k h => (by decide +kernel : ∀ k, k < 5 → (TX4 k).1 = RX4) k h
  | 5, _ => fun k h => (by decide +kernel : ∀ k, k < 5 → (TX5 k).1 = RX5) k h
  | 6, _ => fun k h => (by decide +kernel : ∀ k, k < 3 → (TX6 k).1 = RX6) k h
  | 7, _ => fun k h => (by decide +kernel : ∀ k, k < 8 → (TX7 k).1 = RX7) k h
  | 8, _ => fun k h => (by decide +kernel : ∀ k, k < 11 → (TX8 k).1 = RX8) k h
  | 9, _ => fun k h => (by decide +kernel : ∀ k, k < 6 → (TX9 k).1 = RX9) k h
  | 10, _ => fun k h => (by decide +kernel : ∀ k, k < 7 → (TX10 k).1 = RX10) k h
  | 11, _ => fun k h => (by decide +kernel : ∀ k, k < 16 → (TX11 k).1 = RX11) k h
  | 12, _ => fun k h => (by decide +kernel : ∀ k, k < 36 → (TX12 k).1 = RX12) k h
  | n + 13, h => absurd h (by omega)
theorem z_flds_at {S : zS} {I : zI} {J : zJ} {h ci k : Nat} (hk : k < z_nf ci) : (z_flds S I J h ci)[k]? = some (z_fv S I J h k (z_tc (z_ty ci k))) := by
  unfold z_flds
  rw [List.getElem?_map, List.getElem?_range hk]
  rfl
theorem z_flds_len {S : zS} {I : zI} {J : zJ} {h ci : Nat} : (z_flds S I J h ci).length = z_nf ci := by
  unfold z_flds
  rw [List.length_map, List.length_range]
theorem z_enc_obj {cs : zCs} {S : zS} {I : zI} {J : zJ} {h t : Nat} (hk : z_kd S h = t) (h1 : 0 < t) (h2 : t ≤ 13) : z_enc cs S I J h = .inr (t - 1, z_flds S I J h (t - 1)) := by
  subst hk
  unfold z_enc
  rw [if_neg (by omega), if_neg (by omega), if_neg (by omega), if_neg (by omega)]
theorem z_wk_obj {t : Nat} (h1 : 0 < t) (h2 : t ≤ 13) : z_wk t = true := by
  unfold z_wk
  simp [Nat.blt_eq, h1, h2]
theorem z_at_s {s0 s : State} {D : va_G} {cs : zCs} {args : Array Value} {w : Cond} (hw : z_World s0 D cs) (hW : s0.WarmedH s.vm) (hm : w ∈ lw_tbl) (hg : goodWord w = true) : w.before args s = true := word_at hW (good_of_word hg) (hw.1 w hm)
section ZH
variable {p : Program} {l : Launch} {e : Env} {R : Room} {s s0 : State} {m : MethodId} {args : Array Value} {below : List Frame} {meth : Method} {c : Code} {H : Heap} {locs : List Loc} {cells slots : Nat} {Q : State → Prop}
variable {cc : ByteArray} {pc : Nat} {ls : Array Slot} {rest : List Value} {D : va_G} {cs : zCs} {S : zS} {I : zI} {J : zJ}
theorem z_obj (hA : z_Abs s0 D cs S I J H) {h t : Nat} (hk : z_kd S h = t) (h1 : 0 < t) (h2 : t ≤ 13) : va_P D z_cl [(h - 1, .inr (t - 1, z_flds S I J h (t - 1)))] H ∧ s0.heap.size < h := by
  obtain ⟨a1, a2⟩ := hA.2.2.2.2.2.1 h (by rw [hk]; exact z_wk_obj h1 h2)
  refine ⟨fun k q hq => ?_, a1⟩
  have hz : k < 1 := (List.getElem?_eq_some_iff.mp hq).1
  rw [show k = 0 by omega] at hq
  cases hq
  rw [z_enc_obj hk h1 h2] at a2
  exact a2
theorem z_hn {h a : Nat} (h1 : a < h) : z_op h = some (h - 1) := by
  cases h with
  | zero => omega
  | succ n => rfl
theorem z_cvr {h a : Nat} (h1 : a < h) : z_cv (.ref h) = .ref (h - 1) := by
  show va_rf (z_op h) = _
  rw [z_hn h1]; rfl
theorem z_getf (hw : z_World s0 D cs) (hW : s0.WarmedH s.vm) (hexec : p.tables.exec = Jvm.exec) (hb : c.code = cc) {o k t j : Nat} (hown : s.vm.findClass (z_cn o) = some m.cls) (hA : z_Abs s0 D cs S I J H) {h : Nat} (hk : z_kd S h = t) (h1 : 0 < t) (h2 : t ≤ 13) (hj : j < z_nf (t - 1))
    (hlink : Cond.fieldLink (z_cn o) k (z_T (t - 1) j).1 (z_T (t - 1) j).2.1 (z_T (t - 1) j).2.2.1 ∈ lw_tbl) (hdg : decode cc pc = .ok (.getfield k, 3))
    (kk : W p l e R s m args below meth c H locs cells slots Q (F0 m (pc + 3) ls (z_fv S I J h j (z_tc (z_ty (t - 1) j)) :: rest))) : W p l e R s m args below meth c H locs cells slots Q (F0 m pc ls (z_cv (.ref h) :: rest)) := by
  obtain ⟨hP, hlt⟩ := z_obj hA hk h1 h2
  rw [z_cvr hlt]
  exact va_get (tys := z_tys cs) (D := D) (cl := z_cl) (Ts := u_ws (z_cn (t - 1)) (z_T (t - 1)) (z_nf (t - 1))) hexec hb (fun w hm => z_at_s hw hW (z_lays (t - 1) (by omega) w hm).1 (z_lays (t - 1) (by omega) w hm).2) (fun w hm => hm) hown (hw.2.moved hW.alike) hP 0 rfl (z_cl_at (t - 1) (by omega)) j hj (z_at_s hw hW hlink rfl) (fun x hx => hx) (z_flds_at hj) hdg kk
end ZH

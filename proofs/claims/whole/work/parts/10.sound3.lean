/-! SOUNDNESS, third part: arrays, new cells -/
theorem z_kd_new {S : zS} {k n m : Nat} : z_kd (z_new S k n m) (z_sz S + 1) = k := by simp [z_kd, z_new, z_u1, z_sz]
theorem z_kd_nev {S : zS} {k n m a : Nat} (h : a ≠ z_sz S + 1) : z_kd (z_new S k n m) a = z_kd S a := by
  have h' : a ≠ S.2.2.2.1 + 1 := h
  simp [z_kd, z_new, z_u1, h']
theorem z_ln_new {S : zS} {k n m : Nat} : z_ln (z_new S k n m) (z_sz S + 1) = n := by simp [z_ln, z_new, z_u1, z_sz]
theorem z_ln_nev {S : zS} {k n m a : Nat} (h : a ≠ z_sz S + 1) : z_ln (z_new S k n m) a = z_ln S a := by
  have h' : a ≠ S.2.2.2.1 + 1 := h
  simp [z_ln, z_new, z_u1, h']
theorem z_rv_new {S : zS} {k n m j : Nat} : z_rv (z_new S k n m) (z_sz S + 1) j = 0 := by simp [z_rv, z_new, z_ur, z_sz]
theorem z_rv_nev {S : zS} {k n m a j : Nat} (h : a ≠ z_sz S + 1) : z_rv (z_new S k n m) a j = z_rv S a j := by
  have h' : a ≠ S.2.2.2.1 + 1 := h
  simp [z_rv, z_new, z_ur, h']
theorem z_sz_new {S : zS} {k n m : Nat} : z_sz (z_new S k n m) = z_sz S + 1 := rfl
theorem z_ce_new {S : zS} {k n m : Nat} : z_ce (z_new S k n m) = z_ce S + 1 := rfl
theorem z_sl_new {S : zS} {k n m : Nat} : z_sl (z_new S k n m) = z_sl S + m := rfl
theorem z_kd_setR {S : zS} {h k v a : Nat} : z_kd (z_setR S h k v) a = z_kd S a := rfl
theorem z_ln_setR {S : zS} {h k v a : Nat} : z_ln (z_setR S h k v) a = z_ln S a := rfl
theorem z_sz_setR {S : zS} {h k v : Nat} : z_sz (z_setR S h k v) = z_sz S := rfl
theorem z_ce_setR {S : zS} {h k v : Nat} : z_ce (z_setR S h k v) = z_ce S := rfl
theorem z_sl_setR {S : zS} {h k v : Nat} : z_sl (z_setR S h k v) = z_sl S := rfl
theorem z_rv_setR {S : zS} {h k v a j : Nat} : z_rv (z_setR S h k v) a j = if a = h then (if j = k then v else z_rv S a j) else z_rv S a j := rfl
theorem z_u2_ne {α : Type} {f : Nat → Nat → α} {h k a j : Nat} {v : α} (hne : a ≠ h) : z_u2 f h k v a j = f a j := by simp [z_u2, hne]
theorem z_u2_same {α : Type} {f : Nat → Nat → α} {h k : Nat} {v : α} : z_u2 f h k v h k = v := by simp [z_u2]
theorem z_u2_nk {α : Type} {f : Nat → Nat → α} {h k a j : Nat} {v : α} (hne : j ≠ k) : z_u2 f h k v a j = f a j := by simp [z_u2, hne]
theorem z_ur_ne {α : Type} {f : Nat → Nat → α} {h a j : Nat} {g : Nat → α} (hne : a ≠ h) : z_ur f h g a j = f a j := by simp [z_ur, hne]
theorem z_ur_same {α : Type} {f : Nat → Nat → α} {h j : Nat} {g : Nat → α} : z_ur f h g h j = g j := by simp [z_ur]
section ZA
variable {p : Program} {l : Launch} {e : Env} {R : Room} {s s0 : State} {m : MethodId} {args : Array Value} {below : List Frame} {meth : Method} {c : Code} {H : Heap} {locs : List Loc} {cells slots : Nat} {Q : State → Prop}
variable {cc : ByteArray} {pc : Nat} {ls : Array Slot} {rest : List Value} {D : va_G} {cs : zCs} {S : zS} {I : zI} {J : zJ}
theorem z_one {D : va_G} {cl : List vw_C} {q : Nat × va_E} {H : Heap} (h : va_at D cl q H) : va_P D cl [q] H := fun k x hx => by
  have hz : k < 1 := (List.getElem?_eq_some_iff.mp hx).1
  rw [show k = 0 by omega] at hx
  cases hx
  exact h
theorem z_encI (hA : z_Abs s0 D cs S I J H) {h : Nat} (hk : z_kd S h = 100) : va_P D z_cl [(h - 1, .inl (cs.1, z_ln S h, .inl (I h)))] H ∧ s0.heap.size < h := by
  obtain ⟨a1, a2⟩ := hA.2.2.2.2.2.1 h (by rw [hk]; rfl)
  have e : z_enc cs S I J h = .inl (cs.1, z_ln S h, .inl (I h)) := by unfold z_enc; rw [if_pos hk]
  rw [e] at a2
  exact ⟨z_one a2, a1⟩
theorem z_encB (hA : z_Abs s0 D cs S I J H) {h : Nat} (hk : z_kd S h = 101) : va_P D z_cl [(h - 1, .inl (cs.2.1, z_ln S h, .inl (I h)))] H ∧ s0.heap.size < h := by
  obtain ⟨a1, a2⟩ := hA.2.2.2.2.2.1 h (by rw [hk]; rfl)
  have e : z_enc cs S I J h = .inl (cs.2.1, z_ln S h, .inl (I h)) := by unfold z_enc; rw [if_neg (by omega), if_pos hk]
  rw [e] at a2
  exact ⟨z_one a2, a1⟩
theorem z_encN (hA : z_Abs s0 D cs S I J H) {h : Nat} (hk : z_kd S h = 102) : va_P D z_cl [(h - 1, .inl (cs.2.2.1, z_ln S h, .inr (.inr (.inr (.inr (fun i => z_op (z_rv S h i)))))))] H ∧ s0.heap.size < h := by
  obtain ⟨a1, a2⟩ := hA.2.2.2.2.2.1 h (by rw [hk]; rfl)
  have e : z_enc cs S I J h = .inl (cs.2.2.1, z_ln S h, .inr (.inr (.inr (.inr (fun i => z_op (z_rv S h i)))))) := by unfold z_enc; rw [if_neg (by omega), if_neg (by omega), if_pos hk]
  rw [e] at a2
  exact ⟨z_one a2, a1⟩
theorem z_encG (hA : z_Abs s0 D cs S I J H) {h : Nat} (hk : z_kd S h = 103) : va_P D z_cl [(h - 1, .inl (cs.2.2.2, z_ln S h, .inr (.inr (.inr (.inr (fun i => z_op (z_rv S h i)))))))] H ∧ s0.heap.size < h := by
  obtain ⟨a1, a2⟩ := hA.2.2.2.2.2.1 h (by rw [hk]; rfl)
  have e : z_enc cs S I J h = .inl (cs.2.2.2, z_ln S h, .inr (.inr (.inr (.inr (fun i => z_op (z_rv S h i)))))) := by unfold z_enc; rw [if_neg (by omega), if_neg (by omega), if_neg (by omega), if_pos hk]
  rw [e] at a2
  exact ⟨z_one a2, a1⟩
theorem z_isI_or {k : Nat} (h : z_isI k = true) : k = 100 ∨ k = 120 := by
  unfold z_isI at h
  simp at h
  exact h
theorem z_isB_or {k : Nat} (h : z_isB k = true) : k = 101 ∨ k = 121 := by
  unfold z_isB at h
  simp at h
  exact h
theorem z_isR_or {k : Nat} (h : z_isR k = true) : k = 102 ∨ k = 103 := by
  unfold z_isR at h
  simp at h
  exact h
theorem z_ne0 (hA : z_Abs s0 D cs S I J H) {h : Nat} (hk : z_kd S h ≠ 0) : 0 < h := by
  cases h with
  | zero => exact absurd hA.2.2.2.1 hk
  | succ n => omega
theorem z_roI (hA : z_Abs s0 D cs S I J H) (hW : s0.WarmedH s.vm) {h : Nat} (hk : z_kd S h = 120) : va_T .int (h - 1) (z_ln S h) (fun j => .int (I h j)) (zB s0) s H := by
  have h1 := hA.2.2.2.2.2.2.1 h (by rw [hk]; rfl) (by omega)
  rcases h1 with ⟨_, h2⟩ | ⟨h2, _⟩ | ⟨h2, _⟩
  · exact (h2.kept (fun a ha _ => hA.2.2.1 a ha)).moved hW.alike
  · omega
  · omega
theorem z_roB (hA : z_Abs s0 D cs S I J H) (hW : s0.WarmedH s.vm) {h : Nat} (hk : z_kd S h = 121) : va_T .byte (h - 1) (z_ln S h) (fun j => .int (I h j)) (zB s0) s H := by
  have h1 := hA.2.2.2.2.2.2.1 h (by rw [hk]; rfl) (by omega)
  rcases h1 with ⟨h2, _⟩ | ⟨_, h2⟩ | ⟨h2, _⟩
  · omega
  · exact (h2.kept (fun a ha _ => hA.2.2.1 a ha)).moved hW.alike
  · omega
theorem z_iald (hw : z_World s0 D cs) (hW : s0.WarmedH s.vm) (hexec : p.tables.exec = Jvm.exec) (hb : c.code = cc) (hA : z_Abs s0 D cs S I J H) {h : Nat} (hk : z_isI (z_kd S h) = true) {i : Int32} (hin : vp_in i (z_ln S h)) (hdg : decode cc pc = .ok (.iaload, 1))
    (kk : W p l e R s m args below meth c H locs cells slots Q (F0 m (pc + 1) ls (.int (I h i.toNatClampNeg) :: rest))) : W p l e R s m args below meth c H locs cells slots Q (F0 m pc ls (.int i :: z_cv (.ref h) :: rest)) := by
  rcases z_isI_or hk with hk | hk
  · obtain ⟨hP, hlt⟩ := z_encI hA hk
    rw [z_cvr hlt]
    exact va_iald (tys := z_tys cs) hexec hb (hw.2.moved hW.alike) hP 0 0 rfl rfl hin hdg kk
  · obtain ⟨cell, g1, g2, g3, g4, g5, g6, g7⟩ := z_roI hA hW hk
    rw [z_cvr (z_ne0 hA (by omega))]
    have hlt : i.toNatClampNeg < z_ln S h := Nat.not_le.mp fun q => hin (Or.inr q)
    exact W.iald hexec hb g1 g2 g3 (fun q => q.elim (fun q => hin (Or.inl q)) (fun q => by omega)) (g6 _ hlt) rfl rfl hdg kk
theorem z_bald (hw : z_World s0 D cs) (hW : s0.WarmedH s.vm) (hexec : p.tables.exec = Jvm.exec) (hb : c.code = cc) (hA : z_Abs s0 D cs S I J H) {h : Nat} (hk : z_isB (z_kd S h) = true) {i : Int32} (hin : vp_in i (z_ln S h)) (hdg : decode cc pc = .ok (.baload, 1))
    (kk : W p l e R s m args below meth c H locs cells slots Q (F0 m (pc + 1) ls (.int (I h i.toNatClampNeg) :: rest))) : W p l e R s m args below meth c H locs cells slots Q (F0 m pc ls (.int i :: z_cv (.ref h) :: rest)) := by
  rcases z_isB_or hk with hk | hk
  · obtain ⟨hP, hlt⟩ := z_encB hA hk
    rw [z_cvr hlt]
    exact va_bald (tys := z_tys cs) hexec hb (hw.2.moved hW.alike) hP 0 1 rfl rfl hin hdg kk
  · obtain ⟨cell, g1, g2, g3, g4, g5, g6, g7⟩ := z_roB hA hW hk
    rw [z_cvr (z_ne0 hA (by omega))]
    have hlt : i.toNatClampNeg < z_ln S h := Nat.not_le.mp fun q => hin (Or.inr q)
    exact W.bald hexec hb g1 g2 g3 (fun q => q.elim (fun q => hin (Or.inl q)) (fun q => by omega)) (g6 _ hlt) rfl rfl hdg kk
theorem z_aald (hw : z_World s0 D cs) (hW : s0.WarmedH s.vm) (hexec : p.tables.exec = Jvm.exec) (hb : c.code = cc) (hA : z_Abs s0 D cs S I J H) {h : Nat} (hk : z_isR (z_kd S h) = true) {i : Int32} (hin : vp_in i (z_ln S h)) (hdg : decode cc pc = .ok (.aaload, 1))
    (kk : W p l e R s m args below meth c H locs cells slots Q (F0 m (pc + 1) ls (z_cv (.ref (z_rv S h i.toNatClampNeg)) :: rest))) : W p l e R s m args below meth c H locs cells slots Q (F0 m pc ls (.int i :: z_cv (.ref h) :: rest)) := by
  rcases z_isR_or hk with hk | hk
  · obtain ⟨hP, hlt⟩ := z_encN hA hk
    rw [z_cvr hlt]
    exact va_aldq (tys := z_tys cs) hexec hb (hw.2.moved hW.alike) hP 0 2 rfl rfl hin hdg kk
  · obtain ⟨hP, hlt⟩ := z_encG hA hk
    rw [z_cvr hlt]
    exact va_aldq (tys := z_tys cs) hexec hb (hw.2.moved hW.alike) hP 0 3 rfl rfl hin hdg kk
theorem z_alen (hw : z_World s0 D cs) (hW : s0.WarmedH s.vm) (hexec : p.tables.exec = Jvm.exec) (hb : c.code = cc) (hA : z_Abs s0 D cs S I J H) {h : Nat} (hk : z_isA (z_kd S h) = true) (hdg : decode cc pc = .ok (.arraylength, 1))
    (kk : W p l e R s m args below meth c H locs cells slots Q (F0 m (pc + 1) ls (.int (nI (z_ln S h)) :: rest))) : W p l e R s m args below meth c H locs cells slots Q (F0 m pc ls (z_cv (.ref h) :: rest)) := by
  have hk' : (z_isI (z_kd S h) = true ∨ z_isB (z_kd S h) = true) ∨ z_isR (z_kd S h) = true := by
    unfold z_isA at hk
    simpa using hk
  rcases hk' with (hk | hk) | hk
  · rcases z_isI_or hk with hk | hk
    · obtain ⟨hP, hlt⟩ := z_encI hA hk
      rw [z_cvr hlt]
      exact va_alen (tys := z_tys cs) hexec hb (hw.2.moved hW.alike) hP 0 0 rfl rfl rfl hdg kk
    · obtain ⟨cell, g1, g2, g3, g4, g5, g6, g7⟩ := z_roI hA hW hk
      rw [z_cvr (z_ne0 hA (by omega))]
      exact W.alen hexec hb g1 g2 g5 rfl rfl hdg kk
  · rcases z_isB_or hk with hk | hk
    · obtain ⟨hP, hlt⟩ := z_encB hA hk
      rw [z_cvr hlt]
      exact va_alen (tys := z_tys cs) hexec hb (hw.2.moved hW.alike) hP 0 1 rfl rfl rfl hdg kk
    · obtain ⟨cell, g1, g2, g3, g4, g5, g6, g7⟩ := z_roB hA hW hk
      rw [z_cvr (z_ne0 hA (by omega))]
      exact W.alen hexec hb g1 g2 g5 rfl rfl hdg kk
  · rcases z_isR_or hk with hk | hk
    · obtain ⟨hP, hlt⟩ := z_encN hA hk
      rw [z_cvr hlt]
      exact va_alen (tys := z_tys cs) hexec hb (hw.2.moved hW.alike) hP 0 2 rfl rfl rfl hdg kk
    · obtain ⟨hP, hlt⟩ := z_encG hA hk
      rw [z_cvr hlt]
      exact va_alen (tys := z_tys cs) hexec hb (hw.2.moved hW.alike) hP 0 3 rfl rfl rfl hdg kk
theorem z_locs {locs locs' : List Loc} {b a : Nat} (hl : ∀ x ∈ locs, b ≤ x.base) (ha : b ≤ a) (h : ∀ x ∈ locs', x ∈ locs ∨ x.base = a) : ∀ x ∈ locs', b ≤ x.base := fun x hx => by
  rcases h x hx with q | q
  · exact hl x q
  · rw [q]; exact ha
theorem z_iast (hw : z_World s0 D cs) (hW : s0.WarmedH s.vm) (hexec : p.tables.exec = Jvm.exec) (hb : c.code = cc) (hA : z_Abs s0 D cs S I J H) (hl : ∀ x ∈ locs, s0.heap.size ≤ x.base) {h : Nat} (hk : z_kd S h = 100) {i x : Int32} (hin : vp_in i (z_ln S h)) (hdg : decode cc pc = .ok (.iastore, 1))
    (kk : ∀ (H' : Heap) (locs' : List Loc), z_Abs s0 D cs S (z_u2 I h i.toNatClampNeg x) J H' → (∀ x ∈ locs', s0.heap.size ≤ x.base) → W p l e R s m args below meth c H' locs' cells slots Q (F0 m (pc + 1) ls rest)) : W p l e R s m args below meth c H locs cells slots Q (F0 m pc ls (.int x :: .int i :: z_cv (.ref h) :: rest)) := by
  obtain ⟨hP, hlt⟩ := z_encI hA hk
  rw [z_cvr hlt]
  have hK : va_K D z_cl (z_tys cs) s := hw.2.moved hW.alike
  refine W.iast hexec hb (hP 0 _ rfl) ((hK.2 0 _ rfl).1 (z_ln S h) (fun j => .int (I h j))) (fun q => by cases q) (by show ¬ (i < 0 ∨ (arrV _ _ _).slots.size ≤ _); rw [arrV_size]; exact hin) rfl rfl hdg fun H1 e z oq => ?_
  refine kk H1 _ (hA.set z oq (by rw [hk]; rfl) (fun _ => rfl) (fun _ => rfl) rfl (fun _ _ _ => rfl) (fun a ha j => z_u2_ne ha) (fun _ _ _ => rfl) ?_) (z_locs hl (Nat.le_sub_one_of_lt hlt) (fun y hy => by
      rcases List.mem_append.mp hy with q | q
      · exact Or.inl q
      · rw [List.mem_singleton.mp q]; exact Or.inr rfl))
  unfold z_enc
  rw [if_pos hk]
  show H1[h - 1]? = some (vp_cell _ _)
  rw [e]
  show some (Cell.setSlot (vp_cell cs.1 (z_ln S h, .inl (I h))) _ _) = _
  rw [vp_cell_i, vp_cell_i, arrV_store]
  congr 2
  funext q
  by_cases hq : q = i.toNatClampNeg
  · subst hq
    simp [updV, z_u2]
  · simp [updV, z_u2, hq]
theorem z_bast (hw : z_World s0 D cs) (hW : s0.WarmedH s.vm) (hexec : p.tables.exec = Jvm.exec) (hb : c.code = cc) (hA : z_Abs s0 D cs S I J H) (hl : ∀ x ∈ locs, s0.heap.size ≤ x.base) {h : Nat} (hk : z_kd S h = 101) {i x : Int32} (hin : vp_in i (z_ln S h)) (hdg : decode cc pc = .ok (.bastore, 1))
    (kk : ∀ (H' : Heap) (locs' : List Loc), z_Abs s0 D cs S (z_u2 I h i.toNatClampNeg x.toInt8.toInt32) J H' → (∀ x ∈ locs', s0.heap.size ≤ x.base) → W p l e R s m args below meth c H' locs' cells slots Q (F0 m (pc + 1) ls rest)) : W p l e R s m args below meth c H locs cells slots Q (F0 m pc ls (.int x :: .int i :: z_cv (.ref h) :: rest)) := by
  obtain ⟨hP, hlt⟩ := z_encB hA hk
  rw [z_cvr hlt]
  have hK : va_K D z_cl (z_tys cs) s := hw.2.moved hW.alike
  refine W.bast hexec hb (hP 0 _ rfl) ((hK.2 1 _ rfl).1 (z_ln S h) (fun j => .int (I h j))) (fun q => by cases q) (by show ¬ (i < 0 ∨ (arrV _ _ _).slots.size ≤ _); rw [arrV_size]; exact hin) rfl rfl hdg fun H1 e z oq => ?_
  refine kk H1 _ (hA.set z oq (by rw [hk]; rfl) (fun _ => rfl) (fun _ => rfl) rfl (fun _ _ _ => rfl) (fun a ha j => z_u2_ne ha) (fun _ _ _ => rfl) ?_) (z_locs hl (Nat.le_sub_one_of_lt hlt) (fun y hy => by
      rcases List.mem_append.mp hy with q | q
      · exact Or.inl q
      · rw [List.mem_singleton.mp q]; exact Or.inr rfl))
  unfold z_enc
  rw [if_neg (by omega), if_pos hk]
  show H1[h - 1]? = some (vp_cell _ _)
  rw [e]
  show some (Cell.setSlot (vp_cell cs.2.1 (z_ln S h, .inl (I h))) _ (.int x.toInt8.toInt32)) = _
  rw [vp_cell_i, vp_cell_i, arrV_store]
  congr 2
  funext q
  by_cases hq : q = i.toNatClampNeg
  · subst hq
    simp [updV, z_u2]
  · simp [updV, z_u2, hq]
end ZA

/-! SOUNDNESS, fifth part: texts, statics, arraycopy; locals; calls -/
section ZT
variable {p : Program} {l : Launch} {e : Env} {R : Room} {s s0 : State} {m : MethodId} {args : Array Value} {below : List Frame} {meth : Method} {c : Code} {H : Heap} {locs : List Loc} {cells slots : Nat} {Q : State → Prop}
variable {cc : ByteArray} {pc : Nat} {ls : Array Slot} {rest : List Value} {D : va_G} {cs : zCs} {S : zS} {I : zI} {J : zJ}
theorem z_roS (hA : z_Abs s0 D cs S I J H) (hW : s0.WarmedH s.vm) {h : Nat} (hk : z_kd S h = 22) : va_O "java/lang/String" (h - 1) (zB s0) s H ∧ va_OF "java/lang/String" "coder" "B" (.int (I h 1)) (h - 1) (zB s0) s H ∧ va_OF "java/lang/String" "value" "[B" (va_rf (z_op (z_rv S h 0))) (h - 1) (zB s0) s H := by
  have h1 := hA.2.2.2.2.2.2.1 h (by rw [hk]; rfl) (by omega)
  rcases h1 with ⟨h2, _⟩ | ⟨h2, _⟩ | ⟨_, h2, h3, h4⟩
  · omega
  · omega
  · exact ⟨(h2.kept (fun a ha _ => hA.2.2.1 a ha)).moved hW.alike, (h3.kept (fun a ha _ => hA.2.2.1 a ha)).moved hW.alike, (h4.kept (fun a ha _ => hA.2.2.1 a ha)).moved hW.alike⟩
theorem z_gets (hw : z_World s0 D cs) (hW : s0.WarmedH s.vm) (hexec : p.tables.exec = Jvm.exec) (hb : c.code = cc) {own : String} {k : Nat} {n d : String} {v : Value} (hown : s.vm.findClass own = some m.cls) {h : Nat} (hh : 0 < h) (hE : va_OF "java/lang/String" n d v (h - 1) (zB s0) s H)
    (hlink : Cond.fieldLink own k "java/lang/String" n d ∈ lw_tbl) (hdg : decode cc pc = .ok (.getfield k, 3))
    (kk : W p l e R s m args below meth c H locs cells slots Q (F0 m (pc + 3) ls (v :: rest))) : W p l e R s m args below meth c H locs cells slots Q (F0 m pc ls (z_cv (.ref h) :: rest)) := by
  rw [z_cvr hh]
  obtain ⟨cf, k', fi, f, cell, h1, h2, h3, h4, h5, h6⟩ := hE
  exact W.getf hexec hb hown (z_at_s hw hW hlink rfl) h1 h2 h3 h4 (v := v) h5 rfl rfl hdg kk
theorem z_getst (hw : z_World s0 D cs) (hW : s0.WarmedH s.vm) (hexec : p.tables.exec = Jvm.exec) (hb : c.code = cc) {own C : String} {k : Nat} {n d : String} {v : Value} (hown : s.vm.findClass own = some m.cls) (hA : z_Abs s0 D cs S I J H) (hZ : va_Z C n d v (zB s0) s0 s0.heap)
    (hlink : Cond.fieldLink own k C n d ∈ lw_tbl) (hdg : decode cc pc = .ok (.getstatic k, 3))
    (kk : W p l e R s m args below meth c H locs cells slots Q (F0 m (pc + 3) ls (v :: rest))) : W p l e R s m args below meth c H locs cells slots Q (F0 m pc ls rest) := by
  obtain ⟨cf, kf, fi, f, a, cell, h1, h2, h3, h4, h5, h6, h7, h8⟩ := (hZ.kept (fun a ha _ => hA.2.2.1 a ha)).moved hW.alike
  exact W.gets hexec hb hown (z_at_s hw hW hlink rfl) h1 h2 h3 h4 h5 (fun e => by rw [e] at h6; cases h6) h7 rfl hdg kk
theorem z_getstN (hw : z_World s0 D cs) (hW : s0.WarmedH s.vm) (hexec : p.tables.exec = Jvm.exec) (hb : c.code = cc) {own C host : String} {k : Nat} {n d : String} {v : Value} (hown : s.vm.findClass own = some m.cls) (hA : z_Abs s0 D cs S I J H) (hZ : va_Z C n d v (zB s0) s0 s0.heap)
    (hlink : Cond.fieldLinkNest own k C n d host ∈ lw_tbl) (hdg : decode cc pc = .ok (.getstatic k, 3))
    (kk : W p l e R s m args below meth c H locs cells slots Q (F0 m (pc + 3) ls (v :: rest))) : W p l e R s m args below meth c H locs cells slots Q (F0 m pc ls rest) := by
  obtain ⟨cf, kf, fi, f, a, cell, h1, h2, h3, h4, h5, h6, h7, h8⟩ := (hZ.kept (fun a ha _ => hA.2.2.1 a ha)).moved hW.alike
  exact va_WgetsN hexec hb hown (va_Nw.use rfl (va_Nw.warmF hW (show va_Nw _ s0 from hw.1 _ hlink))) h1 h2 h3 h4 h5 (fun e => by rw [e] at h6; cases h6) h7 rfl hdg kk
theorem z_ldcS (hW : s0.WarmedH s.vm) (hexec : p.tables.exec = Jvm.exec) (hb : c.code = cc) {k : Nat} (hk : k < 10) (hown : s.vm.findClass (z_sow k).1 = some m.cls) (hA : z_Abs s0 D cs S I J H) (hdg : decode cc pc = .ok (.ldc (z_sow k).2.1, 2))
    (kk : W p l e R s m args below meth c H locs cells slots Q (F0 m (pc + 2) ls (z_cv (.ref (z_rv S 0 k)) :: rest))) : W p l e R s m args below meth c H locs cells slots Q (F0 m pc ls rest) := by
  obtain ⟨a, h1, h2⟩ := hA.2.2.2.2.2.2.2.1 k hk
  rw [h1] at kk
  exact va_ldcS hexec hb hown (h2.warm hW) hdg kk
theorem z_acopy (hw : z_World s0 D cs) (hW : s0.WarmedH s.vm) (hexec : p.tables.exec = Jvm.exec) (hb : c.code = cc) (hml : c.maxLocals = ls.size) {o k : Nat} (hown : s.vm.findClass (z_cn o) = some m.cls) (hlink : Cond.methodLink (z_cn o) k arraycopyName ∈ lw_tbl) (hA : z_Abs s0 D cs S I J H) (hl : ∀ x ∈ locs, s0.heap.size ≤ x.base)
    {a b : Nat} (ha : z_kd S a = 100) (hb1 : z_kd S b = 100) (hab : ¬ a = b) {sp dp n : Int32} (h1 : ¬ sp < 0) (h2 : ¬ dp < 0) (h3 : ¬ n < 0) (h4 : sp.toNatClampNeg + n.toNatClampNeg ≤ z_ln S a) (h5 : dp.toNatClampNeg + n.toNatClampNeg ≤ z_ln S b)
    (hframes : 1 ≤ R.frames) (hlocals : (rest.map fun v => v.category).sum + (nativeFrameWords "java/lang/System" "arraycopy" 5 + 11) ≤ R.locals) (hdg : decode cc pc = .ok (.invokestatic k, 3))
    (kk : ∀ (H' : Heap) (locs' : List Loc), z_Abs s0 D cs S (z_cp I a b sp.toNatClampNeg dp.toNatClampNeg n.toNatClampNeg) J H' → (∀ x ∈ locs', s0.heap.size ≤ x.base) → W p l e R s m args below meth c H' locs' cells slots Q (F0 m (pc + 3) ls rest)) :
    W p l e R s m args below meth c H locs cells slots Q (F0 m pc ls (.int n :: .int dp :: z_cv (.ref b) :: .int sp :: z_cv (.ref a) :: rest)) := by
  obtain ⟨hPa, hlta⟩ := z_encI hA ha
  obtain ⟨hPb, hltb⟩ := z_encI hA hb1
  rw [z_cvr hlta, z_cvr hltb]
  have hK : va_K D z_cl (z_tys cs) s := hw.2.moved hW.alike
  have nn : ∀ z : Int32, ¬ z < 0 → z.toInt = (z.toNatClampNeg : Int) := by
    intro z hz
    have hz0 : (0 : Int) ≤ z.toInt := by
      have := Int32.not_lt.mp hz
      simpa using Int32.le_iff_toInt_le.mp this
    show z.toInt = ((z.toInt.toNat : Nat) : Int)
    omega
  intro T hT X
  have hc0 : H[a - 1]? = some (vp_cell cs.1 (z_ln S a, .inl (I a))) := hPa 0 _ rfl
  have hc1 : H[b - 1]? = some (vp_cell cs.1 (z_ln S b, .inl (I b))) := hPb 0 _ rfl
  obtain ⟨-, k0, hk0, cm0, hkk0⟩ := (hK.2 0 _ rfl).1 (z_ln S a) (fun j => .int (I a j))
  obtain ⟨-, k1, hk1, cm1, hkk1⟩ := (hK.2 0 _ rfl).1 (z_ln S b) (fun j => .int (I b j))
  obtain ⟨vm', X', step⟩ := X.arraycopy hexec hown (z_at_s hw hW hlink rfl) (z_at_s hw hW z_w_acn rfl) (z_at_s hw hW z_w_acs rfl) (z_at_s hw hW z_w_isy rfl) (src := a - 1) (dst := b - 1) (cs := vp_cell cs.1 (z_ln S a, .inl (I a))) (cd := vp_cell cs.1 (z_ln S b, .inl (I b))) (srcPos := sp) (destPos := dp) (n := n) (by rw [hT]; exact hc0) (by rw [hT]; exact hc1)
    (fun _ h => by cases h) (fun _ h => by cases h) (fun h => by cases h) (fun h => by cases h) hk0 hk1 hkk0 hkk1 (by simp [refKind]) h1 h2 h3
    (by rw [nn sp h1, nn n h3]; show ¬ _ > ((arrV cs.1 (z_ln S a) (fun j => .int (I a j))).slots.size : Int); rw [arrV_size]; omega)
    (by rw [nn dp h2, nn n h3]; show ¬ _ > ((arrV cs.1 (z_ln S b) (fun j => .int (I b j))).slots.size : Int); rw [arrV_size]; omega)
    (fun vm₁ _ i hi => by
      have e : (vp_cell cs.1 (z_ln S a, .inl (I a))).slots.getD (sp.toNatClampNeg + i) .null = .int (I a (sp.toNatClampNeg + i)) := by
        show (arrV cs.1 (z_ln S a) (fun j => .int (I a j))).slots.getD _ _ = _
        rw [Array.getD_eq_getD_getElem?, arrV_read _ _ (by omega)]
        rfl
      refine ⟨?_, ?_⟩
      · rw [e]
        rfl
      · rw [e]
        exact trivial)
    (g := F0 m pc ls (.int n :: .int dp :: .ref (b - 1) :: .int sp :: .ref (a - 1) :: rest)) rfl (by rw [hml]) (rest := rest) rfl (by rw [hb]; exact hdg) hframes (by show 2 * 0 + _ + _ ≤ _; omega)
  have e1 : copied (vp_cell cs.1 (z_ln S a, .inl (I a))) (vp_cell cs.1 (z_ln S b, .inl (I b))) sp dp n = vp_cell cs.1 (z_ln S b, .inl (va_cpy (I a) (I b) sp.toNatClampNeg dp.toNatClampNeg n.toNatClampNeg)) := va_copied (fun z => .int z) cs.1 cs.1 (I a) (I b) h4
  rw [e1] at X' step
  have hlb : b - 1 < H.size := (Array.getElem?_eq_some_iff.mp hc1).1
  have hheap : ((T.setVm vm').setCell (b - 1) (vp_cell cs.1 (z_ln S b, .inl (va_cpy (I a) (I b) sp.toNatClampNeg dp.toNatClampNeg n.toNatClampNeg)))).heap = H.setIfInBounds (b - 1) (vp_cell cs.1 (z_ln S b, .inl (va_cpy (I a) (I b) sp.toNatClampNeg dp.toNatClampNeg n.toNatClampNeg))) := by rw [← hT]; rfl
  have oq : ∀ q : Nat, q ≠ b - 1 → (H.setIfInBounds (b - 1) (vp_cell cs.1 (z_ln S b, .inl (va_cpy (I a) (I b) sp.toNatClampNeg dp.toNatClampNeg n.toNatClampNeg))))[q]? = H[q]? := fun q hq => by simp [Array.getElem?_setIfInBounds, Ne.symm hq]
  obtain ⟨t, a1, b1⟩ := kk _ _ (hA.set (h := b) (by simp) oq (by rw [hb1]; rfl) (fun _ => rfl) (fun _ => rfl) rfl (fun _ _ _ => rfl) (fun x hx j => z_ur_ne hx) (fun _ _ _ => rfl) (by
      unfold z_enc
      rw [if_pos hb1]
      show (H.setIfInBounds (b - 1) _)[b - 1]? = some (vp_cell _ _)
      rw [Array.getElem?_setIfInBounds_self_of_lt hlb]
      have e7 : z_cp I a b sp.toNatClampNeg dp.toNatClampNeg n.toNatClampNeg b = va_cpy (I a) (I b) sp.toNatClampNeg dp.toNatClampNeg n.toNatClampNeg := by
        funext q
        unfold z_cp
        rw [z_ur_same]
      rw [e7])) (fun x hx => by
      rcases List.mem_append.mp hx with h | h
      · exact hl x h
      · obtain ⟨z, -, hz⟩ := List.mem_map.mp h
        rw [← hz]
        exact Nat.le_sub_one_of_lt hltb) _ hheap X'
  exact ⟨t, step t a1, b1⟩
/-- behind a call -/
theorem z_callk {mc ms : Nat} {st0 : List Value} {Qa : State → Outcome → State → Prop} {free : Addr → Prop} (hr : va_Run p l e R s m args below meth c H locs cells slots mc ms (F0 m pc ls st0) rest Qa free)
    (kk : ∀ (v : Option Value) (u t : State) (H1 : Heap) (locs1 : List Loc), u.heap = H → t.heap = H1 → Qa u (.returned v) t → (∀ x ∈ locs1, x ∈ locs ∨ free x.base) → W p l e R s m args below meth c H1 locs1 (cells + mc) (slots + ms) Q (F0 m (pc + 3) ls (v.toList ++ rest))) : W p l e R s m args below meth c H locs cells slots Q (F0 m pc ls st0) := by
  intro T hT X
  obtain ⟨v, u, t, T', L, h0, X', hL, e1, e2, hq, st⟩ := hr T hT X
  obtain ⟨t2, a1, b1⟩ := kk v u t T'.heap (locs ++ L) h0 e1.symm hq (fun x hx => by
    rcases List.mem_append.mp hx with q | q
    · exact Or.inl q
    · exact Or.inr (hL x q)) T' rfl X'
  exact ⟨t2, st t2 a1, b1⟩
end ZT
/-! locals -/
def z_asc (ls : List Value) : List (Nat × Value) := (List.range ls.length).filterMap (fun i => if z_get ls i = .retAddr 0 then none else some (i, z_cv (z_get ls i)))
def z_Loc (ls : List Value) (lsA : Array Slot) : Prop := lv_has lsA ls.length (z_asc ls)
theorem z_get_big : ∀ {ls : List Value} {i : Nat}, ls.length ≤ i → z_get ls i = .retAddr 0
  | [], _, _ => rfl
  | _ :: l, 0, h => absurd h (by simp)
  | _ :: l, n + 1, h => z_get_big (ls := l) (by simpa using h)
theorem z_asc_mem {ls : List Value} {i : Nat} {v : Value} : (i, v) ∈ z_asc ls ↔ z_get ls i ≠ .retAddr 0 ∧ v = z_cv (z_get ls i) := by
  unfold z_asc
  rw [List.mem_filterMap]
  constructor
  · rintro ⟨j, hj, h⟩
    by_cases hg : z_get ls j = .retAddr 0
    · rw [if_pos hg] at h; cases h
    · rw [if_neg hg] at h
      cases h
      exact ⟨hg, rfl⟩
  · rintro ⟨h1, rfl⟩
    refine ⟨i, List.mem_range.mpr ?_, by rw [if_neg h1]⟩
    rcases Nat.lt_or_ge i ls.length with q | q
    · exact q
    · exact absurd (z_get_big q) h1
theorem z_Loc.at {ls : List Value} {lsA : Array Slot} (h : z_Loc ls lsA) {i : Nat} {v : Value} (hv : z_get ls i = v) (hn : v ≠ .retAddr 0) : lsA[i]? = some (.val (z_cv v)) := by
  subst hv
  exact h.2.2 (i, z_cv (z_get ls i)) (z_asc_mem.mpr ⟨hn, rfl⟩)
theorem z_putk_len : ∀ (ls : List Value) (n : Nat) (v : Value), (z_putk ls n v).length = ls.length
  | [], 0, _ => rfl
  | [], _ + 1, _ => rfl
  | [_], 0, _ => rfl
  | [w], n + 1, v => by
    show (z_putk [] n v).length + 1 = 1
    rw [z_putk_len [] n v]
    rfl
  | _ :: _ :: _, 0, _ => rfl
  | w :: u :: l, n + 1, v => by
    show (z_putk (u :: l) n v).length + 1 = (u :: l).length + 1
    rw [z_putk_len (u :: l) n v]
theorem z_put_len (ls : List Value) (n : Nat) (v : Value) : (z_put ls n v).length = ls.length := by
  cases n with
  | zero => cases ls <;> rfl
  | succ n => exact z_putk_len ls n v
theorem z_raw_len : ∀ (ls : List Value) (n : Nat) (v : Value), (z_raw ls n v).length = ls.length
  | [], _, _ => rfl
  | _ :: _, 0, _ => rfl
  | w :: l, n + 1, v => by
    show (z_raw l n v).length + 1 = l.length + 1
    rw [z_raw_len l n v]
theorem z_raw_get : ∀ (ls : List Value) (n : Nat) (v : Value) (j : Nat), n < ls.length → z_get (z_raw ls n v) j = if j = n then v else z_get ls j
  | [], _, _, _, h => absurd h (by simp)
  | w :: l, 0, v, 0, _ => rfl
  | w :: l, 0, v, j + 1, _ => by rw [if_neg (by omega)]; rfl
  | w :: l, n + 1, v, 0, _ => by rw [if_neg (by omega)]; rfl
  | w :: l, n + 1, v, j + 1, h => by
    show z_get (z_raw l n v) j = _
    rw [z_raw_get l n v j (by simpa using h)]
    by_cases q : j = n
    · rw [if_pos q, if_pos (by omega)]
    · rw [if_neg q, if_neg (by omega)]; rfl
theorem z_putk_get : ∀ (ls : List Value) (n : Nat) (v : Value) (j : Nat), n + 1 < ls.length → z_get (z_putk ls n v) j = if j = n + 1 then v else if j = n then z_kill (z_get ls j) else z_get ls j
  | [], _, _, _, h => absurd h (by simp)
  | [_], n, _, _, h => absurd h (by simp)
  | w :: u :: l, 0, v, 0, _ => rfl
  | w :: u :: l, 0, v, 1, _ => rfl
  | w :: u :: l, 0, v, j + 2, _ => by rw [if_neg (by omega), if_neg (by omega)]; rfl
  | w :: u :: l, n + 1, v, 0, _ => by rw [if_neg (by omega), if_neg (by omega)]; rfl
  | w :: u :: l, n + 1, v, j + 1, h => by
    show z_get (z_putk (u :: l) n v) j = _
    rw [z_putk_get (u :: l) n v j (by simpa using h)]
    show (if j = n + 1 then v else if j = n then z_kill (z_get (u :: l) j) else z_get (u :: l) j) = if j + 1 = n + 1 + 1 then v else if j + 1 = n + 1 then z_kill (z_get (u :: l) j) else z_get (u :: l) j
    simp only [Nat.add_right_cancel_iff]
theorem z_put_get (ls : List Value) (i : Nat) (v : Value) (j : Nat) (h : i < ls.length) : z_get (z_put ls i v) j = if j = i then v else if j + 1 = i then z_kill (z_get ls j) else z_get ls j := by
  cases i with
  | zero =>
    cases ls with
    | nil => simp at h
    | cons w l =>
      cases j with
      | zero => rfl
      | succ j => rw [if_neg (by omega), if_neg (by omega)]; rfl
  | succ n =>
    show z_get (z_putk ls n v) j = _
    rw [z_putk_get ls n v j h]
    by_cases q : j = n + 1
    · rw [if_pos q, if_pos q]
    · rw [if_neg q, if_neg q]
      by_cases q2 : j = n
      · rw [if_pos q2, if_pos (by omega)]
      · rw [if_neg q2, if_neg (by omega)]
theorem z_kill_ne {v : Value} (h : z_kill v ≠ .retAddr 0) : z_kill v = v ∧ ¬ (z_cv v).category = 2 := by
  cases v with
  | long x => exact absurd rfl h
  | int x => exact ⟨rfl, by simp [z_cv, Value.category]⟩
  | float x => exact ⟨rfl, by simp [z_cv, Value.category]⟩
  | double x => exact absurd rfl h
  | null => exact ⟨rfl, by decide⟩
  | ref a => exact ⟨rfl, by cases a <;> simp [z_cv, z_op, va_rf, Value.category]⟩
  | retAddr a => exact ⟨rfl, by simp [z_cv, Value.category]⟩

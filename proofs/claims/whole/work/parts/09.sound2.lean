/-! SOUNDNESS, second part: what a write, a making leave of the memory's picture -/
theorem z_enc_congr {cs : zCs} {S S' : zS} {I I' : zI} {J J' : zJ} {h : Nat} (h1 : z_kd S' h = z_kd S h) (h2 : z_ln S' h = z_ln S h) (h3 : ∀ j, z_rv S' h j = z_rv S h j) (h4 : ∀ j, I' h j = I h j) (h5 : ∀ j, J' h j = J h j) : z_enc cs S' I' J' h = z_enc cs S I J h := by
  have e1 : I' h = I h := funext h4
  have e2 : (fun i => z_op (z_rv S' h i)) = (fun i => z_op (z_rv S h i)) := funext fun i => by rw [h3]
  have e3 : ∀ ci, z_flds S' I' J' h ci = z_flds S I J h ci := by
    intro ci
    unfold z_flds
    apply List.map_congr_left
    intro j _
    unfold z_fv
    rw [h3 j, h4 j, h5 j]
  unfold z_enc
  rw [h1, h2, e1, e2, e3]
theorem z_RO_congr {s0 : State} {S S' : zS} {I I' : zI} {h : Nat} (h1 : z_kd S' h = z_kd S h) (h2 : z_ln S' h = z_ln S h) (h3 : ∀ j, z_rv S' h j = z_rv S h j) (h4 : ∀ j, I' h j = I h j) (H : z_RO s0 S I h) : z_RO s0 S' I' h := by
  have e1 : (fun j => Value.int (I' h j)) = (fun j => Value.int (I h j)) := funext fun j => by rw [h4]
  unfold z_RO
  rw [h1, h2, e1, h3, h4]
  exact H
theorem z_Gl_congr {s0 : State} {S S' : zS} (h : ∀ j, z_rv S' 0 j = z_rv S 0 j) (H : z_Gl s0 S) : z_Gl s0 S' := by
  unfold z_Gl
  rw [h 20, h 21]
  exact ⟨fun k hk => by rw [h k]; exact H.1 k hk, H.2⟩
theorem va_at.kept' {D : va_G} {cl : List vw_C} {q : Nat × va_E} {H H1 : Heap} (h : va_at D cl q H) (hq : H1[q.1]? = H[q.1]?) : va_at D cl q H1 := by
  have hP : va_P D cl [q] H := fun k x hx => by
    have hz : k < 1 := (List.getElem?_eq_some_iff.mp hx).1
    rw [show k = 0 by omega] at hx
    cases hx
    exact h
  exact hP.kept (H1 := H1) (fun k x hx => by
    have hz : k < 1 := (List.getElem?_eq_some_iff.mp hx).1
    rw [show k = 0 by omega] at hx
    cases hx
    exact hq) 0 q rfl
/-- a write into one cell -/
theorem z_Abs.set {s0 : State} {D : va_G} {cs : zCs} {S S' : zS} {I I' : zI} {J J' : zJ} {H H' : Heap} {h : Nat} (hA : z_Abs s0 D cs S I J H) (hz : H'.size = H.size) (ho : ∀ q, q ≠ h - 1 → H'[q]? = H[q]?) (hwk : z_wk (z_kd S h) = true)
    (e1 : ∀ a, z_kd S' a = z_kd S a) (e2 : ∀ a, z_ln S' a = z_ln S a) (e3 : z_sz S' = z_sz S) (e4 : ∀ a, a ≠ h → ∀ j, z_rv S' a j = z_rv S a j) (e5 : ∀ a, a ≠ h → ∀ j, I' a j = I a j) (e6 : ∀ a, a ≠ h → ∀ j, J' a j = J a j)
    (hn : va_at D z_cl (h - 1, z_enc cs S' I' J' h) H') : z_Abs s0 D cs S' I' J' H' := by
  obtain ⟨a1, a2, a3, a4, a5, a6, a7, a8⟩ := hA
  have hb : s0.heap.size < h := (a6 h hwk).1
  refine ⟨by rw [hz, e3]; exact a1, by rw [hz]; exact a2, fun q hq => by rw [ho q (by omega)]; exact a3 q hq, by rw [e1]; exact a4, fun x hx => by rw [e1]; exact a5 x (by rw [← e3]; exact hx), fun x hx => ?_, fun x hx hx0 => ?_, z_Gl_congr (e4 0 (by omega)) a8⟩
  · rw [e1] at hx
    refine ⟨(a6 x hx).1, ?_⟩
    by_cases hxh : x = h
    · subst hxh; exact hn
    · rw [z_enc_congr (e1 x) (e2 x) (e4 x hxh) (e5 x hxh) (e6 x hxh)]
      exact (a6 x hx).2.kept' (ho _ (by have := (a6 x hx).1; show x - 1 ≠ h - 1; omega))
  · rw [e1] at hx hx0
    have hxh : x ≠ h := fun e => by rw [e, hwk] at hx; cases hx
    exact z_RO_congr (e1 x) (e2 x) (e4 x hxh) (e5 x hxh) (a7 x hx hx0)
/-- a new cell -/
theorem z_Abs.push {s0 : State} {D : va_G} {cs : zCs} {S S' : zS} {I I' : zI} {J J' : zJ} {H H' : Heap} (hA : z_Abs s0 D cs S I J H) (hz : H'.size = H.size + 1) (ho : ∀ q, q < H.size → H'[q]? = H[q]?)
    (e1 : ∀ a, a ≠ z_sz S + 1 → z_kd S' a = z_kd S a) (e2 : ∀ a, a ≠ z_sz S + 1 → z_ln S' a = z_ln S a) (e3 : z_sz S' = z_sz S + 1) (e4 : ∀ a, a ≠ z_sz S + 1 → ∀ j, z_rv S' a j = z_rv S a j) (e5 : ∀ a, a ≠ z_sz S + 1 → ∀ j, I' a j = I a j) (e6 : ∀ a, a ≠ z_sz S + 1 → ∀ j, J' a j = J a j)
    (hwk : z_wk (z_kd S' (z_sz S + 1)) = true) (hn : va_at D z_cl (z_sz S, z_enc cs S' I' J' (z_sz S + 1)) H') : z_Abs s0 D cs S' I' J' H' := by
  obtain ⟨a1, a2, a3, a4, a5, a6, a7, a8⟩ := hA
  refine ⟨by rw [hz, e3, a1], by omega, fun q hq => by rw [ho q (by omega)]; exact a3 q hq, by rw [e1 0 (by omega)]; exact a4, fun x hx => by rw [e1 x (by omega)]; exact a5 x (by omega), fun x hx => ?_, fun x hx hx0 => ?_, z_Gl_congr (e4 0 (by omega)) a8⟩
  · by_cases hxh : x = z_sz S + 1
    · subst hxh
      exact ⟨by omega, hn⟩
    · rw [e1 x hxh] at hx
      have hlt : x ≤ z_sz S := by
        rcases Nat.lt_or_ge (z_sz S) x with q | q
        · rw [a5 x q] at hx; cases hx
        · exact q
      refine ⟨(a6 x hx).1, ?_⟩
      rw [z_enc_congr (e1 x hxh) (e2 x hxh) (e4 x hxh) (e5 x hxh) (e6 x hxh)]
      exact (a6 x hx).2.kept' (ho _ (by have := (a6 x hx).1; show x - 1 < H.size; omega))
  · have hxh : x ≠ z_sz S + 1 := fun e => by rw [e, hwk] at hx; cases hx
    rw [e1 x hxh] at hx hx0
    exact z_RO_congr (e1 x hxh) (e2 x hxh) (e4 x hxh) (e5 x hxh) (a7 x hx hx0)
section ZP
variable {p : Program} {l : Launch} {e : Env} {R : Room} {s s0 : State} {m : MethodId} {args : Array Value} {below : List Frame} {meth : Method} {c : Code} {H : Heap} {locs : List Loc} {cells slots : Nat} {Q : State → Prop}
variable {cc : ByteArray} {pc : Nat} {ls : Array Slot} {rest : List Value} {D : va_G} {cs : zCs} {S : zS} {I : zI} {J : zJ}
theorem z_putf (hw : z_World s0 D cs) (hW : s0.WarmedH s.vm) (hexec : p.tables.exec = Jvm.exec) (hb : c.code = cc) {o k t j : Nat} (hown : s.vm.findClass (z_cn o) = some m.cls) (hA : z_Abs s0 D cs S I J H) {h : Nat} (hk : z_kd S h = t) (h1 : 0 < t) (h2 : t ≤ 13) (hj : j < z_nf (t - 1))
    (hlink : Cond.fieldLink (z_cn o) k (z_T (t - 1) j).1 (z_T (t - 1) j).2.1 (z_T (t - 1) j).2.2.1 ∈ lw_tbl) (hfin : (z_T (t - 1) j).2.2.2 = true → meth.name = "<init>" ∧ t - 1 = o) {v : Value} (hn : narrow (z_ty (t - 1) j) v = v) (hfit : fits (z_ty (t - 1) j) v = true) (hdg : decode cc pc = .ok (.putfield k, 3))
    (kk : ∀ (H' : Heap) (locs' : List Loc), H'.size = H.size → (∀ q, q ≠ h - 1 → H'[q]? = H[q]?) → va_at D z_cl (h - 1, .inr (t - 1, (z_flds S I J h (t - 1)).set j v)) H' → (∀ x ∈ locs', x ∈ locs ∨ x.base = h - 1) → W p l e R s m args below meth c H' locs' cells slots Q (F0 m (pc + 3) ls rest)) :
    W p l e R s m args below meth c H locs cells slots Q (F0 m pc ls (v :: z_cv (.ref h) :: rest)) := by
  obtain ⟨hP, hlt⟩ := z_obj hA hk h1 h2
  rw [z_cvr hlt]
  have hci : t - 1 < 13 := by omega
  have hts : ∀ w ∈ u_ws (z_cn (t - 1)) (z_T (t - 1)) (z_nf (t - 1)), w.before args s = true := fun w hm => z_at_s hw hW (z_lays (t - 1) hci w hm).1 (z_lays (t - 1) hci w hm).2
  have hK : va_K D z_cl (z_tys cs) s := hw.2.moved hW.alike
  have hap := va_apart (own := z_cn o) hts (fun w hm => hm) (z_ty (t - 1)) (z_tyok (t - 1) hci) (z_nmok (t - 1) hci) hK (z_cl_at (t - 1) hci)
  obtain ⟨r, g1, cell, q1, q2, q3, q4⟩ := hP 0 _ rfl
  have hr : r = (z_cn (t - 1), z_T (t - 1), z_nf (t - 1)) := Option.some.inj (g1.symm.trans (z_cl_at (t - 1) hci))
  subst hr
  obtain ⟨hS, hfc, kC, hkC, hkind⟩ := hK.1 (t - 1) _ (z_cl_at (t - 1) hci)
  obtain ⟨cf, kf, fi, f, hi, hsl⟩ := hS j hj
  have hlay := hts _ (u_in_lay hj)
  have hst := (u_facts hfc hkC (u_lays hts (fun w hm => hm) hj) hi).1
  have hd := z_tyok (t - 1) hci j hj
  have hl : j < (z_flds S I J h (t - 1)).length := by rw [z_flds_len]; exact hj
  have hlink' := z_at_s (args := args) hw hW hlink rfl
  have done : ∀ H' : Heap, H'[h - 1]? = some (cell.setSlot ((D.2 (t - 1)) j) v) → va_at D z_cl (h - 1, .inr (t - 1, (z_flds S I J h (t - 1)).set j v)) H' := fun H' e1 =>
    ⟨_, z_cl_at (t - 1) hci, t_OB.to (V := updV (vp_V (z_flds S I J h (t - 1))) j v) ⟨_, e1, q2, q3, t_set q4 hap hj v⟩ (fun i _ => vp_updV_set hl v i)⟩
  unfold u_lay at hlay
  by_cases hf : (z_T (t - 1) j).2.2.2 = true
  · rw [if_pos hf] at hlay
    obtain ⟨hin2, ho⟩ := hfin hf
    have hcf : m.cls = cf := by
      obtain ⟨_, _, c', _, _, _, -, -, hf', -, -, -, hown2, -⟩ := Cond.laysFinal_spec hlay
      have e1 : c' = cf := by have := hi.symm.trans hf'; simp at this; exact this.1.symm
      rw [z_dclok (t - 1) hci j hj, ho] at hown2
      rw [← e1]; exact Option.some.inj (hown.symm.trans hown2)
    have h6 := u_fits hfc hkC hkind (Or.inr hlay) hi hd hn hfit
    refine W.putFinK hexec hb hown hlink' hi hst hcf hin2 (by rw [q2]; exact h6) q1 q3 (by rw [hsl]; exact k2_hasslot (q4 j hj)) rfl rfl hdg fun H' e1 e2 e3 => ?_
    rw [hsl] at e1 ⊢
    exact kk H' _ e2 e3 (done H' e1) (fun x hx => by
      rcases List.mem_append.mp hx with q | q
      · exact Or.inl q
      · rw [List.mem_singleton.mp q]; exact Or.inr rfl)
  · rw [if_neg hf] at hlay
    have h6 := u_store hfc hkC hkind hlay hi hd hn hfit
    refine W.putK hexec hb (f := f) ⟨hown, hlink', ⟨_, _, _, hi⟩, hst⟩ (by rw [q2]; exact h6) q1 q3 (by rw [hsl]; exact k2_hasslot (q4 j hj)) rfl rfl hdg fun H' e1 e2 e3 => ?_
    rw [hsl] at e1 ⊢
    exact kk H' _ e2 e3 (done H' e1) (fun x hx => by
      rcases List.mem_append.mp hx with q | q
      · exact Or.inl q
      · rw [List.mem_singleton.mp q]; exact Or.inr rfl)
/-- the fields behind a write -/
theorem z_flds_set {S S' : zS} {I I' : zI} {J J' : zJ} {h ci j : Nat} {v : Value} (hj : j < z_nf ci) (hv : z_fv S' I' J' h j (z_tc (z_ty ci j)) = v) (ho : ∀ i, i ≠ j → z_fv S' I' J' h i (z_tc (z_ty ci i)) = z_fv S I J h i (z_tc (z_ty ci i))) : z_flds S' I' J' h ci = (z_flds S I J h ci).set j v := by
  apply List.ext_getElem?
  intro i
  by_cases hi : i = j
  · subst hi
    rw [z_flds_at hj, List.getElem?_set_self (by rw [z_flds_len]; exact hj), hv]
  · rw [List.getElem?_set_ne (Ne.symm hi)]
    by_cases hn : i < z_nf ci
    · rw [z_flds_at hn, z_flds_at hn, ho i hi]
    · rw [List.getElem?_eq_none (by rw [z_flds_len]; omega), List.getElem?_eq_none (by rw [z_flds_len]; omega)]
end ZP

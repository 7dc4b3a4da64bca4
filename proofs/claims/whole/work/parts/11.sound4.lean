/-! SOUNDNESS, fourth part: references into arrays, new cells, constants, arraycopy -/
section ZN
variable {p : Program} {l : Launch} {e : Env} {R : Room} {s s0 : State} {m : MethodId} {args : Array Value} {below : List Frame} {meth : Method} {c : Code} {H : Heap} {locs : List Loc} {cells slots : Nat} {Q : State → Prop}
variable {cc : ByteArray} {pc : Nat} {ls : Array Slot} {rest : List Value} {D : va_G} {cs : zCs} {S : zS} {I : zI} {J : zJ}
theorem z_aast1 (hw : z_World s0 D cs) (hW : s0.WarmedH s.vm) (hexec : p.tables.exec = Jvm.exec) (hb : c.code = cc) (hA : z_Abs s0 D cs S I J H) {h v ci t0 n : Nat} {cA : ClassId} (hP : va_P D z_cl [(h - 1, .inl (cA, n, .inr (.inr (.inr (.inr (fun i => z_op (z_rv S h i)))))))] H) (hlt : s0.heap.size < h)
    (hci : ci < 13) (ht : (z_tys cs)[t0]? = some (cA, .object (z_cn ci))) (hv : z_kd S v = ci + 1) {i : Int32} (hin : vp_in i n) (hdg : decode cc pc = .ok (.aastore, 1))
    (kk : ∀ (H' : Heap) (locs' : List Loc), H'.size = H.size → (∀ q, q ≠ h - 1 → H'[q]? = H[q]?) → H'[h - 1]? = some (arrV cA n (fun j => va_rf (z_op (z_rv (z_setR S h i.toNatClampNeg v) h j)))) → (∀ x ∈ locs', x ∈ locs ∨ x.base = h - 1) → W p l e R s m args below meth c H' locs' cells slots Q (F0 m (pc + 1) ls rest)) :
    W p l e R s m args below meth c H locs cells slots Q (F0 m pc ls (z_cv (.ref v) :: .int i :: z_cv (.ref h) :: rest)) := by
  have hlt2 : i.toNatClampNeg < n := Nat.not_le.mp fun q => hin (Or.inr q)
  have h0 : ¬ i < 0 := fun q => hin (Or.inl q)
  obtain ⟨hPv, hltv⟩ := z_obj hA hv (by omega) (by omega)
  have hK : va_K D z_cl (z_tys cs) s := hw.2.moved hW.alike
  rw [show ci + 1 - 1 = ci by omega] at hPv
  obtain ⟨r', hr', cellV, g1, g2, g3, -⟩ := hPv 0 _ rfl
  have hcls := (hK.1 ci _ (z_cl_at ci hci)).2
  obtain ⟨kA, comp, k1, k2, k3, -⟩ := (hK.2 t0 _ ht).2
  have hcomp : comp = D.1 ci := Option.some.inj (k3.symm.trans hcls.1)
  subst hcomp
  obtain ⟨kC, hkC, -⟩ := hcls.2
  rw [z_cvr hlt, z_cvr hltv]
  refine W.aast hexec hb (hP 0 _ rfl) (fun q h => by cases h) (fun h => by cases h) k1 k2 rfl hkC ⟨h0, by show _ < (arrV _ _ _).slots.size; rw [arrV_size]; exact hlt2⟩ g1 (fun q h => by rw [g3] at h; cases h) (by rw [g2]; exact hkC) (by rw [g2]; exact va_assign hcls) rfl rfl hdg fun H1 e z oq => ?_
  refine kk H1 _ z oq ?_ (fun y hy => by
      rcases List.mem_append.mp hy with q | q
      · exact Or.inl q
      · rw [List.mem_singleton.mp q]; exact Or.inr rfl)
  rw [e]
  show some (Cell.setSlot (vp_cell cA (n, .inr (.inr (.inr (.inr (fun i => z_op (z_rv S h i))))))) _ _) = _
  rw [vp_cell_q, arrV_store]
  congr 2
  funext q
  by_cases hq : q = i.toNatClampNeg
  · subst hq
    simp [updV, z_rv_setR, z_hn hltv, va_rf]
  · simp [updV, z_rv_setR, hq]
theorem z_aast (hw : z_World s0 D cs) (hW : s0.WarmedH s.vm) (hexec : p.tables.exec = Jvm.exec) (hb : c.code = cc) (hA : z_Abs s0 D cs S I J H) (hl : ∀ x ∈ locs, s0.heap.size ≤ x.base) {h v : Nat} (hk : z_isR (z_kd S h) = true) {i : Int32} (hin : vp_in i (z_ln S h)) (hv : z_kd S v = z_el (z_kd S h)) (hdg : decode cc pc = .ok (.aastore, 1))
    (kk : ∀ (H' : Heap) (locs' : List Loc), z_Abs s0 D cs (z_setR S h i.toNatClampNeg v) I J H' → (∀ x ∈ locs', s0.heap.size ≤ x.base) → W p l e R s m args below meth c H' locs' cells slots Q (F0 m (pc + 1) ls rest)) :
    W p l e R s m args below meth c H locs cells slots Q (F0 m pc ls (z_cv (.ref v) :: .int i :: z_cv (.ref h) :: rest)) := by
  rcases z_isR_or hk with hk | hk
  · obtain ⟨hP, hlt⟩ := z_encN hA hk
    refine z_aast1 (ci := 8) (t0 := 2) hw hW hexec hb hA hP hlt (by omega) rfl (by rw [hv, hk]; rfl) hin hdg fun H' locs' z oq hc hL => ?_
    refine kk H' locs' (hA.set z oq (by rw [hk]; rfl) (fun _ => rfl) (fun _ => rfl) rfl (fun a ha j => by rw [z_rv_setR, if_neg ha]) (fun _ _ _ => rfl) (fun _ _ _ => rfl) ?_) (z_locs hl (Nat.le_sub_one_of_lt hlt) hL)
    unfold z_enc
    rw [if_neg (by rw [z_kd_setR]; omega), if_neg (by rw [z_kd_setR]; omega), if_pos (by rw [z_kd_setR]; exact hk)]
    exact hc
  · obtain ⟨hP, hlt⟩ := z_encG hA hk
    refine z_aast1 (ci := 1) (t0 := 3) hw hW hexec hb hA hP hlt (by omega) rfl (by rw [hv, hk]; rfl) hin hdg fun H' locs' z oq hc hL => ?_
    refine kk H' locs' (hA.set z oq (by rw [hk]; rfl) (fun _ => rfl) (fun _ => rfl) rfl (fun a ha j => by rw [z_rv_setR, if_neg ha]) (fun _ _ _ => rfl) (fun _ _ _ => rfl) ?_) (z_locs hl (Nat.le_sub_one_of_lt hlt) hL)
    unfold z_enc
    rw [if_neg (by rw [z_kd_setR]; omega), if_neg (by rw [z_kd_setR]; omega), if_neg (by rw [z_kd_setR]; omega), if_pos (by rw [z_kd_setR]; exact hk)]
    exact hc
theorem z_defv : ∀ t : FieldType, t = .int ∨ t = .boolean ∨ t = .long ∨ (∃ n, t = .object n) ∨ (∃ u, t = .array u) → ∀ (S : zS) (I : zI) (J : zJ) (h j : Nat), I h j = 0 → J h j = 0 → z_rv S h j = 0 → defaultValue t = z_fv S I J h j (z_tc t) := by
  intro t ht S I J h j h1 h2 h3
  rcases ht with rfl | rfl | rfl | ⟨n, rfl⟩ | ⟨u, rfl⟩
  · show Value.int 0 = .int (I h j); rw [h1]
  · show Value.int 0 = .int (I h j); rw [h1]
  · show Value.long 0 = .long (J h j); rw [h2]
  · show Value.null = va_rf (z_op (z_rv S h j)); rw [h3]; rfl
  · show Value.null = va_rf (z_op (z_rv S h j)); rw [h3]; rfl
def z_tyk (t : FieldType) : Bool := match t with
  | .int => true
  | .boolean => true
  | .long => true
  | .object _ => true
  | .array _ => true
  | _ => false
theorem z_tyk_or {t : FieldType} (h : z_tyk t = true) : t = .int ∨ t = .boolean ∨ t = .long ∨ (∃ n, t = .object n) ∨ (∃ u, t = .array u) := by
  cases t with
  | int => exact Or.inl rfl
  | boolean => exact Or.inr (Or.inl rfl)
  | long => exact Or.inr (Or.inr (Or.inl rfl))
  | object n => exact Or.inr (Or.inr (Or.inr (Or.inl ⟨n, rfl⟩)))
  | array u => exact Or.inr (Or.inr (Or.inr (Or.inr ⟨u, rfl⟩)))
  | _ => cases h
theorem z_tyk_ok : ∀ ci, ci < 13 → ∀ k, k < z_nf ci → z_tyk (z_ty ci k) = true := by decide +kernel
theorem z_newc (hw : z_World s0 D cs) (hW : s0.WarmedH s.vm) (hexec : p.tables.exec = Jvm.exec) (hb : c.code = cc) {o k t : Nat} (hown : s.vm.findClass (z_cn o) = some m.cls) (hA : z_Abs s0 D cs S I J H) (h1 : 0 < t) (h2 : t ≤ 13)
    (hlink : Cond.classLink (z_cn o) k (z_cn (t - 1)) ∈ lw_tbl) (hins : Cond.instantiable (z_cn (t - 1)) (z_nf (t - 1)) ∈ lw_tbl) (hini : Cond.initialized (z_cn (t - 1)) ∈ lw_tbl) (hcells : cells + 1 ≤ R.cells) (hslots : slots + z_nf (t - 1) ≤ R.slots) (hdg : decode cc pc = .ok (.new k, 3))
    (kk : ∀ H' : Heap, z_Abs s0 D cs (z_new S t 0 (z_nf (t - 1))) (z_ur I (z_sz S + 1) (fun _ => 0)) (z_ur J (z_sz S + 1) (fun _ => 0)) H' → W p l e R s m args below meth c H' locs (cells + 1) (slots + z_nf (t - 1)) Q (F0 m (pc + 3) ls (z_cv (.ref (z_sz S + 1)) :: rest))) :
    W p l e R s m args below meth c H locs cells slots Q (F0 m pc ls rest) := by
  have hci : t - 1 < 13 := by omega
  have hK : va_K D z_cl (z_tys cs) s := hw.2.moved hW.alike
  have hKn := hK.1 (t - 1) _ (z_cl_at (t - 1) hci)
  have hts : ∀ w ∈ u_ws (z_cn (t - 1)) (z_T (t - 1)) (z_nf (t - 1)), w.before args s = true := fun w hm => z_at_s hw hW (z_lays (t - 1) hci w hm).1 (z_lays (t - 1) hci w hm).2
  refine W.newcK hexec hb hown (z_at_s hw hW hlink rfl) (z_at_s hw hW hins rfl) (z_at_s hw hW hini rfl) rfl hdg hcells hslots hKn.2.1 hA.1 fun H1 kC hkC e1 z1 o1 => ?_
  have hnn : t - 1 + 1 = t := by omega
  refine kk H1 (hA.push (by rw [hA.1]; exact z1) (fun q hq => o1 q (by rw [← hA.1]; exact hq)) (fun a ha => z_kd_nev ha) (fun a ha => z_ln_nev ha) z_sz_new (fun a ha j => z_rv_nev ha) (fun a ha j => z_ur_ne ha) (fun a ha j => z_ur_ne ha) (by rw [z_kd_new]; exact z_wk_obj h1 h2) ?_)
  rw [z_enc_obj z_kd_new h1 h2]
  refine ⟨_, z_cl_at (t - 1) hci, (u_born (z_ty (t - 1)) hts (fun w hm => hm) hKn hkC e1 (z_tyok (t - 1) hci)).to fun j hj => ?_⟩
  have hj' : j < z_nf (t - 1) := hj
  unfold vp_V
  rw [List.getD_eq_getElem?_getD, z_flds_at hj']
  show defaultValue (z_ty (t - 1) j) = _
  exact z_defv _ (z_tyk_or (z_tyk_ok (t - 1) hci j hj')) _ _ _ _ _ z_ur_same z_ur_same z_rv_new
theorem z_newi (hw : z_World s0 D cs) (hW : s0.WarmedH s.vm) (hexec : p.tables.exec = Jvm.exec) (hb : c.code = cc) (hA : z_Abs s0 D cs S I J H) {n : Int32} (hn : ¬ n < 0) (hb4 : n.toNatClampNeg * 4 ≤ 536870912) (hcells : cells + 1 ≤ R.cells) (hslots : slots + n.toNatClampNeg ≤ R.slots) (hdg : decode cc pc = .ok (.newarray .int, 2))
    (kk : ∀ H' : Heap, z_Abs s0 D cs (z_new S 100 n.toNatClampNeg n.toNatClampNeg) (z_ur I (z_sz S + 1) (fun _ => 0)) J H' → W p l e R s m args below meth c H' locs (cells + 1) (slots + n.toNatClampNeg) Q (F0 m (pc + 2) ls (z_cv (.ref (z_sz S + 1)) :: rest))) :
    W p l e R s m args below meth c H locs cells slots Q (F0 m pc ls (.int n :: rest)) := by
  have hK : va_K D z_cl (z_tys cs) s := hw.2.moved hW.alike
  refine va_newaK (atype := .int) hexec hb (z_at_s hw hW z_w_ai rfl) rfl hdg rfl hn rfl hb4 hcells hslots hA.1 fun H1 cA e1 z1 o1 hAr hNm => ?_
  have hcA : cA = cs.1 := Option.some.inj (hNm.symm.trans (hK.2 0 _ rfl).2)
  subst hcA
  refine kk H1 (hA.push (by rw [hA.1]; exact z1) (fun q hq => o1 q (by rw [← hA.1]; exact hq)) (fun a ha => z_kd_nev ha) (fun a ha => z_ln_nev ha) z_sz_new (fun a ha j => z_rv_nev ha) (fun a ha j => z_ur_ne ha) (fun a ha j => rfl) (by rw [z_kd_new]; rfl) ?_)
  unfold z_enc
  rw [if_pos z_kd_new, z_ln_new]
  show H1[z_sz S]? = some (vp_cell _ _)
  rw [e1, vp_cell_i]
  congr 2
  funext q
  rw [z_ur_same]
  rfl
theorem z_newb (hw : z_World s0 D cs) (hW : s0.WarmedH s.vm) (hexec : p.tables.exec = Jvm.exec) (hb : c.code = cc) (hA : z_Abs s0 D cs S I J H) {n : Int32} (hn : ¬ n < 0) (hb4 : n.toNatClampNeg * 4 ≤ 536870912) (hcells : cells + 1 ≤ R.cells) (hslots : slots + n.toNatClampNeg ≤ R.slots) (hdg : decode cc pc = .ok (.newarray .byte, 2))
    (kk : ∀ H' : Heap, z_Abs s0 D cs (z_new S 101 n.toNatClampNeg n.toNatClampNeg) (z_ur I (z_sz S + 1) (fun _ => 0)) J H' → W p l e R s m args below meth c H' locs (cells + 1) (slots + n.toNatClampNeg) Q (F0 m (pc + 2) ls (z_cv (.ref (z_sz S + 1)) :: rest))) :
    W p l e R s m args below meth c H locs cells slots Q (F0 m pc ls (.int n :: rest)) := by
  have hK : va_K D z_cl (z_tys cs) s := hw.2.moved hW.alike
  refine va_newaK (atype := .byte) hexec hb (z_at_s hw hW z_w_ab rfl) rfl hdg rfl hn rfl (by show _ * 1 ≤ _; omega) hcells hslots hA.1 fun H1 cA e1 z1 o1 hAr hNm => ?_
  have hcA : cA = cs.2.1 := Option.some.inj (hNm.symm.trans (hK.2 1 _ rfl).2)
  subst hcA
  refine kk H1 (hA.push (by rw [hA.1]; exact z1) (fun q hq => o1 q (by rw [← hA.1]; exact hq)) (fun a ha => z_kd_nev ha) (fun a ha => z_ln_nev ha) z_sz_new (fun a ha j => z_rv_nev ha) (fun a ha j => z_ur_ne ha) (fun a ha j => rfl) (by rw [z_kd_new]; rfl) ?_)
  unfold z_enc
  rw [if_neg (by rw [z_kd_new]; omega), if_pos z_kd_new, z_ln_new]
  show H1[z_sz S]? = some (vp_cell _ _)
  rw [e1, vp_cell_i]
  congr 2
  funext q
  rw [z_ur_same]
  rfl
theorem z_anew (hw : z_World s0 D cs) (hW : s0.WarmedH s.vm) (hexec : p.tables.exec = Jvm.exec) (hb : c.code = cc) {o k t0 kd : Nat} {cA0 : ClassId} {C : String} (hown : s.vm.findClass (z_cn o) = some m.cls) (hA : z_Abs s0 D cs S I J H) (hlink : Cond.classLink (z_cn o) k C ∈ lw_tbl) (hov : Cond.arrayOver (.object C) ∈ lw_tbl) (ht : (z_tys cs)[t0]? = some (cA0, .object C))
    (hwk : z_wk kd = true) (henc : ∀ (S' : zS) (J' : zJ) (h N : Nat), z_kd S' h = kd → z_ln S' h = N → (∀ j, z_rv S' h j = 0) → z_enc cs S' I J' h = .inl (cA0, N, .inr (.inr (.inr (.inr (fun _ => none))))))
    {n : Int32} (hn : ¬ n < 0) (hb4 : n.toNatClampNeg * 4 ≤ 536870912) (hcells : cells + 1 ≤ R.cells) (hslots : slots + n.toNatClampNeg ≤ R.slots) (hdg : decode cc pc = .ok (.anewarray k, 3))
    (kk : ∀ H' : Heap, z_Abs s0 D cs (z_new S kd n.toNatClampNeg n.toNatClampNeg) I J H' → W p l e R s m args below meth c H' locs (cells + 1) (slots + n.toNatClampNeg) Q (F0 m (pc + 3) ls (z_cv (.ref (z_sz S + 1)) :: rest))) :
    W p l e R s m args below meth c H locs cells slots Q (F0 m pc ls (.int n :: rest)) := by
  have hK : va_K D z_cl (z_tys cs) s := hw.2.moved hW.alike
  refine W.anew hexec hb hown (z_at_s hw hW hlink rfl) (va_AO.use (va_AO.moved hW.alike (show va_AO C s0 from hw.1 _ hov))) rfl hdg rfl hn hb4 hcells hslots fun cA kA comp f1 f2 f3 f4 => ?_
  obtain ⟨-, -, -, -, -, hNm⟩ := (hK.2 t0 _ ht).2
  have hcA : cA = cA0 := Option.some.inj (f1.symm.trans hNm)
  subst hcA
  have hz : H.size = z_sz S := hA.1
  generalize hH1 : H.push ({ cls := cA, slots := Array.replicate n.toNatClampNeg .null, vm := .none } : Cell) = H1
  have z1 : H1.size = H.size + 1 := by rw [← hH1, Array.size_push]
  have e1 : H1[H.size]? = some (arrV cA n.toNatClampNeg (fun _ => .null)) := by rw [← hH1, Array.getElem?_push_size, ← arrV_new]
  have o1 : ∀ q : Nat, q < H.size → H1[q]? = H[q]? := fun q hq => by rw [← hH1, Array.getElem?_push, if_neg (Nat.ne_of_lt hq)]
  rw [hz]
  refine kk H1 (hA.push z1 o1 (fun a ha => z_kd_nev ha) (fun a ha => z_ln_nev ha) z_sz_new (fun a ha j => z_rv_nev ha) (fun a ha j => rfl) (fun a ha j => rfl) (by rw [z_kd_new]; exact hwk) ?_)
  rw [henc _ _ _ _ z_kd_new z_ln_new (fun j => z_rv_new)]
  show H1[z_sz S]? = some (vp_cell _ _)
  rw [← hz, e1, vp_cell_q]
  rfl
end ZN

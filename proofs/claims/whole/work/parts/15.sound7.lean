/-! SOUNDNESS, seventh part: counts grow; methods are met; the law -/
def z_ge (S S' : zS) : Prop := z_ce S ≤ z_ce S' ∧ z_sl S ≤ z_sl S'
theorem z_ge.rf {S : zS} : z_ge S S := ⟨Nat.le_refl _, Nat.le_refl _⟩
theorem z_ge.nw {S : zS} {k n m : Nat} : z_ge S (z_new S k n m) := ⟨by rw [z_ce_new]; omega, by rw [z_sl_new]; omega⟩
def z_G (S : zS) (o : zO) : Prop := match o with
  | .inl (_, _, _, S', _, _) => z_ge S S'
  | .inr (.inl (_, _, _, _, S', _, _)) => z_ge S S'
  | .inr (.inr (.inl (_, _, S', _, _))) => z_ge S S'
  | .inr (.inr (.inr (.inl (_, _, _, S', _, _, k)))) => S' = S ∧ ∀ v S2 I J, (k v S2 I J).2.2.2.1 = S2
  | .inr (.inr (.inr (.inr _))) => True
theorem z_G_i1 {S : zS} {st : List Value} {f : Int32 → List Value → zO} (h : ∀ x r, z_G S (f x r)) : z_G S (z_i1 st f) := by
  unfold z_i1; split
  · exact h _ _
  · trivial
theorem z_G_j1 {S : zS} {st : List Value} {f : Int64 → List Value → zO} (h : ∀ x r, z_G S (f x r)) : z_G S (z_j1 st f) := by
  unfold z_j1; split
  · exact h _ _
  · trivial
theorem z_G_r1 {S : zS} {st : List Value} {f : Nat → List Value → zO} (h : ∀ x r, z_G S (f x r)) : z_G S (z_r1 st f) := by
  unfold z_r1; split
  · exact h _ _
  · trivial
theorem z_G_ii {S : zS} {st : List Value} {f : Int32 → Int32 → List Value → zO} (h : ∀ x y r, z_G S (f x y r)) : z_G S (z_ii st f) := by
  unfold z_ii; split
  · exact h _ _ _
  · trivial
theorem z_G_jj {S : zS} {st : List Value} {f : Int64 → Int64 → List Value → zO} (h : ∀ x y r, z_G S (f x y r)) : z_G S (z_jj st f) := by
  unfold z_jj; split
  · exact h _ _ _
  · trivial
theorem z_G_li {S : zS} {ls : List Value} {i : Nat} {f : Int32 → zO} (h : ∀ x, z_G S (f x)) : z_G S (z_li ls i f) := by
  unfold z_li; split
  · exact h _
  · trivial
theorem z_G_lj {S : zS} {ls : List Value} {i : Nat} {f : Int64 → zO} (h : ∀ x, z_G S (f x)) : z_G S (z_lj ls i f) := by
  unfold z_lj; split
  · exact h _
  · trivial
theorem z_G_lr {S : zS} {ls : List Value} {i : Nat} {f : Nat → zO} (h : ∀ x, z_G S (f x)) : z_G S (z_lr ls i f) := by
  unfold z_lr; split
  · exact h _
  · trivial
theorem z_G_st1 {S : zS} {ls : List Value} {i : Nat} {v : Value} {f : List Value → zO} (h : ∀ l, z_G S (f l)) : z_G S (z_st1 ls i v f) := by
  unfold z_st1; split
  · exact h _
  · trivial
theorem z_G_st2 {S : zS} {ls : List Value} {i : Nat} {v : Value} {f : List Value → zO} (h : ∀ l, z_G S (f l)) : z_G S (z_st2 ls i v f) := by
  unfold z_st2; split
  · exact h _
  · trivial
theorem z_G_cut {S : zS} {st : List Value} {n : Nat} {f : List Value → List Value → zO} (h : ∀ a r, z_G S (f a r)) : z_G S (z_cut st n f) := by
  unfold z_cut; split
  · exact h _ _
  · trivial
set_option maxHeartbeats 4000000 in
theorem z_G_out (e : zE) (pc : Nat) (ls st : List Value) (S : zS) (I : zI) (J : zJ) : z_G S (z_out e pc ls st S I J) := by
  obtain ⟨i, len, r1, r2, im, jm, tg⟩ := e
  unfold z_out
  dsimp only
  split
  all_goals
    repeat' first
      | exact z_ge.rf
      | exact z_ge.nw
      | trivial
      | exact ⟨rfl, fun _ _ _ _ => rfl⟩
      | (refine z_G_i1 (fun _ _ => ?_))
      | (refine z_G_j1 (fun _ _ => ?_))
      | (refine z_G_r1 (fun _ _ => ?_))
      | (refine z_G_ii (fun _ _ _ => ?_))
      | (refine z_G_jj (fun _ _ _ => ?_))
      | (refine z_G_li (fun _ => ?_))
      | (refine z_G_lj (fun _ => ?_))
      | (refine z_G_lr (fun _ => ?_))
      | (refine z_G_st1 (fun _ => ?_))
      | (refine z_G_st2 (fun _ => ?_))
      | (refine z_G_cut (fun _ _ => ?_))
      | split
theorem z_ev_ge : ∀ (d : Nat) {y : Nat} {as : List Value} {S S' : zS} {I I' : zI} {J J' : zJ} {v : Option Value}, z_ev d y as S I J v S' I' J' → z_ge S S'
  | 0, _, _, _, _, _, _, _, _, _, h => h.elim
  | d + 1, y, as, S, S', I, I', J, J', v, h => by
    have hgo : z_go (z_wp d) (z_tab y) (z_eq v S' I' J') (0, z_ls y as, [], S, I, J) := h.2
    refine hgo (fun c => z_ge c.2.2.2.1 S') ?_
    rintro ⟨pc, ls, st, S1, I1, J1⟩ hs
    have hG : z_G S1 (z_step (z_tab y) (pc, ls, st, S1, I1, J1)) := by
      unfold z_step
      dsimp only
      split
      · exact z_G_out _ _ _ _ _ _ _
      · trivial
    rcases ho : z_step (z_tab y) (pc, ls, st, S1, I1, J1) with c | ⟨g, c⟩ | ⟨g, v1, S2, I2, J2⟩ | ⟨g, y2, as2, S2, I2, J2, k⟩ | _
    · rw [ho] at hs hG
      exact ⟨Nat.le_trans hG.1 hs.1, Nat.le_trans hG.2 hs.2⟩
    · rw [ho] at hs hG
      exact ⟨Nat.le_trans hG.1 hs.2.1, Nat.le_trans hG.2 hs.2.2⟩
    · rw [ho] at hs hG
      obtain ⟨-, -, rfl, -⟩ := hs
      exact hG
    · rw [ho] at hs hG
      obtain ⟨-, v3, S3, I3, J3, h3, h4⟩ := hs
      obtain ⟨rfl, hk⟩ := hG
      have h5 := z_ev_ge d h3
      have h4' : z_ge (k v3 S3 I3 J3).2.2.2.1 S' := h4
      rw [hk] at h4'
      exact ⟨Nat.le_trans h5.1 h4'.1, Nat.le_trans h5.2 h4'.2⟩
    · rw [ho] at hs
      exact hs.elim
/-- the entry's locals -/
theorem z_exp_args : ∀ (as : List Value) (n j : Nat) (w : Value), z_get (z_exp as) j = w → w ≠ .retAddr 0 → (n + j, z_cv w) ∈ lv_args n (as.map z_cv)
  | [], n, j, w, h, hw => absurd h.symm hw
  | v :: l, n, j, w, h, hw => by
    have h1 : ∀ (u : Value), z_exp (u :: l) = u :: z_exp l → (z_cv u).category = 1 → z_get (u :: z_exp l) j = w → (n + j, z_cv w) ∈ lv_args n ((u :: l).map z_cv) := by
      intro u _ hc hg
      show _ ∈ (n, z_cv u) :: lv_args (if (z_cv u).category = 2 then n + 2 else n + 1) (l.map z_cv)
      rw [if_neg (by omega)]
      cases j with
      | zero =>
        cases hg
        exact List.mem_cons_self
      | succ j =>
        have := z_exp_args l (n + 1) j w hg hw
        rw [show n + 1 + j = n + (j + 1) by omega] at this
        exact List.mem_cons_of_mem _ this
    have h2 : ∀ (u : Value), z_exp (u :: l) = u :: .retAddr 0 :: z_exp l → (z_cv u).category = 2 → z_get (u :: .retAddr 0 :: z_exp l) j = w → (n + j, z_cv w) ∈ lv_args n ((u :: l).map z_cv) := by
      intro u _ hc hg
      show _ ∈ (n, z_cv u) :: lv_args (if (z_cv u).category = 2 then n + 2 else n + 1) (l.map z_cv)
      rw [if_pos hc]
      match j, hg with
      | 0, hg =>
        cases hg
        exact List.mem_cons_self
      | 1, hg => exact absurd hg.symm hw
      | j + 2, hg =>
        have := z_exp_args l (n + 2) j w hg hw
        rw [show n + 2 + j = n + (j + 2) by omega] at this
        exact List.mem_cons_of_mem _ this
    cases v with
    | int x => exact h1 _ rfl rfl h
    | long x => exact h2 _ rfl rfl h
    | float x => exact h1 _ rfl rfl h
    | double x => exact h2 _ rfl rfl h
    | null => exact h1 _ rfl rfl h
    | ref a => exact h1 _ rfl (by cases a <;> rfl) h
    | retAddr a => exact h1 _ rfl rfl h
theorem z_get_app : ∀ (l r : List Value) (j : Nat), (∀ v ∈ r, v = .retAddr 0) → z_get (l ++ r) j ≠ .retAddr 0 → z_get (l ++ r) j = z_get l j
  | [], [], _, _, h => absurd rfl h
  | [], v :: r, 0, hr, h => absurd (hr v List.mem_cons_self) h
  | [], v :: r, j + 1, hr, h => absurd (show z_get r j = .retAddr 0 by
      have h3 : z_get ([] ++ r) j ≠ .retAddr 0 := h
      exact z_get_app [] r j (fun w hw => hr w (List.mem_cons_of_mem _ hw)) h3) h
  | v :: l, r, 0, _, _ => rfl
  | v :: l, r, j + 1, hr, h => z_get_app l r j hr h
theorem z_exp_len : ∀ (as : List Value), (z_exp as).length = (lg_sl (as.map z_cv)).length
  | [] => rfl
  | v :: l => by
    have ih := z_exp_len l
    have e : lg_sl ((v :: l).map z_cv) = (if (z_cv v).category = 2 then [.val (z_cv v), .second] else [.val (z_cv v)]) ++ lg_sl (l.map z_cv) := rfl
    rw [e]
    cases v with
    | int x => show (z_exp l).length + 1 = _; rw [ih, if_neg (by simp [z_cv, Value.category])]; simp
    | long x => show (z_exp l).length + 1 + 1 = _; rw [ih, if_pos (by simp [z_cv, Value.category])]; simp
    | float x => show (z_exp l).length + 1 = _; rw [ih, if_neg (by simp [z_cv, Value.category])]; simp
    | double x => show (z_exp l).length + 1 + 1 = _; rw [ih, if_pos (by simp [z_cv, Value.category])]; simp
    | null => show (z_exp l).length + 1 = _; rw [ih, if_neg (by simp [z_cv, Value.category])]; simp
    | ref a => show (z_exp l).length + 1 = _; rw [ih, if_neg (by cases a <;> simp [z_cv, z_op, va_rf, Value.category])]; simp
    | retAddr a => show (z_exp l).length + 1 = _; rw [ih, if_neg (by simp [z_cv, Value.category])]; simp
theorem z_Loc_entry {y : Nat} {as : List Value} {n : Nat} (hn : z_ml y = n) (h : (z_exp as).length ≤ n) : (z_ls y as).length = n ∧ z_Loc (z_ls y as) ((lg_sl (as.map z_cv) ++ List.replicate (n - (lg_sl (as.map z_cv)).length) Slot.unset).toArray) := by
  have hl : (z_ls y as).length = n := by
    unfold z_ls
    rw [List.length_append, List.length_replicate, hn]
    omega
  refine ⟨hl, ?_⟩
  have h1 := lv_entry (as.map z_cv) (n := n) (by rw [← z_exp_len]; exact h)
  unfold z_Loc
  rw [hl]
  refine ⟨h1.1, h1.2.1, fun q hq => ?_⟩
  obtain ⟨j, w⟩ := q
  obtain ⟨g1, g2⟩ := z_asc_mem.mp hq
  subst g2
  have e : z_get (z_ls y as) j = z_get (z_exp as) j := z_get_app _ _ j (fun v hv => (List.mem_replicate.mp hv).2) g1
  refine h1.2.2 _ ?_
  have := z_exp_args as 0 j (z_get (z_ls y as) j) e.symm g1
  rwa [Nat.zero_add] at this
theorem z_rc_int {t : Option FieldType} (h : z_rc t = 0) : t = some .int := by
  unfold z_rc at h
  split at h <;> first | rfl | cases h
theorem z_rc_long {t : Option FieldType} (h : z_rc t = 1) : t = some .long := by
  unfold z_rc at h
  split at h <;> first | rfl | cases h
theorem z_rc_none {t : Option FieldType} (h : z_rc t = 9) : t = none := by
  unfold z_rc at h
  split at h <;> first | rfl | cases h
theorem z_rc_ref {t : Option FieldType} (h : z_rc t = 2) : ∃ rt, t = some rt ∧ ((∃ n, rt = .object n) ∨ ∃ u, rt = .array u) := by
  unfold z_rc at h
  split at h <;> first | exact ⟨_, rfl, Or.inl ⟨_, rfl⟩⟩ | exact ⟨_, rfl, Or.inr ⟨_, rfl⟩⟩ | cases h
theorem z_rc_boolean {t : Option FieldType} (h : z_rc t = 3) : t = some .boolean := by
  unfold z_rc at h
  split at h <;> first | rfl | cases h
theorem z_rc_char {t : Option FieldType} (h : z_rc t = 4) : t = some .char := by
  unfold z_rc at h
  split at h <;> first | rfl | cases h
theorem z_rc_byte {t : Option FieldType} (h : z_rc t = 5) : t = some .byte := by
  unfold z_rc at h
  split at h <;> first | rfl | cases h
theorem z_rc_nar {t : Option FieldType} {rc : Nat} (h : z_rc t = rc) (h1 : 3 ≤ rc) (h2 : rc ≤ 5) : ∃ ty, t = some ty ∧ ((rc = 3 ∧ ty = .boolean) ∨ (rc = 4 ∧ ty = .char) ∨ (rc = 5 ∧ ty = .byte)) := by
  rcases (show rc = 3 ∨ rc = 4 ∨ rc = 5 by omega) with q | q | q
  · exact ⟨_, z_rc_boolean (h.trans q), Or.inl ⟨q, rfl⟩⟩
  · exact ⟨_, z_rc_char (h.trans q), Or.inr (Or.inl ⟨q, rfl⟩)⟩
  · exact ⟨_, z_rc_byte (h.trans q), Or.inr (Or.inr ⟨q, rfl⟩)⟩
theorem z_sound {l : Launch} {s0 : State} {D : va_G} {cs : zCs} (hw : z_World s0 D cs) : ∀ d, z_Snd l s0 D cs d
  | 0 => fun _ _ _ _ _ _ _ _ _ _ _ h => h.elim
  | d + 1 => by
    intro y q as S I J v S' I' J' hq hev
    have hge := z_ev_ge (d + 1) hev
    refine ⟨hge.1, hge.2, ?_⟩
    obtain ⟨hlen, hgo⟩ := hev
    obtain ⟨a1, a2, a3, a4, a5, a6, a7, a8, a9, a10⟩ := z_wd_use hq
    have hok := (z_info hq).1
    have hmL := z_infl hq
    refine va_MetF (cc := q.2.1) (maxL := q.2.2.1) (ret := q.2.2.2.1) a3 rfl ?_
    intro p e s m args below meth c s₁ B hml hv
    obtain ⟨rfl, hW, hA⟩ := hv
    have hx := B.exec
    have hb := B.bytes
    have hr := B.returns
    have hlocks := B.notSynchronized
    have hown : s.vm.findClass (z_cn q.2.2.2.2.1) = some m.cls := by rw [← a2]; exact findClass_of_methodNamed B.named
    have hnm : q.2.2.2.2.2.2 = 2 → meth.name = "<init>" := fun hk => by rw [(name_of_methodNamed B.named B.method).1]; exact (a10 hk).2.1
    have hP := hgo (z_P p l e (z_room (d + 1) (z_ce S' - z_ce S) (z_sl S' - z_sl S)) s s0 m (as.map z_cv).toArray below meth c (MQ below (z_Qc s0 D cs v S' I' J') (as.map z_cv).toArray s (z_ce S' - z_ce S) (z_sl S' - z_sl S) (zB s0)) D cs (z_ce S) (z_sl S) (z_ce S') (z_sl S') q.2.2.1)
      (z_close (IE := I') (JE := J') hw hW hx hb hml hown hnm (Nat.le_refl _) (Nat.le_refl _) (Nat.le_refl _) (Nat.le_refl _) hok (z_sound hw d) (fun pc i st lsA H locs hd hR hA' hl => by
        rcases hR with ⟨rfl, x, rfl, hv, hrc⟩ | ⟨rfl, x, rfl, hv, hrc⟩ | ⟨rfl, x, rfl, hv, hrc⟩ | ⟨rfl, rfl, hv, hrc⟩
        · cases hv
          rcases hrc with hrc | ⟨h3, h5, hf⟩
          · exact W.zret hx hb (hr.trans (z_rc_int hrc)) rfl (fun t ht _ => ⟨rfl, by rw [ht]; exact hA'⟩) hl hd hlocks
          · obtain ⟨ty, e1, e2⟩ := z_rc_nar rfl h3 h5
            exact W.zret hx hb (hr.trans e1) (z_fit_nar hf e2) (fun t ht _ => ⟨rfl, by rw [ht]; exact hA'⟩) hl hd hlocks
        · cases hv
          exact W.lret hx hb (hr.trans (z_rc_long hrc)) (fun t ht _ => ⟨rfl, by rw [ht]; exact hA'⟩) hl hd hlocks
        · cases hv
          obtain ⟨rt, e1, e2⟩ := z_rc_ref hrc
          exact W.aret hx hb (hr.trans e1) e2 (va_rf_or _) (fun t ht _ => ⟨rfl, by rw [ht]; exact hA'⟩) hl hd hlocks
        · cases hv
          exact W.vret hx hb (hr.trans (z_rc_none hrc)) (fun t ht _ => ⟨rfl, by rw [ht]; exact hA'⟩) hl hd hlocks))
    obtain ⟨-, -, k⟩ := hP
    obtain ⟨e1, e2⟩ := z_Loc_entry (y := y) (as := as) hmL (by rw [← hmL]; exact hlen)
    have h3 := k (Nat.le_refl _) (Nat.le_refl _) e1 s.heap [] _ hA e2 (fun x hx => by cases hx)
    rw [Nat.sub_self, Nat.sub_self] at h3
    rw [lg_entry_eq]
    exact h3
/-- the law's own walk, out of a run of the abstract machine -/
theorem z_law {p : Program} {l : Launch} {e : Env} {s : State} {m : MethodId} {below : List Frame} {meth : Method} {c : Code} {b d : Nat} {D : va_G} {cs : zCs} {S S' : zS} {I I' : zI} {J J' : zJ} (hw : z_World s D cs) (hx : p.tables.exec = Jvm.exec) (hb : c.code = code) (hr : meth.sig.returnType = ret) (hml : c.maxLocals = 4) (hown : s.vm.findClass R_law = some m.cls) (hlocks : meth.locks = false)
    (hA : z_Abs s D cs S I J s.heap) (hd : d ≤ 1300) (hev : z_ev (d + 1) i_law [.ref (b + 1)] S I J (some (.int 1)) S' I' J') (hc : z_ce S' ≤ z_ce S + 600000) (hs : z_sl S' ≤ z_sl S + 7302250) :
    W p l e room_1 s m #[Value.ref b] below meth c s.heap [] 0 0 (lw_Z below #[Value.ref b] s) (entryFrame m ([Value.ref b] : List Value).toArray 4) := by
  obtain ⟨hlen, hgo⟩ := hev
  have hP := hgo (z_P p l e room_1 s s m #[Value.ref b] below meth c (lw_Z below #[Value.ref b] s) D cs (z_ce S) (z_sl S) (z_ce S') (z_sl S') 4)
    (z_close (o := 18) (rc := 3) (kd := 1) (IE := I') (JE := J') hw (State.WarmedH.refl s) hx hb hml hown (fun h => by cases h) (by show d + 1 ≤ 2048; omega) (by show 64 * (d + 1) ≤ 84000; omega) (by show _ ≤ 600000; omega) (by show _ ≤ 7302250; omega) (fun pc e h => z_ck_law h) (z_sound hw d) (fun pc i st lsA H locs hdg hR hA' hl => by
      rcases hR with ⟨rfl, x, rfl, hv, hrc⟩ | ⟨rfl, x, rfl, hv, hrc⟩ | ⟨rfl, x, rfl, hv, hrc⟩ | ⟨rfl, rfl, hv, hrc⟩
      · cases hv
        refine va_forget hl (W.widen (k := 600000) (n := 7302250) (by omega) (by omega) ?_)
        exact lw_ret hx hb hr hlocks hdg
      · cases hv
      · cases hv
      · cases hv))
  obtain ⟨-, -, k⟩ := hP
  obtain ⟨e1, e2⟩ := z_Loc_entry (y := i_law) (as := [.ref (b + 1)]) (n := 4) rfl (Nat.le_of_ble_eq_true rfl)
  have h3 := k (Nat.le_refl _) (Nat.le_refl _) e1 s.heap [] _ hA e2 (fun x hx => by cases hx)
  rw [Nat.sub_self, Nat.sub_self] at h3
  rw [lg_entry_eq]
  exact h3

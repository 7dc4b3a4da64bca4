/-! THE CLASS: what a Group finds out when it is made -/
/-- a group's mark -/
noncomputable def mrk (n : Nat) (t : Nat → Nat → Nat) (iv : Nat → Nat) (x : Nat) : Nat := per t x * 1024 + zc n (cls n t iv x) * 32 + zcn (fun y => t y y = x) n
section C4
variable {d g n : Nat} {t : Nat → Nat → Nat} {iv : Nat → Nat} {S : zS} {I : zI} {J : zJ}
theorem z_wr {S : zS} {h n x : Nat} (h1 : z_kd S h = 100) (h2 : z_ln S h = n) (hx : x < n) (hn : n < 2 ^ 31) : z_kd S h = 100 ∧ vp_in (nI x) (z_ln S h) := ⟨h1, by rw [h2]; exact vp_in_nI hx hn⟩
theorem c_findInverses (hd : 0 < d) (h : CT S I g n t) (hg : Grp n t iv) (h1 : z_kd S (z_rv S g 2) = 100) (h2 : z_ln S (z_rv S g 2) = n) (h3 : z_rv S g 2 ≠ z_rv S g 1) : z_ev d i_X1_findInverses [.ref g] S I J none S (zfill I (z_rv S g 2) n (fun x => nI (iv x))) J := by
  obtain ⟨d, rfl⟩ := z_dep hd
  have hn := h.le
  have h4' := z_sq400 hn
  have hne : g ≠ z_rv S g 2 := fun e => by rw [← e, h.1] at h1; cases h1
  have hC : ∀ k, CT S (zfill I (z_rv S g 2) k (fun x => nI (iv x))) g n t := fun k => h.fr (by rw [zfill_ne hne]) (zfill_ne (fun e => h3 e.symm))
  refine e_X1_findInverses (b_X1_findInverses_0 ?_)
  suffices H : ∀ k, k ≤ n → ∀ x1 v2 I', x1 = nI k → I' = zfill I (z_rv S g 2) k (fun x => nI (iv x)) → Go d i_X1_findInverses 2 [.ref g, .int x1, v2] [] S I' J (z_eq none S (zfill I (z_rv S g 2) n (fun x => nI (iv x))) J) from H 0 (by omega) _ _ _ rfl zfill_0.symm
  refine z_up_to n ?_ ?_
  · rintro x1 v2 I' rfl rfl
    exact b_X1_findInverses_2 h.1 (fun _ => b_X1_findInverses_55 ⟨rfl, rfl, rfl, rfl⟩) (fun c => absurd (hC n).ge c)
  · rintro k hk ih x1 v2 I' rfl rfl
    refine b_X1_findInverses_2 h.1 (fun c => absurd c ((hC k).nge hk)) (fun _ => b_X1_findInverses_10 ?_)
    have hik := hg.il hk
    suffices H2 : ∀ l, l ≤ n → ∀ x2 I', x2 = nI l → I' = zfill I (z_rv S g 2) (if l ≤ iv k then k else k + 1) (fun x => nI (iv x)) → Go d i_X1_findInverses 12 [.ref g, .int (nI k), .int x2] [] S I' J (z_eq none S (zfill I (z_rv S g 2) n (fun x => nI (iv x))) J) from H2 0 (by omega) _ _ rfl (by rw [if_pos (Nat.zero_le _)])
    refine z_up_to n ?_ ?_
    · rintro x2 I' rfl rfl
      rw [if_neg (by omega)]
      exact b_X1_findInverses_12 h.1 (fun _ => b_X1_findInverses_49 (ih _ _ _ (nI_1 k) rfl)) (fun c => absurd (hC (k + 1)).ge c)
    · rintro l hl ih2 x2 I' rfl rfl
      have hC' := hC (if l ≤ iv k then k else k + 1)
      refine b_X1_findInverses_12 h.1 (fun c => absurd c (hC'.nge hl)) (fun _ => ?_)
      obtain ⟨c1, c2, c3, c4, c5, c6⟩ := hC'
      obtain ⟨k1, k2⟩ := m_idx (a := k * n + l) (N := n * n) (x := nI k * zfill I (z_rv S g 2) (if l ≤ iv k then k else k + 1) (fun x => nI (iv x)) g 0 + nI l) (by rw [c2, pk_mul, nI_add]) (z_sq hk hl) (by omega)
      have htl := hg.lt hk hl
      refine b_X1_findInverses_20 h.1 h.1 ⟨by rw [c4]; rfl, by rw [c5]; exact k1⟩ (fun c => b_X1_findInverses_43 (ih2 _ _ (nI_1 l) ?_)) (fun c => b_X1_findInverses_36 h.1 (z_wr h1 h2 hk (by omega)) (ih2 _ _ (nI_1 l) ?_))
      · rw [k2, c6 k hk l hl, z_eq0 (by omega)] at c
        have hne2 : l ≠ iv k := fun e => c (by rw [e]; exact hg.ri hk)
        by_cases hle : l ≤ iv k
        · rw [if_pos hle, if_pos (by omega)]
        · rw [if_neg hle, if_neg (by omega)]
      · rw [k2, c6 k hk l hl, z_eq0 (by omega)] at c
        have he := hg.iu hk hl c
        rw [if_pos (by omega), if_neg (by omega), nI_clamp (by omega), zfill_s (by rw [he])]
theorem c_findPeriods (hd : 1 < d) (h : CT S I g n t) (hg : Grp n t iv) (h1 : z_kd S (z_rv S g 3) = 100) (h2 : z_ln S (z_rv S g 3) = n) (h3 : z_rv S g 3 ≠ z_rv S g 1) : z_ev d i_X1_findPeriods [.ref g] S I J none S (zfill I (z_rv S g 3) n (fun x => nI (per t x))) J := by
  obtain ⟨d, rfl⟩ := z_dep (d := d) (by omega)
  have hn := h.le
  have hne : g ≠ z_rv S g 3 := fun e => by rw [← e, h.1] at h1; cases h1
  have hC : ∀ k, CT S (zfill I (z_rv S g 3) k (fun x => nI (per t x))) g n t := fun k => h.fr (by rw [zfill_ne hne]) (zfill_ne (fun e => h3 e.symm))
  refine e_X1_findPeriods (b_X1_findPeriods_0 ?_)
  suffices H : ∀ k, k ≤ n → ∀ x1 v2 v3 I', x1 = nI k → I' = zfill I (z_rv S g 3) k (fun x => nI (per t x)) → Go d i_X1_findPeriods 2 [.ref g, .int x1, v2, v3] [] S I' J (z_eq none S (zfill I (z_rv S g 3) n (fun x => nI (per t x))) J) from H 0 (by omega) _ _ _ _ rfl zfill_0.symm
  refine z_up_to n ?_ ?_
  · rintro x1 v2 v3 I' rfl rfl
    exact b_X1_findPeriods_2 h.1 (fun _ => b_X1_findPeriods_52 ⟨rfl, rfl, rfl, rfl⟩) (fun c => absurd (hC n).ge c)
  · rintro k hk ih x1 v2 v3 I' rfl rfl
    refine b_X1_findPeriods_2 h.1 (fun c => absurd c ((hC k).nge hk)) (fun _ => b_X1_findPeriods_10 ?_)
    obtain ⟨e, he, hen, hpe, hpl⟩ := per_spec hg hk
    suffices H2 : ∀ l, l ≤ e → ∀ x2 x3, x2 = nI (pw t k l) → x3 = nI (l + 1) → Go d i_X1_findPeriods 14 [.ref g, .int (nI k), .int x2, .int x3] [] S (zfill I (z_rv S g 3) k (fun x => nI (per t x))) J (z_eq none S (zfill I (z_rv S g 3) n (fun x => nI (per t x))) J) from H2 0 (by omega) _ _ rfl rfl
    refine z_up_to e ?_ ?_
    · rintro x2 x3 rfl rfl
      refine b_X1_findPeriods_14 (fun _ => ?_) (fun c => absurd (by rw [hpe]; rfl) c)
      refine b_X1_findPeriods_39 h.1 (z_wr h1 h2 hk (by omega)) (ih _ _ _ _ (nI_1 k) ?_)
      rw [nI_clamp (by omega), zfill_s (by rw [he])]
    · rintro l hl ih2 x2 x3 rfl rfl
      have hlt := pw_lt hg hk l
      refine b_X1_findPeriods_14 (fun c => absurd ((z_eq0 (by omega)).mp c) (hpl l hl)) (fun _ => ?_)
      refine b_X1_findPeriods_18 h.1 (fun c => absurd c ((hC k).nge (by omega))) (fun _ => ?_)
      exact b_X1_findPeriods_26 h.1 ⟨_, _, _, _, c_times (by omega) (hC k) hlt hk, b_X1_findPeriods_32 (ih2 _ _ rfl (nI_1 _))⟩
theorem c_findClasses (hd : 1 < d) (h : CT S I g n t) (hg : Grp n t iv) (hi : CR S I g 2 n iv) (h1 : z_kd S (z_rv S g 4) = 100) (h2 : z_ln S (z_rv S g 4) = n) (h3 : z_rv S g 4 ≠ z_rv S g 1) (h4 : z_rv S g 4 ≠ z_rv S g 2) : z_ev d i_X1_findClasses [.ref g] S I J none S (zfill I (z_rv S g 4) n (fun x => nI (cls n t iv x))) J := by
  obtain ⟨d, rfl⟩ := z_dep (d := d) (by omega)
  have hn := h.le
  have hne : g ≠ z_rv S g 4 := fun e => by rw [← e, h.1] at h1; cases h1
  have hC : ∀ k, CT S (zfill I (z_rv S g 4) k (fun x => nI (cls n t iv x))) g n t := fun k => h.fr (by rw [zfill_ne hne]) (zfill_ne (fun e => h3 e.symm))
  have hI : ∀ k, CR S (zfill I (z_rv S g 4) k (fun x => nI (cls n t iv x))) g 2 n iv := fun k => hi.fr (zfill_ne (fun e => h4 e.symm))
  refine e_X1_findClasses (b_X1_findClasses_0 ?_)
  suffices H : ∀ k, k ≤ n → ∀ x1 v2 v3 I', x1 = nI k → I' = zfill I (z_rv S g 4) k (fun x => nI (cls n t iv x)) → Go d i_X1_findClasses 2 [.ref g, .int x1, v2, v3] [] S I' J (z_eq none S (zfill I (z_rv S g 4) n (fun x => nI (cls n t iv x))) J) from H 0 (by omega) _ _ _ _ rfl zfill_0.symm
  refine z_up_to n ?_ ?_
  · rintro x1 v2 v3 I' rfl rfl
    exact b_X1_findClasses_2 h.1 (fun _ => b_X1_findClasses_62 ⟨rfl, rfl, rfl, rfl⟩) (fun c => absurd (hC n).ge c)
  · rintro k hk ih x1 v2 v3 I' rfl rfl
    refine b_X1_findClasses_2 h.1 (fun c => absurd c ((hC k).nge hk)) (fun _ => b_X1_findClasses_10 ?_)
    suffices H2 : ∀ l, l ≤ n → ∀ x2 x3, x2 = nI (zim (fun _ => true) (fun g => t (t (iv g) k) g) l) → x3 = nI l → Go d i_X1_findClasses 14 [.ref g, .int (nI k), .int x2, .int x3] [] S (zfill I (z_rv S g 4) k (fun x => nI (cls n t iv x))) J (z_eq none S (zfill I (z_rv S g 4) n (fun x => nI (cls n t iv x))) J) from H2 0 (by omega) _ _ rfl rfl
    refine z_up_to n ?_ ?_
    · rintro x2 x3 rfl rfl
      refine b_X1_findClasses_14 h.1 (fun _ => ?_) (fun c => absurd (hC k).ge c)
      refine b_X1_findClasses_49 h.1 (z_wr h1 h2 hk (by omega)) (ih _ _ _ _ (nI_1 k) ?_)
      rw [nI_clamp (by omega)]; exact zfill_s rfl
    · rintro l hl ih2 x2 x3 rfl rfl
      obtain ⟨k1, k2⟩ := (hI k).at hl (by omega)
      have a1 := hg.il hl
      have a2 := hg.lt hk hl
      have a3 := hg.lt a1 a2
      refine b_X1_findClasses_14 h.1 (fun c => absurd c ((hC k).nge hl)) (fun _ => ?_)
      refine b_X1_findClasses_22 h.1 k1 h.1 ⟨_, _, _, _, c_times (by omega) (hC k) hk hl, ?_⟩
      refine b_X1_findClasses_37 h.1 ⟨_, _, _, _, by rw [k2]; exact c_times (by omega) (hC k) a1 a2, ?_⟩
      refine b_X1_findClasses_40 (ih2 _ _ ?_ (nI_1 l))
      rw [z_shl1 (by omega), z_or, zim_t rfl, hg.as a1 hk hl]
theorem z_mk {a b : Nat} (ha : a ≤ 20) (hb : b ≤ 20) : nI a <<< ((10 : Int32) &&& 31) ||| nI b <<< ((5 : Int32) &&& 31) = nI (a * 1024 + b * 32) := by
  rw [z_lit 10, z_lit 5, z_shl (by omega) (by omega), z_shl (by omega) (by omega), z_or]
  refine congrArg nI ?_
  have := Nat.two_pow_add_eq_or_of_lt (i := 10) (b := b * 2 ^ 5) (by omega) a
  rw [Nat.mul_comm (2 ^ 10) a] at this
  exact this.symm
/-- marks when the first k are through -/
noncomputable def mrkk (n : Nat) (t : Nat → Nat → Nat) (iv : Nat → Nat) (k x : Nat) : Nat := (if x < k then per t x * 1024 + zc n (cls n t iv x) * 32 else 0) + zcn (fun y => t y y = x) k
theorem c_findMarks (hd : 1 < d) (h : CT S I g n t) (hg : Grp n t iv) (hp : CR S I g 3 n (per t)) (hc : CR S I g 4 n (cls n t iv)) (h1 : z_kd S (z_rv S g 5) = 100) (h2 : z_ln S (z_rv S g 5) = n) (h3 : z_rv S g 5 ≠ z_rv S g 1) (h4 : z_rv S g 5 ≠ z_rv S g 3) (h5 : z_rv S g 5 ≠ z_rv S g 4) (h0 : ∀ x, x < n → I (z_rv S g 5) x = 0) : z_ev d i_X1_findMarks [.ref g] S I J none S (zfill I (z_rv S g 5) n (fun x => nI (mrk n t iv x))) J := by
  obtain ⟨d, rfl⟩ := z_dep (d := d) (by omega)
  have hn := h.le
  have hne : g ≠ z_rv S g 5 := fun e => by rw [← e, h.1] at h1; cases h1
  have hC : ∀ f, CT S (zfill I (z_rv S g 5) n f) g n t := fun f => h.fr (by rw [zfill_ne hne]) (zfill_ne (fun e => h3 e.symm))
  have hP : ∀ f, CR S (zfill I (z_rv S g 5) n f) g 3 n (per t) := fun f => hp.fr (zfill_ne (fun e => h4 e.symm))
  have hL : ∀ f, CR S (zfill I (z_rv S g 5) n f) g 4 n (cls n t iv) := fun f => hc.fr (zfill_ne (fun e => h5 e.symm))
  refine e_X1_findMarks (b_X1_findMarks_0 ?_)
  suffices H : ∀ k, k ≤ n → ∀ x1 I', x1 = nI k → I' = zfill I (z_rv S g 5) n (fun x => nI (mrkk n t iv k x)) → Go d i_X1_findMarks 2 [.ref g, .int x1] [] S I' J (z_eq none S (zfill I (z_rv S g 5) n (fun x => nI (mrk n t iv x))) J) from H 0 (by omega) _ _ rfl (zfill_id (fun j hj => (h0 j hj).symm)).symm
  refine z_up_to n ?_ ?_
  · rintro x1 I' rfl rfl
    refine b_X1_findMarks_2 h.1 (fun _ => b_X1_findMarks_61 ⟨rfl, rfl, ?_, rfl⟩) (fun c => absurd (hC _).ge c)
    exact zfill_congr (fun j hj => congrArg nI (by unfold mrkk; rw [if_pos hj]; rfl))
  · rintro k hk ih x1 I' rfl rfl
    have p1 := per_le hg hk
    have z1 := zc_le n (cls n t iv k)
    obtain ⟨a1, a2⟩ := (hP (fun x => nI (mrkk n t iv k x))).at hk (by omega)
    obtain ⟨b1, b2⟩ := (hL (fun x => nI (mrkk n t iv k x))).at hk (by omega)
    have htl := hg.lt hk hk
    refine b_X1_findMarks_2 h.1 (fun c => absurd c ((hC _).nge hk)) (fun _ => ?_)
    refine b_X1_findMarks_10 h.1 ⟨by rw [h1]; rfl, (z_wr h1 h2 hk (by omega)).2⟩ h.1 a1 h.1 b1 ⟨_, _, _, _, by rw [b2]; exact ev_bitCount (by omega) (z_lt24 hn (cls_lt hg hk)), ?_⟩
    rw [a2, zc24 hn (cls_lt hg hk), nI_clamp (by omega), zfill_in hk]
    have e1 : z_u2 (zfill I (z_rv S g 5) n (fun x => nI (mrkk n t iv k x))) (z_rv S g 5) k (nI (mrkk n t iv k k) + (nI (per t k) <<< ((10 : Int32) &&& 31) ||| nI (zc n (cls n t iv k)) <<< ((5 : Int32) &&& 31))) = zfill I (z_rv S g 5) n (fun x => nI ((if x < k + 1 then per t x * 1024 + zc n (cls n t iv x) * 32 else 0) + zcn (fun y => t y y = x) k)) := by
      refine zfill_u hk ?_ (fun j hj hjk => ?_)
      · rw [z_mk (by omega) (by omega), nI_add, if_pos (by omega)]
        refine congrArg nI ?_
        unfold mrkk
        rw [if_neg (by omega)]
        omega
      · unfold mrkk
        by_cases hjl : j < k
        · rw [if_pos hjl, if_pos (by omega)]
        · rw [if_neg hjl, if_neg (by omega)]
    refine b_X1_findMarks_35 (z_wr h1 h2 hk (by omega)) h.1 h.1 ⟨_, _, _, _, by rw [nI_clamp (by omega), e1]; exact c_times (by omega) (hC _) hk hk, ?_⟩
    refine b_X1_findMarks_50 ⟨by rw [h1]; rfl, (z_wr h1 h2 htl (by omega)).2⟩ (z_wr h1 h2 htl (by omega)) (ih _ _ (nI_1 k) ?_)
    rw [nI_clamp (by omega)]
    refine zfill_u htl ?_ (fun j hj hjk => ?_)
    · rw [zfill_in htl, nI_1]
      refine congrArg nI ?_
      unfold mrkk
      rw [zcn_t (p := fun y => t y y = t k k) rfl]
      omega
    · unfold mrkk
      rw [zcn_f (p := fun y => t y y = j) (fun e => hjk e.symm)]
end C4

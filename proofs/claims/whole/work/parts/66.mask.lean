/-! THE MODEL: calls that ask -/
def aQ (S : zS) (J : zJ) (r : Int32) (R : zI → Prop) : zQ := fun v S' I' J' => v = some (.int r) ∧ S' = S ∧ J' = J ∧ R I'
theorem aQ.ex {d y : Nat} {as : List Value} {S : zS} {I : zI} {J : zJ} {r : Int32} {R : zI → Prop} (h : z_wp d y as S I J (aQ S J r R)) : ∃ I', z_ev d y as S I J (some (.int r)) S I' J ∧ R I' := by
  obtain ⟨v, S', I', J', x1, rfl, rfl, rfl, x2⟩ := h
  exact ⟨I', x1, x2⟩
theorem z_someI {a b : Int32} (h : a = b) : some (Value.int a) = some (Value.int b) := by rw [h]
section M8
variable {d m : Nat} {N : Nat → Nat} {T : Nat → Nat → Nat → Nat} {V : Nat → Nat → Nat} {P : Nat → Nat} {S : zS} {I I0 : zI} {J : zJ}
theorem m_isEl (x1 x2 : Int32) (hd : 2 < d) (h : MSS S I m N T P) (hG : GS N T V P) : z_ev d i_X12_isElement [.ref m, .int x1, .int x2] S I J (some (.int (nI (zb (El 2 x1 ∧ El (N (ix x1)) x2))))) S I J := by
  have := m_isElement (J := J) x1 x2 hd h hG
  rw [zb_congr el_iff] at this
  exact this
theorem MSS.th (h : MSS S I m N T P) : MSS S (z_u2 I m 1 0) m N T P := h.fr (MQy.refl.f (Or.inl rfl))
theorem mq_th : MQy I (z_u2 I m 1 0) m := MQy.refl.f (Or.inl rfl)
theorem m_product (x1 x2 x3 : Int32) (hd : 3 < d) (h : MSS S I m N T P) (hG : GS N T V P) : ∃ I', z_ev d i_X12_product [.ref m, .int x1, .int x2, .int x3] S I J (some (.int (aProduct N T x1 x2 x3))) S I' J ∧ MQy I I' m := by
  obtain ⟨d, rfl⟩ := z_dep (d := d) (by omega)
  refine aQ.ex (w_X12_product (b_X12_product_0 h.1.k h.1.k ⟨_, _, _, _, m_isEl x1 x2 (by omega) h.th hG, ?_⟩))
  refine b_X12_product_11 (fun c => b_X12_product_33 ⟨z_someI ?_, rfl, rfl, mq_th⟩) (fun c => b_X12_product_14 h.1.k ⟨_, _, _, _, m_isEl x1 x3 (by omega) h.th hG, b_X12_product_20 (fun c2 => b_X12_product_33 ⟨z_someI ?_, rfl, rfl, mq_th⟩) (fun c2 => ?_)⟩)
  · rw [zb_0] at c
    exact (zq_f (fun q => c q.1)).symm
  · rw [zb_0] at c2
    exact (zq_f (fun q => c2 q.2)).symm
  · rw [zb_1] at c c2
    have e : aProduct N T x1 x2 x3 = _ := zq_t ⟨c, c2⟩
    obtain ⟨⟨s, hs, rfl⟩, c3⟩ := c
    have es : ix (nI s) = s := ix_nI (by omega)
    rw [es] at c3 c2 e
    obtain ⟨x, hx, rfl⟩ := c3
    obtain ⟨y, hy, rfl⟩ := c2.2
    have hn := (hG s hs).1.le
    rw [ix_nI (by omega), ix_nI (by omega)] at e
    rw [e]
    exact b_X12_product_23 h.1.k ⟨_, _, _, _, m_times (by omega) (h.th.2 s hs).1 hx hy, b_X12_product_30 ⟨rfl, rfl, rfl, mq_th⟩⟩
theorem m_classOf (x1 x2 : Int32) (hd : 3 < d) (h : MSS S I m N T P) (hG : GS N T V P) : ∃ I', z_ev d i_X12_classOf [.ref m, .int x1, .int x2] S I J (some (.int (aClassOf N T V x1 x2))) S I' J ∧ MQy I I' m := by
  obtain ⟨d, rfl⟩ := z_dep (d := d) (by omega)
  refine aQ.ex (w_X12_classOf (b_X12_classOf_0 h.1.k h.1.k ⟨_, _, _, _, m_isEl x1 x2 (by omega) h.th hG, ?_⟩))
  refine b_X12_classOf_11 (fun c => b_X12_classOf_23 ⟨z_someI ?_, rfl, rfl, mq_th⟩) (fun c => ?_)
  · rw [zb_0] at c
    exact (zq_f c).symm
  · rw [zb_1] at c
    have e : aClassOf N T V x1 x2 = _ := zq_t c
    obtain ⟨⟨s, hs, rfl⟩, c3⟩ := c
    have es : ix (nI s) = s := ix_nI (by omega)
    rw [es] at c3 e
    obtain ⟨x, hx, rfl⟩ := c3
    have hn := (hG s hs).1.le
    rw [ix_nI (by omega)] at e
    rw [e]
    exact b_X12_classOf_14 h.1.k ⟨_, _, _, _, m_classBits (by omega) (h.th.2 s hs).1 (hG s hs).1 hx, b_X12_classOf_20 ⟨rfl, rfl, rfl, mq_th⟩⟩
theorem m_generated (x1 x2 : Int32) (hd : 4 < d) (h : MSS S I m N T P) (hG : GS N T V P) : ∃ I', z_ev d i_X12_generated [.ref m, .int x1, .int x2] S I J (some (.int (aGenerated N T x1 x2))) S I' J ∧ MQy I I' m := by
  obtain ⟨d, rfl⟩ := z_dep (d := d) (by omega)
  refine aQ.ex (w_X12_generated (b_X12_generated_0 h.1.k ⟨_, _, _, _, m_isSlot x1 (by omega), ?_⟩))
  refine b_X12_generated_9 (fun c => ?_) (fun c => b_X12_generated_12 ⟨z_someI ?_, rfl, rfl, mq_th⟩)
  · rw [zb_1] at c
    have e : aGenerated N T x1 x2 = _ := zq_t c
    obtain ⟨s, hs, rfl⟩ := c
    have es : ix (nI s) = s := ix_nI (by omega)
    rw [es] at e
    rw [e]
    refine b_X12_generated_15 h.1.k ⟨_, _, _, _, m_isSet x2 (by omega) h.th hG hs, ?_⟩
    refine b_X12_generated_21 (fun c => b_X12_generated_33 ⟨z_someI ?_, rfl, rfl, mq_th⟩) (fun c => ?_)
    · rw [zb_0] at c
      exact (zq_f c).symm
    · rw [zb_1] at c
      rw [zq_t c]
      obtain ⟨a, ha, rfl⟩ := c
      rw [ix_nI (z_lt31 (hG s hs).1.le ha)]
      exact b_X12_generated_24 h.1.k ⟨_, _, _, _, m_subgroupOf (by omega) (h.th.2 s hs).1 (hG s hs).1 ha, b_X12_generated_30 ⟨rfl, rfl, rfl, mq_th⟩⟩
  · rw [zb_0] at c
    exact (zq_f c).symm
theorem m_kind (x1 x2 : Int32) (hd : 5 < d) (h : MSS S I m N T P) (hG : GS N T V P) : ∃ I', z_ev d i_X12_kind [.ref m, .int x1, .int x2] S I J (some (.int (aKind N T V x1 x2))) S I' J ∧ MQy I I' m := by
  obtain ⟨d, rfl⟩ := z_dep (d := d) (by omega)
  refine aQ.ex (w_X12_kind (b_X12_kind_0 h.1.k ⟨_, _, _, _, m_isSlot x1 (by omega), ?_⟩))
  refine b_X12_kind_9 (fun c => ?_) (fun c => b_X12_kind_12 ⟨z_someI ?_, rfl, rfl, mq_th⟩)
  · rw [zb_1] at c
    have e : aKind N T V x1 x2 = _ := zq_t c
    obtain ⟨s, hs, rfl⟩ := c
    have es : ix (nI s) = s := ix_nI (by omega)
    rw [es] at e
    rw [e]
    refine b_X12_kind_15 h.1.k ⟨_, _, _, _, m_isSet x2 (by omega) h.th hG hs, ?_⟩
    refine b_X12_kind_21 (fun c => b_X12_kind_33 ⟨z_someI ?_, rfl, rfl, mq_th⟩) (fun c => ?_)
    · rw [zb_0] at c
      exact (zq_f c).symm
    · rw [zb_1] at c
      rw [zq_t c]
      obtain ⟨a, ha, rfl⟩ := c
      rw [ix_nI (z_lt31 (hG s hs).1.le ha)]
      exact b_X12_kind_24 h.1.k ⟨_, _, _, _, m_kindOf (by omega) (h.th.2 s hs).1 (hG s hs).1 ha, b_X12_kind_30 ⟨rfl, rfl, rfl, mq_th⟩⟩
  · rw [zb_0] at c
    exact (zq_f c).symm
theorem m_subs {s : Nat} (hd : 4 < d) (h : MSS S I m N T P) (hG : GS N T V P) (hs : s < 2) : ∃ I', z_ev d i_X12_laysSubgroups [.ref m, .int (nI s)] S I J none S I' J ∧ MM S I I' m (nsub (N s) (T s)) (kth (SG (N s) (T s))) ∧ MQy I I' m := by
  obtain ⟨I', a1, a2⟩ := m_laysSubgroups (J := J) hd (h.2 s hs).1 (hG s hs).1 h.1.a22.kd h.1.a22.ln (by rw [h.1.a0.1, h.1.a22.1]; omega)
  exact ⟨I', a1, a2, a2.mq h.1⟩
theorem m_subgroup (x1 x2 : Int32) (hd : 5 < d) (h : MSS S I m N T P) (hG : GS N T V P) : ∃ I', z_ev d i_X12_subgroup [.ref m, .int x1, .int x2] S I J (some (.int (aSubgroup N T x1 x2))) S I' J ∧ MQy I I' m := by
  obtain ⟨d, rfl⟩ := z_dep (d := d) (by omega)
  refine aQ.ex (w_X12_subgroup (b_X12_subgroup_0 h.1.k ⟨_, _, _, _, m_isSlot x1 (by omega), ?_⟩))
  refine b_X12_subgroup_9 (fun c => ?_) (fun c => b_X12_subgroup_12 ⟨z_someI ?_, rfl, rfl, mq_th⟩)
  · rw [zb_1] at c
    have e : aSubgroup N T x1 x2 = _ := zq_t c
    obtain ⟨s, hs, rfl⟩ := c
    have es : ix (nI s) = s := ix_nI (by omega)
    rw [es] at e
    rw [e]
    refine b_X12_subgroup_15 (fun c => ?_) (fun c => b_X12_subgroup_19 ⟨z_someI ?_, rfl, rfl, mq_th⟩)
    · have c' : ¬ x2 < 0 := fun q => by
        rw [Int32.le_iff_toInt_le] at c
        rw [Int32.lt_iff_toInt_lt] at q
        omega
      rw [zq_f c']
      have hg := (hG s hs).1
      have hle := (nsub_le hg).1
      obtain ⟨I', a1, a2, a3⟩ := m_subs (d := d) (J := J) (by omega) h.th hG hs
      refine b_X12_subgroup_22 h.1.k ⟨_, _, _, _, a1, ?_⟩
      refine b_X12_subgroup_27 h.1.k (fun c => b_X12_subgroup_44 ⟨z_someI ?_, rfl, rfl, mq_th.trans a3⟩) (fun c => ?_)
      · rw [a2.2.2.1] at c
        exact (zq_f (fun q => ((El.ge (by omega)).mp q).2 c)).symm
      · rw [a2.2.2.1] at c
        have hE := (El.ge (n := nsub (N s) (T s)) (x := x2) (by omega)).mpr ⟨c', c⟩
        rw [zq_t hE]
        obtain ⟨k, hk, rfl⟩ := hE
        refine b_X12_subgroup_35 h.1.k (h.1.a22.rd (by omega) (by decide)) ⟨z_someI ?_, rfl, rfl, mq_th.trans a3⟩
        rw [ix_nI (by omega), nI_clamp (by omega), a2.2.2.2 k hk]
    · have c' : x2 < 0 := by
        rw [Int32.le_iff_toInt_le] at c
        rw [Int32.lt_iff_toInt_lt]
        omega
      exact (zq_t c').symm
  · rw [zb_0] at c
    exact (zq_f c).symm
theorem m_size (x1 x2 : Int32) (hd : 25 < d) (h : MSS S I m N T P) (hG : GS N T V P) : ∃ I', z_ev d i_X12_size [.ref m, .int x1, .int x2] S I J (some (.int (aSize N T V P x1 x2))) S I' J ∧ MQy I I' m := by
  obtain ⟨d, rfl⟩ := z_dep (d := d) (by omega)
  refine aQ.ex (w_X12_size (b_X12_size_0 h.1.k ⟨_, _, _, _, m_isSlot x1 (by omega), ?_⟩))
  refine b_X12_size_9 (fun c => ?_) (fun c => b_X12_size_12 ⟨z_someI ?_, rfl, rfl, mq_th⟩)
  · rw [zb_1] at c
    have e : aSize N T V P x1 x2 = _ := zq_t c
    obtain ⟨s, hs, rfl⟩ := c
    have es : ix (nI s) = s := ix_nI (by omega)
    rw [es] at e
    rw [e]
    have hg := (hG s hs).1
    have hn := hg.le
    have hm := (h.th.2 s hs).1
    refine b_X12_size_15 (Go.sw _ (fun q hq hx => ?_) (fun hno => ?_))
    · simp only [List.mem_cons, List.not_mem_nil, or_false] at hq
      rcases hq with rfl | rfl | rfl | rfl | rfl | rfl | rfl
      · have hx' : x2 = 0 := hx
        subst hx'
        exact b_X12_size_60 h.1.k ⟨_, _, _, _, m_many (by omega) hm, b_X12_size_65 ⟨z_someI (by unfold szv; rw [if_pos rfl]), rfl, rfl, mq_th⟩⟩
      · have hx' : x2 = 1 := hx
        subst hx'
        refine b_X12_size_66 h.1.k ⟨_, _, _, _, m_steps (by omega) h.1.ma (by omega), ?_⟩
        rw [(h.th.2 s hs).2]
        exact b_X12_size_71 ⟨_, _, _, _, m_bits (by omega) hn (hG s hs).2.1, b_X12_size_74 ⟨z_someI (by unfold szv; rw [if_neg (by decide), if_pos rfl]), rfl, rfl, mq_th⟩⟩
      · have hx' : x2 = 2 := hx
        subst hx'
        exact b_X12_size_75 h.1.k ⟨_, _, _, _, m_centre (by omega) hm hg, b_X12_size_80 ⟨z_someI (by unfold szv; rw [if_neg (by decide), if_neg (by decide), if_pos rfl]), rfl, rfl, mq_th⟩⟩
      · have hx' : x2 = 3 := hx
        subst hx'
        exact b_X12_size_81 h.1.k ⟨_, _, _, _, m_classes (by omega) hm hg, b_X12_size_86 ⟨z_someI (by unfold szv; rw [if_neg (by decide), if_neg (by decide), if_neg (by decide), if_pos rfl]), rfl, rfl, mq_th⟩⟩
      · have hx' : x2 = 4 := hx
        subst hx'
        obtain ⟨I', a1, a2, a3⟩ := m_subs (d := d) (J := J) (by omega) h.th hG hs
        exact b_X12_size_87 h.1.k ⟨_, _, _, _, a1, b_X12_size_92 h.1.k ⟨z_someI (by unfold szv; rw [if_neg (by decide), if_neg (by decide), if_neg (by decide), if_neg (by decide), if_pos rfl, a2.2.2.1]), rfl, rfl, mq_th.trans a3⟩⟩
      · have hx' : x2 = 5 := hx
        subst hx'
        exact b_X12_size_97 h.1.k ⟨_, _, _, _, m_derived (by omega) hm hg, b_X12_size_102 ⟨z_someI (by unfold szv; rw [if_neg (by decide), if_neg (by decide), if_neg (by decide), if_neg (by decide), if_neg (by decide), if_pos rfl]), rfl, rfl, mq_th⟩⟩
      · have hx' : x2 = 6 := hx
        subst hx'
        exact b_X12_size_103 (m_exponent (by omega) hm hg ⟨z_someI (by unfold szv; rw [if_neg (by decide), if_neg (by decide), if_neg (by decide), if_neg (by decide), if_neg (by decide), if_neg (by decide), if_pos rfl]), rfl, rfl, mq_th⟩)
    · simp only [List.mem_cons, List.not_mem_nil, or_false, forall_eq_or_imp, forall_eq] at hno
      obtain ⟨h0, h1, h2, h3, h4, h5, h6⟩ := hno
      exact b_X12_size_148 ⟨z_someI (by unfold szv; rw [if_neg h0, if_neg h1, if_neg h2, if_neg h3, if_neg h4, if_neg h5, if_neg h6]), rfl, rfl, mq_th⟩
  · rw [zb_0] at c
    exact (zq_f c).symm
theorem m_element (x1 x2 x3 : Int32) (hd : 3 < d) (h : MSS S I m N T P) (hG : GS N T V P) : ∃ I', z_ev d i_X12_element [.ref m, .int x1, .int x2, .int x3] S I J (some (.int (aElement N T V P x1 x2 x3))) S I' J ∧ MQy I I' m := by
  obtain ⟨d, rfl⟩ := z_dep (d := d) (by omega)
  refine aQ.ex (w_X12_element (b_X12_element_0 h.1.k h.1.k ⟨_, _, _, _, m_isEl x1 x2 (by omega) h.th hG, ?_⟩))
  refine b_X12_element_11 (fun c => ?_) (fun c => b_X12_element_14 ⟨z_someI ?_, rfl, rfl, mq_th⟩)
  · rw [zb_1] at c
    have e : aElement N T V P x1 x2 x3 = _ := zq_t c
    obtain ⟨⟨s, hs, rfl⟩, c3⟩ := c
    have es : ix (nI s) = s := ix_nI (by omega)
    rw [es] at c3 e
    obtain ⟨x, hx, rfl⟩ := c3
    have hg := (hG s hs).1
    have hn := hg.le
    rw [ix_nI (by omega)] at e
    rw [e]
    have hm := (h.th.2 s hs).1
    refine b_X12_element_17 (Go.sw _ (fun q hq hx2 => ?_) (fun hno => ?_))
    · simp only [List.mem_cons, List.not_mem_nil, or_false] at hq
      rcases hq with rfl | rfl | rfl | rfl
      · have hx' : x3 = 0 := hx2
        subst hx'
        refine b_X12_element_48 h.1.k ⟨_, _, _, _, by rw [z_lit 665, pk_mul]; exact m_inverse (by omega) hm hg hx, ?_⟩
        exact b_X12_element_58 ⟨z_someI (by unfold elv; rw [if_pos rfl]), rfl, rfl, mq_th⟩
      · have hx' : x3 = 1 := hx2
        subst hx'
        exact b_X12_element_59 h.1.k ⟨_, _, _, _, m_periodOf (by omega) hm hg hx, b_X12_element_65 ⟨z_someI (by unfold elv; rw [if_neg (by decide), if_pos rfl]), rfl, rfl, mq_th⟩⟩
      · have hx' : x3 = 2 := hx2
        subst hx'
        refine b_X12_element_66 h.1.k ⟨_, _, _, _, m_steps (by omega) h.1.ma (by omega), ?_⟩
        rw [(h.th.2 s hs).2]
        refine b_X12_element_71 ⟨_, _, _, _, m_has (by omega) (z_lt31 hn (hG s hs).2.1) (by omega), b_X12_element_75 (fun c => b_X12_element_82 ⟨z_someI ?_, rfl, rfl, mq_th⟩) (fun c => b_X12_element_78 ⟨z_someI ?_, rfl, rfl, mq_th⟩)⟩
        · rw [z_tn0] at c
          unfold elv; rw [if_neg (by decide), if_neg (by decide), if_pos rfl, c]; rfl
        · rw [z_tn1] at c
          unfold elv; rw [if_neg (by decide), if_neg (by decide), if_pos rfl, c]; rfl
      · have hx' : x3 = 3 := hx2
        subst hx'
        exact b_X12_element_84 h.1.k ⟨_, _, _, _, m_classBits (by omega) hm hg hx, b_X12_element_90 ⟨_, _, _, _, m_bits (by omega) hn (cls_lt hg hx), b_X12_element_93 ⟨z_someI (by unfold elv; rw [if_neg (by decide), if_neg (by decide), if_neg (by decide), if_pos rfl]), rfl, rfl, mq_th⟩⟩⟩
    · simp only [List.mem_cons, List.not_mem_nil, or_false, forall_eq_or_imp, forall_eq] at hno
      obtain ⟨h0, h1, h2, h3⟩ := hno
      exact b_X12_element_94 ⟨z_someI (by unfold elv; rw [if_neg h0, if_neg h1, if_neg h2, if_neg h3]), rfl, rfl, mq_th⟩
  · rw [zb_0] at c
    exact (zq_f c).symm
theorem m_parts (x1 : Int32) (hd : 4 < d) (h : MSS S I m N T P) (hG : GS N T V P) : ∃ I', z_ev d i_X12_parts [.ref m, .int x1] S I J (some (.int (aParts N T P x1))) S I' J ∧ MQy I I' m := by
  obtain ⟨d, rfl⟩ := z_dep (d := d) (by omega)
  refine aQ.ex (w_X12_parts (b_X12_parts_0 h.1.k ⟨_, _, _, _, m_isSlot x1 (by omega), ?_⟩))
  refine b_X12_parts_9 (fun c => b_X12_parts_34 ⟨z_someI ?_, rfl, rfl, mq_th⟩) (fun c => ?_)
  · rw [zb_0] at c
    exact (zq_f c).symm
  · rw [zb_1] at c
    have e : aParts N T P x1 = _ := zq_t c
    obtain ⟨s, hs, rfl⟩ := c
    have es : ix (nI s) = s := ix_nI (by omega)
    rw [es] at e
    rw [e]
    have hg := (hG s hs).1
    have hn := hg.le
    have hm := (h.th.2 s hs).1
    have hp := (hG s hs).2.1
    refine b_X12_parts_12 h.1.k ⟨_, _, _, _, m_many (by omega) hm, ?_⟩
    refine b_X12_parts_17 h.1.k ⟨_, _, _, _, m_steps (by omega) h.1.ma (by omega), ?_⟩
    rw [(h.th.2 s hs).2]
    refine b_X12_parts_24 h.1.k ⟨_, _, _, _, m_subgroupOf (by omega) hm hg hp, ?_⟩
    have hz : 0 < zc (N s) (gen (N s) (T s) (P s)) := zc_pos hg.pos (gen_SG hg _).z
    have hz2 := zc_le (N s) (gen (N s) (T s) (P s))
    refine b_X12_parts_27 ⟨_, _, _, _, m_bits (by omega) hn (gen_lt _ _ _), b_X12_parts_30 (nI_ne0 hz (by omega)) ⟨z_someI ?_, rfl, rfl, mq_th⟩⟩
    rw [pk_div (by omega) hz (by omega)]
end M8

/-! THE MODEL: the search for maps of networks -/
/-- what may change: the row that leads, and its set -/
def LF (S : zS) (I0 I : zI) (m : Nat) : Prop := (∀ h, h ≠ m → h ≠ z_rv S m 31 → I h = I0 h) ∧ ∀ k, k ≠ 33 → I m k = I0 m k
def FA (S : zS) (I : zI) (m n : Nat) (F F' : Nat → Nat → Int32) : Prop := ∀ x y, x < n → y < n → I (z_rv S m 32) (20 * x + y) = F x y ∧ I (z_rv S m 32) (400 + 20 * x + y) = F' x y
section M15
variable {d m n : Nat} {F F' : Nat → Nat → Int32} {S : zS} {I I0 I1 : zI} {J : zJ}
theorem LF.refl : LF S I0 I0 m := ⟨fun _ _ _ => rfl, fun _ _ => rfl⟩
theorem LF.trans (h : LF S I0 I m) (h' : LF S I I1 m) : LF S I0 I1 m := ⟨fun a h1 h2 => by rw [h'.1 a h1 h2]; exact h.1 a h1 h2, fun k hk => by rw [h'.2 k hk]; exact h.2 k hk⟩
theorem LF.w {k : Nat} {v : Int32} (h : LF S I0 I m) (hL : MLay S m) : LF S I0 (z_u2 I (z_rv S m 31) k v) m := ⟨fun a h1 h2 => by rw [z_u2_row h2]; exact h.1 a h1 h2, fun j hj => by rw [z_u2_row (by rw [hL.a31.1]; omega)]; exact h.2 j hj⟩
theorem LF.f {v : Int32} (h : LF S I0 I m) : LF S I0 (z_u2 I m 33 v) m := ⟨fun a h1 h2 => by rw [z_u2_row h1]; exact h.1 a h1 h2, fun j hj => by rw [z_u2_nk hj]; exact h.2 j hj⟩
theorem LF.fa (h : LF S I0 I m) (hL : MLay S m) (hF : FA S I0 m n F F') : FA S I m n F F' := fun x y hx hy => by
  rw [h.1 _ (by rw [hL.a32.1]; omega) (by rw [hL.a32.1, hL.a31.1]; omega)]
  exact hF x y hx hy
theorem LF.mq (h : LF S I0 I m) (hL : MLay S m) : MQy I0 I m := by
  have e := hL.a31.1
  exact ⟨fun a h1 h2 => h.1 a h1 (by omega), fun k _ hk => h.2 k (by omega)⟩
theorem m_mayLead {x y : Nat} {f : Nat → Nat} (hd : 0 < d) (hL : MLay S m) (hA : FA S I m n F F') (hn : n ≤ 20) (hx : x < n) (hy : y < n) (hf : ∀ g, g < x → I (z_rv S m 31) g = nI (f g) ∧ f g < n) : z_ev d i_X12_mayLead [.ref m, .int (nI x), .int (nI y)] S I J (some (.int (nI (zb (MLd x F F' f y))))) S I J := by
  obtain ⟨d, rfl⟩ := z_dep hd
  have hk := hL.k
  refine e_X12_mayLead (b_X12_mayLead_0 ?_)
  suffices H : ∀ k, k ≤ x → (∀ g, g < k → F g x = F' (f g) y ∧ F x g = F' y (f g)) → ∀ x3, x3 = nI k → Go d i_X12_mayLead 2 [.ref m, .int (nI x), .int (nI y), .int x3] [] S I J (z_eq (some (.int (nI (zb (MLd x F F' f y))))) S I J) from H 0 (by omega) (fun g hg => by omega) _ rfl
  refine z_up_to x ?_ ?_
  · rintro hall x3 rfl
    refine b_X12_mayLead_2 (fun _ => b_X12_mayLead_83 z_fit1 ⟨?_, rfl, rfl, rfl⟩) (fun c => absurd (nI_le (Nat.le_refl _) (by omega)) c)
    rw [zb_t (show MLd x F F' f y from hall)]; rfl
  · rintro k hk' ih hall x3 rfl
    refine b_X12_mayLead_2 (fun c => absurd c (nI_ge hk' (by omega))) (fun _ => ?_)
    obtain ⟨w1, w2⟩ := hf k hk'
    have r31 := hL.a31.rd (i := k) (by omega) (by decide)
    have v31 : I (z_rv S m 31) (nI k).toNatClampNeg = nI (f k) := by rw [nI_clamp (by omega)]; exact w1
    have e1 : (20 : Int32) * nI k + nI x = nI (20 * k + x) := by rw [z_lit 20, pk_mul, nI_add]
    have e2 : (400 : Int32) + 20 * nI (f k) + nI y = nI (400 + 20 * f k + y) := by rw [z_lit 400, z_lit 20, pk_mul, nI_add, nI_add]
    have e3 : (20 : Int32) * nI x + nI k = nI (20 * x + k) := by rw [z_lit 20, pk_mul, nI_add]
    have e4 : (400 : Int32) + 20 * nI y + nI (f k) = nI (400 + 20 * y + f k) := by rw [z_lit 400, z_lit 20, pk_mul, nI_add, nI_add]
    have a1 := (hA k x (by omega) hx).1
    have a2 := (hA (f k) y w2 hy).2
    have a3 := (hA x k hx (by omega)).1
    have a4 := (hA y (f k) hy w2).2
    refine b_X12_mayLead_7 hk (by rw [e1]; exact hL.a32.rd (by omega) (by decide)) hk hk r31 (by rw [v31, e2]; exact hL.a32.rd (by omega) (by decide)) (fun c => b_X12_mayLead_75 z_fit0 ⟨?_, rfl, rfl, rfl⟩) (fun c => b_X12_mayLead_41 hk (by rw [e3]; exact hL.a32.rd (by omega) (by decide)) hk hk r31 (by rw [v31, e4]; exact hL.a32.rd (by omega) (by decide)) (fun c2 => b_X12_mayLead_77 (ih (fun g hg => ?_) _ (nI_1 k))) (fun c2 => b_X12_mayLead_75 z_fit0 ⟨?_, rfl, rfl, rfl⟩))
    · rw [v31, e1, e2, nI_clamp (by omega), nI_clamp (by omega), a1, a2] at c
      rw [zb_f (fun q => c (q k hk').1)]; rfl
    · rw [v31, e1, e2, nI_clamp (by omega), nI_clamp (by omega), a1, a2] at c
      rw [v31, e3, e4, nI_clamp (by omega), nI_clamp (by omega), a3, a4] at c2
      by_cases e : g = k
      · rw [e]; exact ⟨c, c2⟩
      · exact hall g (by omega)
    · rw [v31, e3, e4, nI_clamp (by omega), nI_clamp (by omega), a3, a4] at c2
      rw [zb_f (fun q => c2 (q k hk').2)]; rfl
def goQ (S : zS) (I0 : zI) (J : zJ) (m n x : Nat) (F F' : Nat → Nat → Int32) (f : Nat → Nat) : zQ := fun v S' I' J' => ∃ r : Bool, v = some (.int (nI r.toNat)) ∧ S' = S ∧ J' = J ∧ LF S I0 I' m ∧ (∀ g, g < x → I' (z_rv S m 31) g = I0 (z_rv S m 31) g) ∧ (r = true → ∃ φ, LexMin n (fun φ => IS n F F' φ ∧ Ext1 x f φ) φ ∧ ∀ g, g < n → I' (z_rv S m 31) g = nI (φ g)) ∧ (r = false → (∀ φ, IS n F F' φ → Ext1 x f φ → False) ∧ I' m 33 = I0 m 33)
theorem m_goesOn (hL : MLay S m) (hn : n ≤ 20) (hdg : ∀ x y, x < n → y < n → F x x = F' y y) : ∀ c d x f I, n ≤ x + c → c + 1 < d → x ≤ n → FA S I m n F F' → (∀ g, g < x → I (z_rv S m 31) g = nI (f g)) → PI n x F F' f → I m 33 = nI (img n f x) → z_wp d i_X12_goesOn [.ref m, .int (nI x), .int (nI n)] S I J (goQ S I J m n x F F' f) := by
  have hk := hL.k
  intro c
  induction c with
  | zero =>
    intro d x f I h1 hd hx hA hf hP h33
    obtain ⟨d, rfl⟩ := z_dep (d := d) (by omega)
    have e : x = n := by omega
    subst e
    refine w_X12_goesOn (b_X12_goesOn_0 (fun c => absurd rfl c) (fun _ => b_X12_goesOn_5 z_fit1 ⟨true, rfl, rfl, rfl, LF.refl, fun _ _ => rfl, fun _ => ⟨rowm x f, ⟨⟨hP.full, fun g hg => (rowm_in hg).symm⟩, fun ψ h => Or.inl (fun g hg => by rw [rowm_in hg]; exact h.2 g hg)⟩, fun g hg => by rw [rowm_in hg]; exact hf g hg⟩, fun q => (by cases q)⟩))
  | succ c ihc =>
    intro d x f I h1 hd hx hA hf hP h33
    by_cases ex : x = n
    · exact (fun hh => hh) (by
        obtain ⟨d, rfl⟩ := z_dep (d := d) (by omega)
        subst ex
        exact w_X12_goesOn (b_X12_goesOn_0 (fun c => absurd rfl c) (fun _ => b_X12_goesOn_5 z_fit1 ⟨true, rfl, rfl, rfl, LF.refl, fun _ _ => rfl, fun _ => ⟨rowm x f, ⟨⟨hP.full, fun g hg => (rowm_in hg).symm⟩, fun ψ h => Or.inl (fun g hg => by rw [rowm_in hg]; exact h.2 g hg)⟩, fun g hg => by rw [rowm_in hg]; exact hf g hg⟩, fun q => (by cases q)⟩)))
    obtain ⟨d, rfl⟩ := z_dep (d := d) (by omega)
    have hxn : x < n := by omega
    refine w_X12_goesOn (b_X12_goesOn_0 (fun _ => b_X12_goesOn_7 ?_) (fun c => absurd ((nI_eq (by omega) (by omega)).mp c) ex))
    have himg : img n f x < 2 ^ n := zset_lt _ _
    have himg31 := z_lt31 hn himg
    have h31ne : m ≠ z_rv S m 31 := by rw [hL.a31.1]; omega
    suffices H : ∀ y, y ≤ n → ∀ I' x3, LF S I I' m → (∀ g, g < x → I' (z_rv S m 31) g = I (z_rv S m 31) g) → I' m 33 = I m 33 → (∀ φ, IS n F F' φ → Ext1 x f φ → φ x < y → False) → x3 = nI y → Go d i_X12_goesOn 9 [.ref m, .int (nI x), .int (nI n), .int x3] [] S I' J (goQ S I J m n x F F' f) from H 0 (by omega) I _ LF.refl (fun _ _ => rfl) rfl (fun φ _ _ h => by omega) rfl
    refine z_up_to n ?_ ?_
    · rintro I' x3 hF hf2 e33 hno rfl
      exact b_X12_goesOn_9 (fun _ => b_X12_goesOn_89 z_fit0 ⟨false, rfl, rfl, rfl, hF, hf2, fun q => (by cases q), fun _ => ⟨fun φ p1 p2 => hno φ p1 p2 (p1.2.1 x hxn), e33⟩⟩) (fun c => absurd (nI_le (Nat.le_refl _) (by omega)) c)
    · rintro y hy ih I' x3 hF hf2 e33 hno rfl
      refine b_X12_goesOn_9 (fun c => absurd c (nI_ge hy (by omega))) (fun _ => ?_)
      have skip : (∀ φ, IS n F F' φ → Ext1 x f φ → φ x = y → False) → ∀ φ, IS n F F' φ → Ext1 x f φ → φ x < y + 1 → False := fun hh φ p1 p2 p3 => by
        by_cases e : φ x = y
        · exact hh φ p1 p2 e
        · exact hno φ p1 p2 (by omega)
      refine b_X12_goesOn_14 hk ⟨_, _, _, _, by rw [e33, h33]; exact m_has (by omega) himg31 (by omega), ?_⟩
      refine b_X12_goesOn_22 (fun c => b_X12_goesOn_83 (ih I' _ hF hf2 e33 (skip (fun φ p1 p2 p3 => ?_)) (nI_1 y))) (fun c => ?_)
      · rw [z_tn1] at c
        obtain ⟨_, g, q1, q2⟩ := (zset_bit _ _ _).mp c
        exact p1.new hxn p2 g q1 (by rw [q2, p3])
      · rw [z_tn0] at c
        have hny : ∀ g, g < x → f g ≠ y := fun g hg e => by
          have : (img n f x).testBit y = true := (zset_bit _ _ _).mpr ⟨hy, g, hg, e⟩
          rw [this] at c; cases c
        refine b_X12_goesOn_25 hk ⟨_, _, _, _, m_mayLead (by omega) hL (hF.fa hL hA) hn hxn hy (fun g hg => ⟨by rw [hf2 g hg]; exact hf g hg, hP.1 g hg⟩), ?_⟩
        refine b_X12_goesOn_31 (fun c2 => ?_) (fun c2 => b_X12_goesOn_34 (ih I' _ hF hf2 e33 (skip (fun φ p1 p2 p3 => ?_)) (nI_1 y)))
        · rw [zb_1] at c2
          obtain ⟨I1, hI1⟩ : ∃ I1, I1 = z_u2 (z_u2 I' (z_rv S m 31) x (nI y)) m 33 (nI (img n (zput f x y) (x + 1))) := ⟨_, rfl⟩
          have e1 : z_u2 I' (z_rv S m 31) x (nI y) m 33 ||| (1 <<< (nI y &&& 31)) = nI (img n (zput f x y) (x + 1)) := by
            rw [z_u2_row h31ne, e33, h33, z_shl1 (by omega), z_or, img_put hy]
          have hF1 : LF S I I1 m := by rw [hI1]; exact (hF.w hL).f
          have r1 : ∀ g, g < x → I1 (z_rv S m 31) g = I (z_rv S m 31) g := fun g hg => by
            rw [hI1, z_u2_row (fun e => h31ne e.symm), z_u2_nk (by omega)]; exact hf2 g hg
          refine b_X12_goesOn_37 hk (hL.a31.wr (by omega) (by decide)) hk hk rfl hk ?_
          rw [nI_clamp (by omega), e1, ← hI1, nI_1]
          have hrec := ihc d (x + 1) (zput f x y) I1 (by omega) (by omega) (by omega) (hF1.fa hL hA) (fun g hg => by
            by_cases e : g = x
            · rw [e, zput_s, hI1, z_u2_row (fun e => h31ne e.symm), z_u2_same]
            · rw [zput_n e, r1 g (by omega)]; exact hf g (by omega)) (hP.add hy c2 hny (hdg x y hxn hy)) (by rw [hI1, z_u2_same])
          refine hrec.mono ?_
          rintro v S1 I3 J1 ⟨r, rfl, rfl, rfl, u1, u2, u3, u4⟩
          have hF3 : LF S1 I I3 m := hF1.trans u1
          have r3 : ∀ g, g < x → I3 (z_rv S1 m 31) g = I (z_rv S1 m 31) g := fun g hg => by rw [u2 g (by omega)]; exact r1 g hg
          cases r with
          | false =>
            obtain ⟨w1, w2⟩ := u4 rfl
            refine b_X12_goesOn_64 (fun _ => b_X12_goesOn_69 hk hk (ih _ _ hF3.f (fun g hg => by rw [z_u2_row (fun e => h31ne e.symm)]; exact r3 g hg) ?_ (skip (fun φ p1 p2 p3 => w1 φ p1 (ext_put.mpr ⟨p2, p3⟩))) (nI_1 y))) (fun c => absurd rfl c)
            rw [z_u2_same, w2, hI1, z_u2_same, z_shl1 (by omega), z_andn, img_put hy, zd_back himg hy c, h33]
          | true =>
            refine b_X12_goesOn_64 (fun c => absurd c (by decide)) (fun _ => b_X12_goesOn_67 z_fit1 ⟨true, rfl, rfl, rfl, hF3, r3, fun _ => ?_, fun q => (by cases q)⟩)
            obtain ⟨φ, ⟨⟨w1, w2⟩, w3⟩, w4⟩ := u3 rfl
            obtain ⟨w5, w6⟩ := ext_put.mp w2
            refine ⟨φ, ⟨⟨w1, w5⟩, fun ψ hψ => ?_⟩, w4⟩
            rcases Nat.lt_trichotomy (ψ x) y with r | r | r
            · exact absurd (hno ψ hψ.1 hψ.2 r) id
            · exact w3 ψ ⟨hψ.1, ext_put.mpr ⟨hψ.2, r⟩⟩
            · exact Or.inr ⟨x, hxn, fun z hz => by rw [← w5 z hz, hψ.2 z hz], by rw [w6]; exact r⟩
        · rw [zb_0] at c2
          exact c2 (by rw [← p3]; exact p1.may hxn p2)
/-- with one point pinned -/
def gpQ (S : zS) (I0 : zI) (J : zJ) (m n x : Nat) (F F' : Nat → Nat → Int32) (f : Nat → Nat) (p p' : Nat) : zQ := fun v S' I' J' => ∃ r : Bool, v = some (.int (nI r.toNat)) ∧ S' = S ∧ J' = J ∧ LF S I0 I' m ∧ (∀ g, g < x → I' (z_rv S m 31) g = I0 (z_rv S m 31) g) ∧ (r = true → ∃ φ, IS n F F' φ ∧ Ext1 x f φ ∧ φ p = p') ∧ (r = false → (∀ φ, IS n F F' φ → Ext1 x f φ → φ p = p' → False) ∧ I' m 33 = I0 m 33)
theorem m_fitsPin {x y p p' : Nat} (hd : 0 < d) (hL : MLay S m) (hA : FA S I m n F F') (hn : n ≤ 20) (hx : x < n) (hy : y < n) (hp : p < n) (hp' : p' < n) (h34 : I m 34 = nI p) (h35 : I m 35 = nI p') : z_ev d i_X12_fitsPin [.ref m, .int (nI x), .int (nI y)] S I J (some (.int (nI (zb (F p x = F' p' y ∧ F x p = F' y p'))))) S I J := by
  obtain ⟨d, rfl⟩ := z_dep hd
  have hk := hL.k
  have e1 : (20 : Int32) * I m 34 + nI x = nI (20 * p + x) := by rw [h34, z_lit 20, pk_mul, nI_add]
  have e2 : (400 : Int32) + 20 * I m 35 + nI y = nI (400 + 20 * p' + y) := by rw [h35, z_lit 400, z_lit 20, pk_mul, nI_add, nI_add]
  have e3 : (20 : Int32) * nI x + I m 34 = nI (20 * x + p) := by rw [h34, z_lit 20, pk_mul, nI_add]
  have e4 : (400 : Int32) + 20 * nI y + I m 35 = nI (400 + 20 * y + p') := by rw [h35, z_lit 400, z_lit 20, pk_mul, nI_add, nI_add]
  have a1 := (hA p x hp hx).1
  have a2 := (hA p' y hp' hy).2
  have a3 := (hA x p hx hp).1
  have a4 := (hA y p' hy hp').2
  refine e_X12_fitsPin (b_X12_fitsPin_0 hk hk (by rw [e1]; exact hL.a32.rd (by omega) (by decide)) hk hk (by rw [e2]; exact hL.a32.rd (by omega) (by decide)) (fun c => b_X12_fitsPin_74 z_fit0 ⟨?_, rfl, rfl, rfl⟩) (fun c => b_X12_fitsPin_35 hk hk (by rw [e3]; exact hL.a32.rd (by omega) (by decide)) hk hk (by rw [e4]; exact hL.a32.rd (by omega) (by decide)) (fun c2 => b_X12_fitsPin_74 z_fit0 ⟨?_, rfl, rfl, rfl⟩) (fun c2 => b_X12_fitsPin_70 z_fit1 ⟨?_, rfl, rfl, rfl⟩)))
  · rw [e1, e2, nI_clamp (by omega), nI_clamp (by omega), a1, a2] at c
    rw [zb_f (fun q => c q.1)]; rfl
  · rw [e3, e4, nI_clamp (by omega), nI_clamp (by omega), a3, a4] at c2
    rw [zb_f (fun q => c2 q.2)]; rfl
  · rw [e1, e2, nI_clamp (by omega), nI_clamp (by omega), a1, a2] at c
    rw [e3, e4, nI_clamp (by omega), nI_clamp (by omega), a3, a4] at c2
    rw [zb_t ⟨c, c2⟩]; rfl
theorem m_goesPinned {p p' : Nat} (hL : MLay S m) (hn : n ≤ 20) (hdg : ∀ x y, x < n → y < n → F x x = F' y y) (hp : p < n) (hp' : p' < n) : ∀ c d x f I, n ≤ x + c → c + 1 < d → x ≤ n → FA S I m n F F' → (∀ g, g < x → I (z_rv S m 31) g = nI (f g)) → PI n x F F' f → I m 33 = nI (img n f x ||| 2 ^ p') → I m 34 = nI p → I m 35 = nI p' → (p < x → f p = p') → (x ≤ p → ∀ g, g < x → f g ≠ p') → z_wp d i_X12_goesPinned [.ref m, .int (nI x), .int (nI n)] S I J (gpQ S I J m n x F F' f p p') := by
  have hk := hL.k
  intro c
  induction c with
  | zero =>
    intro d x f I h1 hd hx hA hf hP h33 h34 h35 hq1 hq2
    obtain ⟨d, rfl⟩ := z_dep (d := d) (by omega)
    have e : x = n := by omega
    subst e
    exact w_X12_goesPinned (b_X12_goesPinned_0 (fun c => absurd rfl c) (fun _ => b_X12_goesPinned_5 z_fit1 ⟨true, rfl, rfl, rfl, LF.refl, fun _ _ => rfl, fun _ => ⟨rowm x f, hP.full, fun g hg => (rowm_in hg).symm, by rw [rowm_in hp]; exact hq1 hp⟩, fun q => (by cases q)⟩))
  | succ c ihc =>
    intro d x f I h1 hd hx hA hf hP h33 h34 h35 hq1 hq2
    by_cases ex : x = n
    · exact (fun hh => hh) (by
        obtain ⟨d, rfl⟩ := z_dep (d := d) (by omega)
        subst ex
        exact w_X12_goesPinned (b_X12_goesPinned_0 (fun c => absurd rfl c) (fun _ => b_X12_goesPinned_5 z_fit1 ⟨true, rfl, rfl, rfl, LF.refl, fun _ _ => rfl, fun _ => ⟨rowm x f, hP.full, fun g hg => (rowm_in hg).symm, by rw [rowm_in hp]; exact hq1 hp⟩, fun q => (by cases q)⟩)))
    obtain ⟨d, rfl⟩ := z_dep (d := d) (by omega)
    have hxn : x < n := by omega
    have h31ne : m ≠ z_rv S m 31 := by rw [hL.a31.1]; omega
    have himg : img n f x ||| 2 ^ p' < 2 ^ n := z_or_lt (zset_lt _ _) (z_pw hp')
    have himg31 := z_lt31 hn himg
    refine w_X12_goesPinned (b_X12_goesPinned_0 (fun _ => b_X12_goesPinned_7 hk (fun cp => b_X12_goesPinned_48 ?_) (fun cp => ?_)) (fun c => absurd ((nI_eq (by omega) (by omega)).mp c) ex))
    · rw [h34, nI_eq (by omega) (by omega)] at cp
      suffices H : ∀ y, y ≤ n → ∀ I' x3, LF S I I' m → (∀ g, g < x → I' (z_rv S m 31) g = I (z_rv S m 31) g) → I' m 33 = I m 33 → (∀ φ, IS n F F' φ → Ext1 x f φ → φ p = p' → φ x < y → False) → x3 = nI y → Go d i_X12_goesPinned 50 [.ref m, .int (nI x), .int (nI n), .int x3] [] S I' J (gpQ S I J m n x F F' f p p') from H 0 (by omega) I _ LF.refl (fun _ _ => rfl) rfl (fun φ _ _ _ h => by omega) rfl
      refine z_up_to n ?_ ?_
      · rintro I' x3 hF hf2 e33 hno rfl
        exact b_X12_goesPinned_50 (fun _ => b_X12_goesPinned_139 z_fit0 ⟨false, rfl, rfl, rfl, hF, hf2, fun q => (by cases q), fun _ => ⟨fun φ p1 p2 p3 => hno φ p1 p2 p3 (p1.2.1 x hxn), e33⟩⟩) (fun c => absurd (nI_le (Nat.le_refl _) (by omega)) c)
      · rintro y hy ih I' x3 hF hf2 e33 hno rfl
        refine b_X12_goesPinned_50 (fun c => absurd c (nI_ge hy (by omega))) (fun _ => ?_)
        have skip : (∀ φ, IS n F F' φ → Ext1 x f φ → φ p = p' → φ x = y → False) → ∀ φ, IS n F F' φ → Ext1 x f φ → φ p = p' → φ x < y + 1 → False := fun hh φ p1 p2 p3 p4 => by
          by_cases e : φ x = y
          · exact hh φ p1 p2 p3 e
          · exact hno φ p1 p2 p3 (by omega)
        have e34 : I' m 34 = nI p := by rw [hF.2 34 (by decide)]; exact h34
        have e35 : I' m 35 = nI p' := by rw [hF.2 35 (by decide)]; exact h35
        refine b_X12_goesPinned_55 hk ⟨_, _, _, _, by rw [e33, h33]; exact m_has (by omega) himg31 (by omega), ?_⟩
        refine b_X12_goesPinned_63 (fun c => b_X12_goesPinned_133 (ih I' _ hF hf2 e33 (skip (fun φ p1 p2 p3 p4 => ?_)) (nI_1 y))) (fun c => ?_)
        · rw [z_tn1, b_orp] at c
          rcases c with c | c
          · obtain ⟨_, g, q1, q2⟩ := (zset_bit _ _ _).mp c
            exact p1.new hxn p2 g q1 (by rw [q2, p4])
          · exact cp (p1.2.2.1 x p hxn hp (by rw [p3, p4, c]))
        · rw [z_tn0, ← Bool.not_eq_true, b_orp] at c
          have hny : ∀ g, g < x → f g ≠ y := fun g hg e => c (Or.inl ((zset_bit _ _ _).mpr ⟨hy, g, hg, e⟩))
          have hyp : y ≠ p' := fun e => c (Or.inr e)
          refine b_X12_goesPinned_66 hk ⟨_, _, _, _, m_fitsPin (by omega) hL (hF.fa hL hA) hn hxn hy hp hp' e34 e35, ?_⟩
          refine b_X12_goesPinned_72 (fun c2 => b_X12_goesPinned_133 (ih I' _ hF hf2 e33 (skip (fun φ p1 p2 p3 p4 => ?_)) (nI_1 y))) (fun _ => ?_)
          · rw [zb_0] at c2
            exact c2 (by rw [← p3, ← p4]; exact ⟨p1.2.2.2 p x hp hxn, p1.2.2.2 x p hxn hp⟩)
          refine b_X12_goesPinned_75 hk ⟨_, _, _, _, m_mayLead (by omega) hL (hF.fa hL hA) hn hxn hy (fun g hg => ⟨by rw [hf2 g hg]; exact hf g hg, hP.1 g hg⟩), ?_⟩
          refine b_X12_goesPinned_81 (fun c2 => ?_) (fun c2 => b_X12_goesPinned_84 (ih I' _ hF hf2 e33 (skip (fun φ p1 p2 p3 p4 => ?_)) (nI_1 y)))
          · rw [zb_1] at c2
            have eimg : img n (zput f x y) (x + 1) ||| 2 ^ p' = img n f x ||| 2 ^ p' ||| 2 ^ y := by
              rw [img_put hy, Nat.or_assoc, Nat.or_comm (2 ^ y), ← Nat.or_assoc]
            obtain ⟨I1, hI1⟩ : ∃ I1, I1 = z_u2 (z_u2 I' (z_rv S m 31) x (nI y)) m 33 (nI (img n (zput f x y) (x + 1) ||| 2 ^ p')) := ⟨_, rfl⟩
            have e1 : z_u2 I' (z_rv S m 31) x (nI y) m 33 ||| (1 <<< (nI y &&& 31)) = nI (img n (zput f x y) (x + 1) ||| 2 ^ p') := by
              rw [z_u2_row h31ne, e33, h33, z_shl1 (by omega), z_or, eimg]
            have hF1 : LF S I I1 m := by rw [hI1]; exact (hF.w hL).f
            have r1 : ∀ g, g < x → I1 (z_rv S m 31) g = I (z_rv S m 31) g := fun g hg => by
              rw [hI1, z_u2_row (fun e => h31ne e.symm), z_u2_nk (by omega)]; exact hf2 g hg
            refine b_X12_goesPinned_87 hk (hL.a31.wr (by omega) (by decide)) hk hk rfl hk ?_
            rw [nI_clamp (by omega), e1, ← hI1, nI_1]
            have hrec := ihc d (x + 1) (zput f x y) I1 (by omega) (by omega) (by omega) (hF1.fa hL hA) (fun g hg => by
              by_cases e : g = x
              · rw [e, zput_s, hI1, z_u2_row (fun e => h31ne e.symm), z_u2_same]
              · rw [zput_n e, r1 g (by omega)]; exact hf g (by omega)) (hP.add hy c2 hny (hdg x y hxn hy)) (by rw [hI1, z_u2_same]) (by rw [hF1.2 34 (by decide)]; exact h34) (by rw [hF1.2 35 (by decide)]; exact h35) (fun q => by rw [zput_n (fun e => cp e.symm)]; exact hq1 (by omega)) (fun q g hg => by
              by_cases e : g = x
              · rw [e, zput_s]; exact hyp
              · rw [zput_n e]; exact hq2 (by omega) g (by omega))
            refine hrec.mono ?_
            rintro v S1 I3 J1 ⟨r, rfl, rfl, rfl, u1, u2, u3, u4⟩
            have hF3 : LF S1 I I3 m := hF1.trans u1
            have r3 : ∀ g, g < x → I3 (z_rv S1 m 31) g = I (z_rv S1 m 31) g := fun g hg => by rw [u2 g (by omega)]; exact r1 g hg
            cases r with
            | false =>
              obtain ⟨w1, w2⟩ := u4 rfl
              refine b_X12_goesPinned_114 (fun _ => b_X12_goesPinned_119 hk hk (ih _ _ hF3.f (fun g hg => by rw [z_u2_row (fun e => h31ne e.symm)]; exact r3 g hg) ?_ (skip (fun φ p1 p2 p3 p4 => w1 φ p1 (ext_put.mpr ⟨p2, p4⟩) p3)) (nI_1 y))) (fun c => absurd rfl c)
              rw [z_u2_same, w2, hI1, z_u2_same, z_shl1 (by omega), z_andn, eimg, zd_back himg hy, h33]
              cases hb : (img n f x ||| 2 ^ p').testBit y with
              | false => rfl
              | true => exact absurd ((b_orp _ _ _).mp hb) c
            | true =>
              refine b_X12_goesPinned_114 (fun c => absurd c (by decide)) (fun _ => b_X12_goesPinned_117 z_fit1 ⟨true, rfl, rfl, rfl, hF3, r3, fun _ => ?_, fun q => (by cases q)⟩)
              obtain ⟨φ, w1, w2, w3⟩ := u3 rfl
              exact ⟨φ, w1, (ext_put.mp w2).1, w3⟩
          · rw [zb_0] at c2
            exact c2 (by rw [← p4]; exact p1.may hxn p2)
    · rw [h34, nI_eq (by omega) (by omega)] at cp
      subst cp
      refine b_X12_goesPinned_15 hk hk ⟨_, _, _, _, by rw [h35]; exact m_mayLead (by omega) hL hA hn hxn hp' (fun g hg => ⟨hf g hg, hP.1 g hg⟩), ?_⟩
      refine b_X12_goesPinned_24 (fun c2 => ?_) (fun c2 => b_X12_goesPinned_27 z_fit0 ⟨false, rfl, rfl, rfl, LF.refl, fun _ _ => rfl, fun q => (by cases q), fun _ => ⟨fun φ p1 p2 p3 => ?_, rfl⟩⟩)
      · rw [zb_1] at c2
        have hny := hq2 (Nat.le_refl _)
        obtain ⟨I1, hI1⟩ : ∃ I1, I1 = z_u2 I (z_rv S m 31) x (nI p') := ⟨_, rfl⟩
        have hF1 : LF S I I1 m := by rw [hI1]; exact LF.refl.w hL
        have r1 : ∀ g, g < x → I1 (z_rv S m 31) g = I (z_rv S m 31) g := fun g hg => by rw [hI1, z_u2_nk (by omega)]
        have e33 : I1 m 33 = I m 33 := by rw [hI1, z_u2_row h31ne]
        refine b_X12_goesPinned_29 hk hk (hL.a31.wr (by omega) (by decide)) hk ?_
        rw [nI_clamp (by omega), h35, ← hI1, nI_1]
        have eimg : img n (zput f x p') (x + 1) ||| 2 ^ p' = img n f x ||| 2 ^ p' := by
          rw [img_put hp', Nat.or_assoc, Nat.or_self]
        have hrec := ihc d (x + 1) (zput f x p') I1 (by omega) (by omega) (by omega) (hF1.fa hL hA) (fun g hg => by
          by_cases e : g = x
          · rw [e, zput_s, hI1, z_u2_same]
          · rw [zput_n e, r1 g (by omega)]; exact hf g (by omega)) (hP.add hp' c2 hny (hdg x p' hxn hp')) (by rw [e33, eimg]; exact h33) (by rw [hF1.2 34 (by decide)]; exact h34) (by rw [hF1.2 35 (by decide)]; exact h35) (fun _ => zput_s) (fun q => by omega)
        refine hrec.mono ?_
        rintro v S1 I3 J1 ⟨r, rfl, rfl, rfl, u1, u2, u3, u4⟩
        refine b_X12_goesPinned_47 (z_fitb r) ⟨r, rfl, rfl, rfl, hF1.trans u1, fun g hg => by rw [u2 g (by omega)]; exact r1 g hg, fun q => ?_, fun q => ?_⟩
        · obtain ⟨φ, w1, w2, w3⟩ := u3 q
          exact ⟨φ, w1, (ext_put.mp w2).1, w3⟩
        · obtain ⟨w1, w2⟩ := u4 q
          exact ⟨fun φ p1 p2 p3 => w1 φ p1 (ext_put.mpr ⟨p2, p3⟩) p3, by rw [w2, e33]⟩
      · rw [zb_0] at c2
        exact c2 (by rw [← p3]; exact p1.may hxn p2)
end M15

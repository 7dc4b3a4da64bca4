/-! THE ABSTRACT MACHINE: kinds, lengths, references, whole numbers of cells, by handles (a handle is an address and one more; 0 is null). Its steps are said of the bytecode's own instructions. -/
abbrev zI : Type := Nat → Nat → Int32
abbrev zJ : Type := Nat → Nat → Int64
abbrev zS : Type := (Nat → Nat) × (Nat → Nat) × (Nat → Nat → Nat) × Nat × Nat × Nat
def z_kd (S : zS) (h : Nat) : Nat := S.1 h
def z_ln (S : zS) (h : Nat) : Nat := S.2.1 h
def z_rv (S : zS) (h k : Nat) : Nat := S.2.2.1 h k
def z_sz (S : zS) : Nat := S.2.2.2.1
def z_ce (S : zS) : Nat := S.2.2.2.2.1
def z_sl (S : zS) : Nat := S.2.2.2.2.2
def z_u1 {α : Type} (f : Nat → α) (k : Nat) (v : α) : Nat → α := fun j => if j = k then v else f j
def z_u2 {α : Type} (f : Nat → Nat → α) (h k : Nat) (v : α) : Nat → Nat → α := fun a j => if a = h then (if j = k then v else f a j) else f a j
def z_ur {α : Type} (f : Nat → Nat → α) (h : Nat) (g : Nat → α) : Nat → Nat → α := fun a j => if a = h then g j else f a j
def z_setR (S : zS) (h k v : Nat) : zS := (S.1, S.2.1, z_u2 S.2.2.1 h k v, S.2.2.2)
def z_new (S : zS) (kd len n : Nat) : zS := (z_u1 S.1 (S.2.2.2.1 + 1) kd, z_u1 S.2.1 (S.2.2.2.1 + 1) len, z_ur S.2.2.1 (S.2.2.2.1 + 1) (fun _ => 0), S.2.2.2.1 + 1, S.2.2.2.2.1 + 1, S.2.2.2.2.2 + n)
def z_isI (k : Nat) : Bool := Nat.beq k 100 || Nat.beq k 120
def z_isB (k : Nat) : Bool := Nat.beq k 101 || Nat.beq k 121
def z_isR (k : Nat) : Bool := Nat.beq k 102 || Nat.beq k 103
def z_isA (k : Nat) : Bool := z_isI k || z_isB k || z_isR k
/-- the kind of what an array of references holds -/
def z_el (k : Nat) : Nat := cond (Nat.beq k 102) 9 2
abbrev zE : Type := Instr × Nat × Nat × Nat × Int32 × Int64 × List (Int32 × Nat)
abbrev zC : Type := Nat × List Value × List Value × zS × zI × zJ
abbrev zQ : Type := Option Value → zS → zI → zJ → Prop
abbrev zO : Type := zC ⊕ ((Prop × zC) ⊕ ((Prop × Option Value × zS × zI × zJ) ⊕ ((Prop × Nat × List Value × zS × zI × zJ × (Option Value → zS → zI → zJ → zC)) ⊕ Unit)))
def z_fail : zO := .inr (.inr (.inr (.inr ())))
def z_to (c : zC) : zO := .inl c
def z_if (g : Prop) (c : zC) : zO := .inr (.inl (g, c))
def z_rt (g : Prop) (v : Option Value) (S : zS) (I : zI) (J : zJ) : zO := .inr (.inr (.inl (g, v, S, I, J)))
def z_ca (g : Prop) (y : Nat) (as : List Value) (S : zS) (I : zI) (J : zJ) (k : Option Value → zS → zI → zJ → zC) : zO := .inr (.inr (.inr (.inl (g, y, as, S, I, J, k))))
def z_stp (o : zO) (K : zC → Prop) (Rt : zQ) (C : Nat → List Value → zS → zI → zJ → zQ → Prop) : Prop :=
  match o with
  | .inl c => K c
  | .inr (.inl (g, c)) => g ∧ K c
  | .inr (.inr (.inl (g, v, S, I, J))) => g ∧ Rt v S I J
  | .inr (.inr (.inr (.inl (g, y, as, S, I, J, k)))) => g ∧ C y as S I J (fun v S I J => K (k v S I J))
  | .inr (.inr (.inr (.inr _))) => False
def z_get : List Value → Nat → Value
  | [], _ => .retAddr 0
  | v :: _, 0 => v
  | _ :: l, n + 1 => z_get l n
def z_kill (v : Value) : Value := match v with
  | .long _ => .retAddr 0
  | .double _ => .retAddr 0
  | w => w
/-- behind a place: the first half of a long there is no more -/
def z_putk : List Value → Nat → Value → List Value
  | w :: _ :: l, 0, v => z_kill w :: v :: l
  | w :: l, n + 1, v => w :: z_putk l n v
  | l, _, _ => l
def z_put (ls : List Value) (i : Nat) (v : Value) : List Value := match i with
  | 0 => match ls with
    | _ :: l => v :: l
    | [] => []
  | n + 1 => z_putk ls n v
def z_raw : List Value → Nat → Value → List Value
  | [], _, _ => []
  | _ :: l, 0, v => v :: l
  | w :: l, n + 1, v => w :: z_raw l n v
def z_st1 (ls : List Value) (i : Nat) (v : Value) (k : List Value → zO) : zO := match Nat.blt i ls.length with
  | true => k (z_put ls i v)
  | false => z_fail
def z_st2 (ls : List Value) (i : Nat) (v : Value) (k : List Value → zO) : zO := match Nat.blt (i + 1) ls.length with
  | true => k (z_raw (z_put ls i v) (i + 1) (.retAddr 0))
  | false => z_fail
def z_i1 (st : List Value) (f : Int32 → List Value → zO) : zO := match st with
  | .int x :: r => f x r
  | _ => z_fail
def z_j1 (st : List Value) (f : Int64 → List Value → zO) : zO := match st with
  | .long x :: r => f x r
  | _ => z_fail
def z_r1 (st : List Value) (f : Nat → List Value → zO) : zO := match st with
  | .ref x :: r => f x r
  | _ => z_fail
def z_ii (st : List Value) (f : Int32 → Int32 → List Value → zO) : zO := match st with
  | .int y :: .int x :: r => f x y r
  | _ => z_fail
def z_jj (st : List Value) (f : Int64 → Int64 → List Value → zO) : zO := match st with
  | .long y :: .long x :: r => f x y r
  | _ => z_fail
def z_li (ls : List Value) (i : Nat) (f : Int32 → zO) : zO := match z_get ls i with
  | .int x => f x
  | _ => z_fail
def z_lj (ls : List Value) (i : Nat) (f : Int64 → zO) : zO := match z_get ls i with
  | .long x => f x
  | _ => z_fail
def z_lr (ls : List Value) (i : Nat) (f : Nat → zO) : zO := match z_get ls i with
  | .ref x => f x
  | _ => z_fail
def z_cat (l : List Value) : Nat := (l.map fun v => v.category).sum
def z_cut (st : List Value) (n : Nat) (f : List Value → List Value → zO) : zO := match Nat.ble n st.length && Nat.ble (z_cat (st.drop n)) 8 with
  | true => f (st.take n).reverse (st.drop n)
  | false => z_fail
def z_sw : List (Int32 × Nat) → Nat → Int32 → Nat
  | [], d, _ => d
  | q :: l, d, x => if x = q.1 then q.2 else z_sw l d x
/-- what a whole number must be to be held as it is -/
def z_fit (t : Nat) (x : Int32) : Prop := match t with
  | 3 => x = 0 ∨ x = 1
  | 4 => 0 ≤ x.toInt ∧ x.toInt < 65536
  | 5 => -128 ≤ x.toInt ∧ x.toInt < 128
  | _ => True
def z_cp (I : zI) (a b sp dp n : Nat) : zI := z_ur I b (va_cpy (I a) (I b) sp dp n)
def z_out (e : zE) (pc : Nat) (ls st : List Value) (S : zS) (I : zI) (J : zJ) : zO := match e with
  | (i, _, r1, r2, im, jm, tg) => match i with
    | .iconst _ => z_to (pc + 1, ls, .int im :: st, S, I, J)
    | .bipush _ => z_to (pc + 2, ls, .int im :: st, S, I, J)
    | .sipush _ => z_to (pc + 3, ls, .int im :: st, S, I, J)
    | .ldc _ => match tg with
      | [] => z_to (pc + 2, ls, .int im :: st, S, I, J)
      | _ => z_to (pc + 2, ls, .ref (z_rv S 0 r1) :: st, S, I, J)
    | .ldc_w _ => z_to (pc + 3, ls, .int im :: st, S, I, J)
    | .ldc2_w _ => z_to (pc + 3, ls, .long jm :: st, S, I, J)
    | .lconst _ => z_to (pc + 1, ls, .long jm :: st, S, I, J)
    | .aconst_null => z_to (pc + 1, ls, .ref 0 :: st, S, I, J)
    | .iload i => z_li ls i (fun x => z_to (pc + 2, ls, .int x :: st, S, I, J))
    | .iload_n i => z_li ls i (fun x => z_to (pc + 1, ls, .int x :: st, S, I, J))
    | .lload i => z_lj ls i (fun x => z_to (pc + 2, ls, .long x :: st, S, I, J))
    | .lload_n i => z_lj ls i (fun x => z_to (pc + 1, ls, .long x :: st, S, I, J))
    | .aload i => z_lr ls i (fun x => z_to (pc + 2, ls, .ref x :: st, S, I, J))
    | .aload_n i => z_lr ls i (fun x => z_to (pc + 1, ls, .ref x :: st, S, I, J))
    | .istore i => z_i1 st (fun x r => z_st1 ls i (.int x) (fun ls => z_to (pc + 2, ls, r, S, I, J)))
    | .istore_n i => z_i1 st (fun x r => z_st1 ls i (.int x) (fun ls => z_to (pc + 1, ls, r, S, I, J)))
    | .lstore i => z_j1 st (fun x r => z_st2 ls i (.long x) (fun ls => z_to (pc + 2, ls, r, S, I, J)))
    | .lstore_n i => z_j1 st (fun x r => z_st2 ls i (.long x) (fun ls => z_to (pc + 1, ls, r, S, I, J)))
    | .astore i => z_r1 st (fun x r => z_st1 ls i (.ref x) (fun ls => z_if (¬ x = 0) (pc + 2, ls, r, S, I, J)))
    | .astore_n i => z_r1 st (fun x r => z_st1 ls i (.ref x) (fun ls => z_if (¬ x = 0) (pc + 1, ls, r, S, I, J)))
    | .iinc i _ => z_li ls i (fun x => z_st1 ls i (.int (x + im)) (fun ls => z_to (pc + 3, ls, st, S, I, J)))
    | .iadd => z_ii st (fun x y r => z_to (pc + 1, ls, .int (x + y) :: r, S, I, J))
    | .isub => z_ii st (fun x y r => z_to (pc + 1, ls, .int (x - y) :: r, S, I, J))
    | .imul => z_ii st (fun x y r => z_to (pc + 1, ls, .int (x * y) :: r, S, I, J))
    | .iand => z_ii st (fun x y r => z_to (pc + 1, ls, .int (x &&& y) :: r, S, I, J))
    | .ior => z_ii st (fun x y r => z_to (pc + 1, ls, .int (x ||| y) :: r, S, I, J))
    | .ixor => z_ii st (fun x y r => z_to (pc + 1, ls, .int (x ^^^ y) :: r, S, I, J))
    | .ishl => z_ii st (fun x y r => z_to (pc + 1, ls, .int (x <<< (y &&& 31)) :: r, S, I, J))
    | .ishr => z_ii st (fun x y r => z_to (pc + 1, ls, .int (x >>> (y &&& 31)) :: r, S, I, J))
    | .iushr => z_ii st (fun x y r => z_to (pc + 1, ls, .int ((x.toUInt32 >>> (y.toUInt32 &&& Int32.toUInt32 31)).toInt32) :: r, S, I, J))
    | .idiv => z_ii st (fun x y r => z_if (¬ y = 0) (pc + 1, ls, .int (x / y) :: r, S, I, J))
    | .irem => z_ii st (fun x y r => z_if (¬ y = 0) (pc + 1, ls, .int (x - x / y * y) :: r, S, I, J))
    | .ladd => z_jj st (fun x y r => z_to (pc + 1, ls, .long (x + y) :: r, S, I, J))
    | .lmul => z_jj st (fun x y r => z_to (pc + 1, ls, .long (x * y) :: r, S, I, J))
    | .lshl => match st with
      | .int y :: .long x :: r => z_to (pc + 1, ls, .long (x <<< (y.toInt64 &&& 63)) :: r, S, I, J)
      | _ => z_fail
    | .lcmp => z_jj st (fun x y r => z_to (pc + 1, ls, .int (lg_cmp x y) :: r, S, I, J))
    | .i2l => z_i1 st (fun x r => z_to (pc + 1, ls, .long x.toInt64 :: r, S, I, J))
    | .i2b => z_i1 st (fun x r => z_to (pc + 1, ls, .int x.toInt8.toInt32 :: r, S, I, J))
    | .i2c => z_i1 st (fun x r => z_to (pc + 1, ls, .int (x.toUInt32 % 65536).toInt32 :: r, S, I, J))
    | .dup => match st with
      | .int x :: r => z_to (pc + 1, ls, .int x :: .int x :: r, S, I, J)
      | .ref x :: r => z_to (pc + 1, ls, .ref x :: .ref x :: r, S, I, J)
      | _ => z_fail
    | .dup2 => match st with
      | .int x :: .ref y :: r => z_to (pc + 1, ls, .int x :: .ref y :: .int x :: .ref y :: r, S, I, J)
      | _ => z_fail
    | .pop => match st with
      | .int _ :: r => z_to (pc + 1, ls, r, S, I, J)
      | .ref _ :: r => z_to (pc + 1, ls, r, S, I, J)
      | _ => z_fail
    | .goto _ => z_to (r1, ls, st, S, I, J)
    | .if_icmp c _ => z_ii st (fun x y r => match c with
      | .eq => z_to (if x = y then r1 else pc + 3, ls, r, S, I, J)
      | .ne => z_to (if x = y then pc + 3 else r1, ls, r, S, I, J)
      | .lt => z_to (if x < y then r1 else pc + 3, ls, r, S, I, J)
      | .ge => z_to (if y ≤ x then r1 else pc + 3, ls, r, S, I, J)
      | .gt => z_to (if y < x then r1 else pc + 3, ls, r, S, I, J)
      | .le => z_to (if x ≤ y then r1 else pc + 3, ls, r, S, I, J))
    | .ifCond c _ => z_i1 st (fun x r => match c with
      | .eq => z_to (if x = 0 then r1 else pc + 3, ls, r, S, I, J)
      | .ne => z_to (if x = 0 then pc + 3 else r1, ls, r, S, I, J)
      | .lt => z_to (if x < 0 then r1 else pc + 3, ls, r, S, I, J)
      | .ge => z_to (if 0 ≤ x then r1 else pc + 3, ls, r, S, I, J)
      | .gt => z_to (if 0 < x then r1 else pc + 3, ls, r, S, I, J)
      | .le => z_to (if x ≤ 0 then r1 else pc + 3, ls, r, S, I, J))
    | .ifnull _ => z_r1 st (fun x r => z_to (if x = 0 then r1 else pc + 3, ls, r, S, I, J))
    | .ifnonnull _ => z_r1 st (fun x r => z_to (if x = 0 then pc + 3 else r1, ls, r, S, I, J))
    | .tableswitch _ _ _ _ => z_i1 st (fun x r => z_to (z_sw tg r1 x, ls, r, S, I, J))
    | .lookupswitch _ _ => z_i1 st (fun x r => z_to (z_sw tg r1 x, ls, r, S, I, J))
    | .getfield _ => z_r1 st (fun h r => match tg with
      | (_, 1) :: _ => z_if (z_kd S h = r1) (pc + 3, ls, .long (J h r2) :: r, S, I, J)
      | (_, 2) :: _ => z_if (z_kd S h = r1) (pc + 3, ls, .ref (z_rv S h r2) :: r, S, I, J)
      | _ => z_if (z_kd S h = r1) (pc + 3, ls, .int (I h r2) :: r, S, I, J))
    | .putfield _ => match st with
      | .int x :: .ref h :: r => match tg with
        | (_, 0) :: _ => z_if (z_kd S h = r1) (pc + 3, ls, r, S, z_u2 I h r2 x, J)
        | (_, 3) :: _ => z_if (z_kd S h = r1 ∧ (x = 0 ∨ x = 1)) (pc + 3, ls, r, S, z_u2 I h r2 x, J)
        | _ => z_fail
      | .long x :: .ref h :: r => match tg with
        | (_, 1) :: _ => z_if (z_kd S h = r1) (pc + 3, ls, r, S, I, z_u2 J h r2 x)
        | _ => z_fail
      | .ref v :: .ref h :: r => match tg with
        | (_, 2) :: _ => z_if (z_kd S h = r1) (pc + 3, ls, r, z_setR S h r2 v, I, J)
        | _ => z_fail
      | _ => z_fail
    | .getstatic _ => match tg with
      | [] => z_to (pc + 3, ls, .int im :: st, S, I, J)
      | _ => z_to (pc + 3, ls, .ref (z_rv S 0 r1) :: st, S, I, J)
    | .new _ => z_to (pc + 3, ls, .ref (z_sz S + 1) :: st, z_new S r1 0 r2, z_ur I (z_sz S + 1) (fun _ => 0), z_ur J (z_sz S + 1) (fun _ => 0))
    | .newarray _ => z_i1 st (fun n r => z_if (¬ n < 0 ∧ n.toNatClampNeg * 4 ≤ 536870912) (pc + 2, ls, .ref (z_sz S + 1) :: r, z_new S r1 n.toNatClampNeg n.toNatClampNeg, z_ur I (z_sz S + 1) (fun _ => 0), J))
    | .anewarray _ => z_i1 st (fun n r => z_if (¬ n < 0 ∧ n.toNatClampNeg * 4 ≤ 536870912) (pc + 3, ls, .ref (z_sz S + 1) :: r, z_new S r1 n.toNatClampNeg n.toNatClampNeg, I, J))
    | .arraylength => z_r1 st (fun h r => z_if (z_isA (z_kd S h) = true) (pc + 1, ls, .int (nI (z_ln S h)) :: r, S, I, J))
    | .iaload => match st with
      | .int i :: .ref h :: r => z_if (z_isI (z_kd S h) = true ∧ vp_in i (z_ln S h)) (pc + 1, ls, .int (I h i.toNatClampNeg) :: r, S, I, J)
      | _ => z_fail
    | .baload => match st with
      | .int i :: .ref h :: r => z_if (z_isB (z_kd S h) = true ∧ vp_in i (z_ln S h)) (pc + 1, ls, .int (I h i.toNatClampNeg) :: r, S, I, J)
      | _ => z_fail
    | .aaload => match st with
      | .int i :: .ref h :: r => z_if (z_isR (z_kd S h) = true ∧ vp_in i (z_ln S h)) (pc + 1, ls, .ref (z_rv S h i.toNatClampNeg) :: r, S, I, J)
      | _ => z_fail
    | .iastore => match st with
      | .int x :: .int i :: .ref h :: r => z_if (z_kd S h = 100 ∧ vp_in i (z_ln S h)) (pc + 1, ls, r, S, z_u2 I h i.toNatClampNeg x, J)
      | _ => z_fail
    | .bastore => match st with
      | .int x :: .int i :: .ref h :: r => z_if (z_kd S h = 101 ∧ vp_in i (z_ln S h)) (pc + 1, ls, r, S, z_u2 I h i.toNatClampNeg x.toInt8.toInt32, J)
      | _ => z_fail
    | .aastore => match st with
      | .ref v :: .int i :: .ref h :: r => z_if (z_isR (z_kd S h) = true ∧ vp_in i (z_ln S h) ∧ z_kd S v = z_el (z_kd S h)) (pc + 1, ls, r, z_setR S h i.toNatClampNeg v, I, J)
      | _ => z_fail
    | .ireturn => match st, tg with
      | [.int x], [] => z_rt True (some (.int x)) S I J
      | [.int x], (_, t) :: _ => z_rt (z_fit t x) (some (.int x)) S I J
      | _, _ => z_fail
    | .lreturn => match st with
      | [.long x] => z_rt True (some (.long x)) S I J
      | _ => z_fail
    | .areturn => match st with
      | [.ref x] => z_rt True (some (.ref x)) S I J
      | _ => z_fail
    | .return_ => match st with
      | [] => z_rt True none S I J
      | _ => z_fail
    | .invokevirtual _ => z_cut st r2 (fun as r => match as, tg with
      | .ref h :: _, (_, t) :: _ => z_ca (z_kd S h = t) r1 as S I J (fun v S I J => (pc + 3, ls, v.toList ++ r, S, I, J))
      | _, _ => z_fail)
    | .invokespecial _ => match Nat.beq r1 998 with
      | true => z_r1 st (fun h r => match Nat.ble (z_cat r) 8 with
        | true => z_if (¬ h = 0) (pc + 3, ls, r, S, I, J)
        | false => z_fail)
      | false => z_cut st r2 (fun as r => match as with
        | .ref h :: _ => z_ca (¬ h = 0) r1 as S I J (fun v S I J => (pc + 3, ls, v.toList ++ r, S, I, J))
        | _ => z_fail)
    | .invokestatic _ => match Nat.beq r1 999 with
      | true => match st with
        | .int n :: .int dp :: .ref b :: .int sp :: .ref a :: r => match Nat.ble (z_cat r) 8 with
          | true => z_if (z_kd S a = 100 ∧ z_kd S b = 100 ∧ ¬ a = b ∧ ¬ sp < 0 ∧ ¬ dp < 0 ∧ ¬ n < 0 ∧ sp.toNatClampNeg + n.toNatClampNeg ≤ z_ln S a ∧ dp.toNatClampNeg + n.toNatClampNeg ≤ z_ln S b) (pc + 3, ls, r, S, z_cp I a b sp.toNatClampNeg dp.toNatClampNeg n.toNatClampNeg, J)
          | false => z_fail
        | _ => z_fail
      | false => z_cut st r2 (fun as r => z_ca True r1 as S I J (fun v S I J => (pc + 3, ls, v.toList ++ r, S, I, J)))
    | _ => z_fail
def z_step (T : Nat → Option zE) (c : zC) : zO := match c with
  | (pc, ls, st, S, I, J) => match T pc with
    | some e => z_out e pc ls st S I J
    | none => z_fail
abbrev zK : Type := Nat → List Value → zS → zI → zJ → zQ → Prop
/-- the machine comes from a place to its return, with Q -/
def z_go (C : zK) (T : Nat → Option zE) (Q : zQ) (c : zC) : Prop := ∀ P : zC → Prop, (∀ c', z_stp (z_step T c') P Q C → P c') → P c
def z_eq (v : Option Value) (S : zS) (I : zI) (J : zJ) : zQ := fun v1 S1 I1 J1 => v1 = v ∧ S1 = S ∧ I1 = I ∧ J1 = J
def z_up (C : zK) : Prop := ∀ y as S I J (Q Q' : zQ), (∀ v S I J, Q v S I J → Q' v S I J) → C y as S I J Q → C y as S I J Q'
theorem z_mono {o : zO} {K K' : zC → Prop} {R R' : zQ} {C : zK} (hC : z_up C) (hK : ∀ c, K c → K' c) (hR : ∀ v S I J, R v S I J → R' v S I J) (h : z_stp o K R C) : z_stp o K' R' C := by
  rcases o with c | ⟨g, c⟩ | ⟨g, v, S, I, J⟩ | ⟨g, y, as, S, I, J, k⟩ | _
  · exact hK _ h
  · exact ⟨h.1, hK _ h.2⟩
  · exact ⟨h.1, hR _ _ _ _ h.2⟩
  · exact ⟨h.1, hC _ _ _ _ _ _ _ (fun _ _ _ _ q => hK _ q) h.2⟩
  · exact h
theorem z_fold {C : zK} (hC : z_up C) {T : Nat → Option zE} {Q : zQ} {c : zC} (h : z_stp (z_step T c) (z_go C T Q) Q C) : z_go C T Q c :=
  fun P hP => hP c (z_mono hC (fun _ hx => hx P hP) (fun _ _ _ _ q => q) h)
theorem z_go.weaken {C : zK} (hC : z_up C) {T : Nat → Option zE} {Q Q' : zQ} {c : zC} (h : z_go C T Q c) (hQ : ∀ v S I J, Q v S I J → Q' v S I J) : z_go C T Q' c :=
  h (z_go C T Q') (fun c' h' => z_fold hC (z_mono hC (fun _ q => q) hQ h'))
/-- of what a run comes to, one is it -/
theorem z_go.one {C : zK} (hC : z_up C) (hE : ∀ y as S I J Q, C y as S I J Q → ∃ v S' I' J', C y as S I J (z_eq v S' I' J') ∧ Q v S' I' J') {T : Nat → Option zE} {Q : zQ} {c : zC} (h : z_go C T Q c) : ∃ v S I J, Q v S I J ∧ z_go C T (z_eq v S I J) c := by
  refine h (fun c => ∃ v S I J, Q v S I J ∧ z_go C T (z_eq v S I J) c) (fun c' h' => ?_)
  rcases ho : z_step T c' with c | ⟨g, c⟩ | ⟨g, v, S, I, J⟩ | ⟨g, y, as, S, I, J, k⟩ | _
  · rw [ho] at h'
    obtain ⟨v, S, I, J, hq, hg⟩ := h'
    exact ⟨v, S, I, J, hq, z_fold hC (by rw [ho]; exact hg)⟩
  · rw [ho] at h'
    obtain ⟨h1, v, S, I, J, hq, hg⟩ := h'
    exact ⟨v, S, I, J, hq, z_fold hC (by rw [ho]; exact ⟨h1, hg⟩)⟩
  · rw [ho] at h'
    exact ⟨v, S, I, J, h'.2, z_fold hC (by rw [ho]; exact ⟨h'.1, rfl, rfl, rfl, rfl⟩)⟩
  · rw [ho] at h'
    obtain ⟨h1, h2⟩ := h'
    obtain ⟨v1, S1, I1, J1, hc, v, S2, I2, J2, hq, hg⟩ := hE _ _ _ _ _ _ h2
    have hk : C y as S I J (fun v' S' I' J' => z_go C T (z_eq v S2 I2 J2) (k v' S' I' J')) := by
      refine hC _ _ _ _ _ _ _ (fun a b c d q => ?_) hc
      obtain ⟨rfl, rfl, rfl, rfl⟩ := q
      exact hg
    exact ⟨v, S2, I2, J2, hq, z_fold hC (by rw [ho]; exact ⟨h1, hk⟩)⟩
  · rw [ho] at h'
    exact h'.elim
def z_n (C : zK) (T : Nat → Option zE) (Q : zQ) (k : Nat) : zC → Prop := Nat.rec (motive := fun _ => zC → Prop) (z_go C T Q) (fun _ ih c => z_stp (z_step T c) ih Q C) k
theorem z_foldN {C : zK} (hC : z_up C) {T : Nat → Option zE} {Q : zQ} : ∀ (k : Nat) (c : zC), z_n C T Q k c → z_go C T Q c
  | 0, _, h => h
  | k + 1, _, h => z_fold hC (z_mono hC (fun c q => z_foldN hC k c q) (fun _ _ _ _ q => q) h)

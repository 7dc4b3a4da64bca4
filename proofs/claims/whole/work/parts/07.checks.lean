/-! CHECKS: every entry of the machine's tables against the code and the links -/
def z_rc (t : Option FieldType) : Nat := match t with
  | none => 9
  | some .int => 0
  | some .long => 1
  | some .boolean => 3
  | some .char => 4
  | some .byte => 5
  | some (.object _) => 2
  | some (.array _) => 2
  | _ => 99
def z_tag (o : Nat) : Nat := cond (Nat.blt o 13) (o + 1) (cond (Nat.beq o 15) 22 0)
def z_f4 (l : List (Nat × Nat × Nat × Nat)) (o k r : Nat) : Bool := l.any (fun q => Nat.beq q.1 o && Nat.beq q.2.1 k && Nat.beq q.2.2.1 r)
def z_f3 (l : List (Nat × Nat × Nat)) (o k : Nat) : Bool := l.any (fun q => Nat.beq q.1 o && Nat.beq q.2.1 k)
def z_kk (y kd n : Nat) : Bool := match z_inf y with
  | some q => Nat.beq q.2.2.2.2.2.2 kd && Nat.beq q.2.2.2.2.2.1 n
  | none => false
def z_kt (y t : Nat) : Bool := match z_inf y with
  | some q => Nat.beq (z_tag q.2.2.2.2.1) t
  | none => false
def z_off (pc : Nat) (n : Int) (r : Nat) : Bool := decide ((pc : Int) + n = (r : Int))
def z_tsw (pc : Nat) (lo hi : Int) (offs : List Int) (tg : List (Int32 × Nat)) : Bool := decide (hi - lo + 1 = (offs.length : Int)) && decide (0 ≤ lo) && decide (hi < 1000) && decide (tg.length = offs.length) && (List.range offs.length).all (fun j => match tg[j]?, offs[j]? with
  | some q, some f => decide (q.1 = Int32.ofInt (lo + (j : Int))) && z_off pc f q.2
  | _, _ => false)
def z_lsw (pc : Nat) (ps : List (Int × Int)) (tg : List (Int32 × Nat)) : Bool := decide ((ps.zip (ps.drop 1)).all (fun (a, next) => a.1 < next.1) = true) && decide (ps.all (fun a => decide (0 ≤ a.1) && decide (a.1 < 1000)) = true) && decide (tg.length = ps.length) && (List.range ps.length).all (fun j => match tg[j]?, ps[j]? with
  | some q, some f => decide (q.1 = Int32.ofInt f.1) && z_off pc f.2 q.2
  | _, _ => false)
def z_len (i : Instr) : Nat := match i with
  | .iconst _ => 1
  | .bipush _ => 2
  | .sipush _ => 3
  | .ldc _ => 2
  | .ldc_w _ => 3
  | .ldc2_w _ => 3
  | .iload _ => 2
  | .lload _ => 2
  | .aload _ => 2
  | .istore _ => 2
  | .lstore _ => 2
  | .astore _ => 2
  | .iinc _ _ => 3
  | .goto _ => 3
  | .if_icmp _ _ => 3
  | .ifCond _ _ => 3
  | .ifnull _ => 3
  | .ifnonnull _ => 3
  | .getfield _ => 3
  | .putfield _ => 3
  | .getstatic _ => 3
  | .new _ => 3
  | .newarray _ => 2
  | .anewarray _ => 3
  | .invokevirtual _ => 3
  | .invokespecial _ => 3
  | .invokestatic _ => 3
  | .tableswitch _ _ _ _ => 0
  | .lookupswitch _ _ => 0
  | _ => 1
def z_fnl (t j : Nat) : Bool := (z_T (t - 1) j).2.2.2
def z_lk (o rc kd pc : Nat) (e : zE) : Bool := match e with
  | (i, _, r1, r2, im, jm, tg) => match i with
    | .iconst n => decide (Int32.ofInt n = im)
    | .bipush n => decide ((Int8.ofInt n).toInt32 = im)
    | .sipush n => decide ((Int16.ofInt n).toInt32 = im)
    | .lconst n => decide (Int64.ofNat (n : Nat) = jm)
    | .ldc k => match tg with
      | [] => z_ci.any (fun q => Nat.beq q.1 o && Nat.beq q.2.1 k && decide (q.2.2.1 = im))
      | _ => z_cs.any (fun q => Nat.beq q.1 o && Nat.beq q.2.1 k && Nat.beq q.2.2 r1)
    | .ldc_w k => z_ci.any (fun q => Nat.beq q.1 o && Nat.beq q.2.1 k && decide (q.2.2.1 = im))
    | .ldc2_w k => z_cj.any (fun q => Nat.beq q.1 o && Nat.beq q.2.1 k && decide (q.2.2.1 = jm))
    | .iinc _ n => decide (Int32.ofInt n = im)
    | .goto n => z_off pc n r1
    | .if_icmp _ n => z_off pc n r1
    | .ifCond _ n => z_off pc n r1
    | .ifnull n => z_off pc n r1
    | .ifnonnull n => z_off pc n r1
    | .tableswitch d lo hi offs => z_off pc d r1 && z_tsw pc lo hi offs.toList tg
    | .lookupswitch d ps => z_off pc d r1 && z_lsw pc ps.toList tg
    | .getfield k => match tg with
      | (_, c) :: _ => z_fl.any (fun q => Nat.beq q.1 o && Nat.beq q.2.1 k && Nat.beq q.2.2.1 r1 && Nat.beq q.2.2.2.1 r2 && Nat.beq q.2.2.2.2.1 c) || (Nat.beq r1 22 && z_f4 z_fls o k r2 && ((Nat.beq r2 0 && Nat.beq c 2) || (Nat.beq r2 1 && Nat.beq c 5)))
      | [] => false
    | .putfield k => match tg with
      | (_, c) :: _ => z_fl.any (fun q => Nat.beq q.1 o && Nat.beq q.2.1 k && Nat.beq q.2.2.1 r1 && Nat.beq q.2.2.2.1 r2 && Nat.beq q.2.2.2.2.1 c) && (!(z_fnl r1 r2) || (Nat.beq kd 2 && Nat.beq r1 (o + 1)))
      | [] => false
    | .getstatic k => match tg with
      | [] => Nat.beq o 15 && Nat.beq k 38 && decide (im = 1)
      | _ => (Nat.beq o 2 && Nat.beq k 44 && Nat.beq r1 20) || (Nat.beq o 15 && Nat.beq k 1053 && Nat.beq r1 21)
    | .new k => z_f4 z_kl o k r1 && Nat.beq r2 (z_nf (r1 - 1))
    | .newarray t => match t with
      | .int => Nat.beq r1 100
      | .byte => Nat.beq r1 101
      | _ => false
    | .anewarray k => (z_f4 z_kl o k 9 && Nat.beq r1 102) || (z_f4 z_kl o k 2 && Nat.beq r1 103)
    | .invokevirtual k => match tg with
      | (_, t) :: _ => z_f4 z_mll o k r1 && z_kk r1 0 (r2 - 1) && Nat.blt 0 r2 && z_kt r1 t
      | [] => false
    | .invokespecial k => cond (Nat.beq r1 998) (z_f3 z_oi o k) (z_f4 z_mll o k r1 && z_kk r1 2 (r2 - 1) && Nat.blt 0 r2)
    | .invokestatic k => cond (Nat.beq r1 999) (z_f3 z_ac o k) ((z_f4 z_mll o k r1 || z_f4 z_mnl o k r1) && z_kk r1 1 r2)
    | .ireturn => match tg with
      | [] => Nat.beq rc 0
      | (_, t) :: _ => Nat.beq t rc && Nat.ble 3 t && Nat.ble t 5
    | .lreturn => Nat.beq rc 1
    | .areturn => Nat.beq rc 2
    | .return_ => Nat.beq rc 9
    | _ => true
def z_chk (o rc kd : Nat) (cc : ByteArray) (pc : Nat) (e : zE) : Bool := decide (decode cc pc = .ok (e.1, e.2.1)) && (Nat.beq (z_len e.1) 0 || Nat.beq (z_len e.1) e.2.1) && z_lk o rc kd pc e
def z_ckT (T : Nat → Option zE) (N : Nat) (f : Nat → zE → Bool) : Bool := (List.range N).all (fun pc => match T pc with
  | none => true
  | some e => f pc e)
theorem z_ckT_use {T T' : Nat → Option zE} {N : Nat} {f : Nat → zE → Bool} (hT : T = fun pc => cond (Nat.blt pc N) (T' pc) none) (h : z_ckT T N f = true) {pc : Nat} {e : zE} (he : T pc = some e) : f pc e = true := by
  have hN : pc < N := by
    rw [hT] at he
    cases hb : Nat.blt pc N with
    | true => exact Nat.ble_eq.mp hb
    | false => simp [hb] at he
  have h1 := List.all_eq_true.mp h pc (List.mem_range.mpr hN)
  rw [he] at h1
  exact h1
set_option maxRecDepth 100000 in
theorem ck_X0_init : z_ckT tr_X0_init 73 (z_chk 0 9 2 cX0_init) = true := by decide +kernel
set_option maxRecDepth 100000 in
theorem ck_X0_paint : z_ckT tr_X0_paint 104 (z_chk 0 9 0 cX0_paint) = true := by decide +kernel
set_option maxRecDepth 100000 in
theorem ck_X0_refine : z_ckT tr_X0_refine 137 (z_chk 0 9 0 cX0_refine) = true := by decide +kernel
set_option maxRecDepth 100000 in
theorem ck_X0_mix : z_ckT tr_X0_mix 24 (z_chk 0 0 1 cX0_mix) = true := by decide +kernel
set_option maxRecDepth 100000 in
theorem ck_X0_sortOut : z_ckT tr_X0_sortOut 82 (z_chk 0 9 0 cX0_sortOut) = true := by decide +kernel
set_option maxRecDepth 100000 in
theorem ck_X0_classOfHue : z_ckT tr_X0_classOfHue 38 (z_chk 0 0 0 cX0_classOfHue) = true := by decide +kernel
set_option maxRecDepth 100000 in
theorem ck_X0_spreadOut : z_ckT tr_X0_spreadOut 106 (z_chk 0 9 0 cX0_spreadOut) = true := by decide +kernel
set_option maxRecDepth 100000 in
theorem ck_X1_init : z_ckT tr_X1_init 76 (z_chk 1 9 2 cX1_init) = true := by decide +kernel
set_option maxRecDepth 100000 in
theorem ck_X1_times : z_ckT tr_X1_times 14 (z_chk 1 0 0 cX1_times) = true := by decide +kernel
set_option maxRecDepth 100000 in
theorem ck_X1_findInverses : z_ckT tr_X1_findInverses 56 (z_chk 1 9 0 cX1_findInverses) = true := by decide +kernel
set_option maxRecDepth 100000 in
theorem ck_X1_findPeriods : z_ckT tr_X1_findPeriods 53 (z_chk 1 9 0 cX1_findPeriods) = true := by decide +kernel
set_option maxRecDepth 100000 in
theorem ck_X1_findClasses : z_ckT tr_X1_findClasses 63 (z_chk 1 9 0 cX1_findClasses) = true := by decide +kernel
set_option maxRecDepth 100000 in
theorem ck_X1_findMarks : z_ckT tr_X1_findMarks 62 (z_chk 1 9 0 cX1_findMarks) = true := by decide +kernel
set_option maxRecDepth 100000 in
theorem ck_X1_hasMarksOf : z_ckT tr_X1_hasMarksOf 58 (z_chk 1 3 0 cX1_hasMarksOf) = true := by decide +kernel
set_option maxRecDepth 100000 in
theorem ck_X1_countMark : z_ckT tr_X1_countMark 33 (z_chk 1 0 0 cX1_countMark) = true := by decide +kernel
set_option maxRecDepth 100000 in
theorem ck_X1_isSet : z_ckT tr_X1_isSet 19 (z_chk 1 3 0 cX1_isSet) = true := by decide +kernel
set_option maxRecDepth 100000 in
theorem ck_X1_isClosed : z_ckT tr_X1_isClosed 15 (z_chk 1 3 0 cX1_isClosed) = true := by decide +kernel
set_option maxRecDepth 100000 in
theorem ck_X1_isOfWholeClasses : z_ckT tr_X1_isOfWholeClasses 41 (z_chk 1 3 0 cX1_isOfWholeClasses) = true := by decide +kernel
set_option maxRecDepth 100000 in
theorem ck_X1_withInverses : z_ckT tr_X1_withInverses 39 (z_chk 1 0 0 cX1_withInverses) = true := by decide +kernel
set_option maxRecDepth 100000 in
theorem ck_X1_onward : z_ckT tr_X1_onward 41 (z_chk 1 0 0 cX1_onward) = true := by decide +kernel
set_option maxRecDepth 100000 in
theorem ck_X1_shifted : z_ckT tr_X1_shifted 50 (z_chk 1 0 0 cX1_shifted) = true := by decide +kernel
set_option maxRecDepth 100000 in
theorem ck_X1_span : z_ckT tr_X1_span 43 (z_chk 1 0 0 cX1_span) = true := by decide +kernel
set_option maxRecDepth 100000 in
theorem ck_X1_centreOrder : z_ckT tr_X1_centreOrder 35 (z_chk 1 0 0 cX1_centreOrder) = true := by decide +kernel
set_option maxRecDepth 100000 in
theorem ck_X1_countClasses : z_ckT tr_X1_countClasses 40 (z_chk 1 0 0 cX1_countClasses) = true := by decide +kernel
set_option maxRecDepth 100000 in
theorem ck_X1_derived : z_ckT tr_X1_derived 71 (z_chk 1 0 0 cX1_derived) = true := by decide +kernel
set_option maxRecDepth 100000 in
theorem ck_X1_exponent : z_ckT tr_X1_exponent 65 (z_chk 1 0 0 cX1_exponent) = true := by decide +kernel
set_option maxRecDepth 100000 in
theorem ck_X1_countSubgroups : z_ckT tr_X1_countSubgroups 16 (z_chk 1 0 0 cX1_countSubgroups) = true := by decide +kernel
set_option maxRecDepth 100000 in
theorem ck_X1_subgroupAt : z_ckT tr_X1_subgroupAt 28 (z_chk 1 0 0 cX1_subgroupAt) = true := by decide +kernel
set_option maxRecDepth 100000 in
theorem ck_X1_findSubgroups : z_ckT tr_X1_findSubgroups 139 (z_chk 1 9 0 cX1_findSubgroups) = true := by decide +kernel
set_option maxRecDepth 100000 in
theorem ck_X1_hasNoneBetween : z_ckT tr_X1_hasNoneBetween 37 (z_chk 1 3 1 cX1_hasNoneBetween) = true := by decide +kernel
set_option maxRecDepth 100000 in
theorem ck_X1_keepSubgroup : z_ckT tr_X1_keepSubgroup 49 (z_chk 1 9 0 cX1_keepSubgroup) = true := by decide +kernel
set_option maxRecDepth 100000 in
theorem ck_X1_sortSubgroups : z_ckT tr_X1_sortSubgroups 69 (z_chk 1 9 0 cX1_sortSubgroups) = true := by decide +kernel
set_option maxRecDepth 100000 in
theorem ck_X1_numberCosets : z_ckT tr_X1_numberCosets 96 (z_chk 1 0 0 cX1_numberCosets) = true := by decide +kernel
set_option maxRecDepth 100000 in
theorem ck_X1_dividedBy : z_ckT tr_X1_dividedBy 103 (z_chk 1 2 0 cX1_dividedBy) = true := by decide +kernel
set_option maxRecDepth 100000 in
theorem ck_X1_nameByte : z_ckT tr_X1_nameByte 38 (z_chk 1 0 0 cX1_nameByte) = true := by decide +kernel
set_option maxRecDepth 100000 in
theorem ck_X2_init : z_ckT tr_X2_init 54 (z_chk 2 9 2 cX2_init) = true := by decide +kernel
set_option maxRecDepth 100000 in
theorem ck_X2_startAnew : z_ckT tr_X2_startAnew 21 (z_chk 2 9 0 cX2_startAnew) = true := by decide +kernel
set_option maxRecDepth 100000 in
theorem ck_X2_addFactor : z_ckT tr_X2_addFactor 83 (z_chk 2 3 0 cX2_addFactor) = true := by decide +kernel
set_option maxRecDepth 100000 in
theorem ck_X2_sizeOf : z_ckT tr_X2_sizeOf 51 (z_chk 2 0 1 cX2_sizeOf) = true := by decide +kernel
set_option maxRecDepth 100000 in
theorem ck_X2_addRow : z_ckT tr_X2_addRow 56 (z_chk 2 3 0 cX2_addRow) = true := by decide +kernel
set_option maxRecDepth 100000 in
theorem ck_X2_findElements : z_ckT tr_X2_findElements 151 (z_chk 2 3 0 cX2_findElements) = true := by decide +kernel
set_option maxRecDepth 100000 in
theorem ck_X2_build : z_ckT tr_X2_build 111 (z_chk 2 2 0 cX2_build) = true := by decide +kernel
set_option maxRecDepth 100000 in
theorem ck_X2_names : z_ckT tr_X2_names 74 (z_chk 2 2 0 cX2_names) = true := by decide +kernel
set_option maxRecDepth 100000 in
theorem ck_X2_rowProduct : z_ckT tr_X2_rowProduct 37 (z_chk 2 0 0 cX2_rowProduct) = true := by decide +kernel
set_option maxRecDepth 100000 in
theorem ck_X2_factorsProduct : z_ckT tr_X2_factorsProduct 96 (z_chk 2 0 0 cX2_factorsProduct) = true := by decide +kernel
set_option maxRecDepth 100000 in
theorem ck_X2_factorProduct : z_ckT tr_X2_factorProduct 113 (z_chk 2 0 0 cX2_factorProduct) = true := by decide +kernel
set_option maxRecDepth 100000 in
theorem ck_X2_turned : z_ckT tr_X2_turned 99 (z_chk 2 0 1 cX2_turned) = true := by decide +kernel
set_option maxRecDepth 100000 in
theorem ck_X3_init : z_ckT tr_X3_init 42 (z_chk 3 9 2 cX3_init) = true := by decide +kernel
set_option maxRecDepth 100000 in
theorem ck_X3_begin : z_ckT tr_X3_begin 101 (z_chk 3 9 0 cX3_begin) = true := by decide +kernel
set_option maxRecDepth 100000 in
theorem ck_X3_fits : z_ckT tr_X3_fits 42 (z_chk 3 3 0 cX3_fits) = true := by decide +kernel
set_option maxRecDepth 100000 in
theorem ck_X3_spread : z_ckT tr_X3_spread 203 (z_chk 3 3 0 cX3_spread) = true := by decide +kernel
set_option maxRecDepth 100000 in
theorem ck_X3_tryImage : z_ckT tr_X3_tryImage 37 (z_chk 3 3 0 cX3_tryImage) = true := by decide +kernel
set_option maxRecDepth 100000 in
theorem ck_X3_complete : z_ckT tr_X3_complete 58 (z_chk 3 3 0 cX3_complete) = true := by decide +kernel
set_option maxRecDepth 100000 in
theorem ck_X3_findFirst : z_ckT tr_X3_findFirst 78 (z_chk 3 9 0 cX3_findFirst) = true := by decide +kernel
set_option maxRecDepth 100000 in
theorem ck_X3_countOwn : z_ckT tr_X3_countOwn 95 (z_chk 3 0 0 cX3_countOwn) = true := by decide +kernel
set_option maxRecDepth 100000 in
theorem ck_X4_init : z_ckT tr_X4_init 40 (z_chk 4 9 2 cX4_init) = true := by decide +kernel
set_option maxRecDepth 100000 in
theorem ck_X4_keep : z_ckT tr_X4_keep 65 (z_chk 4 9 0 cX4_keep) = true := by decide +kernel
set_option maxRecDepth 100000 in
theorem ck_X4_stepBack : z_ckT tr_X4_stepBack 31 (z_chk 4 9 0 cX4_stepBack) = true := by decide +kernel
set_option maxRecDepth 100000 in
theorem ck_X4_forget : z_ckT tr_X4_forget 6 (z_chk 4 9 0 cX4_forget) = true := by decide +kernel
set_option maxRecDepth 100000 in
theorem ck_X4_slot : z_ckT tr_X4_slot 10 (z_chk 4 0 0 cX4_slot) = true := by decide +kernel
set_option maxRecDepth 100000 in
theorem ck_X4_group : z_ckT tr_X4_group 10 (z_chk 4 2 0 cX4_group) = true := by decide +kernel
set_option maxRecDepth 100000 in
theorem ck_X4_steps : z_ckT tr_X4_steps 10 (z_chk 4 0 0 cX4_steps) = true := by decide +kernel
set_option maxRecDepth 100000 in
theorem ck_X5_init : z_ckT tr_X5_init 15 (z_chk 5 9 2 cX5_init) = true := by decide +kernel
set_option maxRecDepth 100000 in
theorem ck_X5_begin : z_ckT tr_X5_begin 23 (z_chk 5 9 0 cX5_begin) = true := by decide +kernel
set_option maxRecDepth 100000 in
theorem ck_X5_advance : z_ckT tr_X5_advance 133 (z_chk 5 9 0 cX5_advance) = true := by decide +kernel
set_option maxRecDepth 100000 in
theorem ck_X5_goesOn : z_ckT tr_X5_goesOn 75 (z_chk 5 3 0 cX5_goesOn) = true := by decide +kernel
set_option maxRecDepth 100000 in
theorem ck_X5_isWord : z_ckT tr_X5_isWord 65 (z_chk 5 3 0 cX5_isWord) = true := by decide +kernel
set_option maxRecDepth 100000 in
theorem ck_X5_isSign : z_ckT tr_X5_isSign 27 (z_chk 5 3 0 cX5_isSign) = true := by decide +kernel
set_option maxRecDepth 100000 in
theorem ck_X5_number : z_ckT tr_X5_number 53 (z_chk 5 0 0 cX5_number) = true := by decide +kernel
set_option maxRecDepth 100000 in
theorem ck_X5_row : z_ckT tr_X5_row 93 (z_chk 5 0 0 cX5_row) = true := by decide +kernel
set_option maxRecDepth 100000 in
theorem ck_X6_init : z_ckT tr_X6_init 20 (z_chk 6 9 2 cX6_init) = true := by decide +kernel
set_option maxRecDepth 100000 in
theorem ck_X6_byteAt : z_ckT tr_X6_byteAt 68 (z_chk 6 0 0 cX6_byteAt) = true := by decide +kernel
set_option maxRecDepth 100000 in
theorem ck_X6_byteOfNumbers : z_ckT tr_X6_byteOfNumbers 115 (z_chk 6 0 0 cX6_byteOfNumbers) = true := by decide +kernel
set_option maxRecDepth 100000 in
theorem ck_X7_init : z_ckT tr_X7_init 35 (z_chk 7 9 2 cX7_init) = true := by decide +kernel
set_option maxRecDepth 100000 in
theorem ck_X7_begin : z_ckT tr_X7_begin 75 (z_chk 7 3 0 cX7_begin) = true := by decide +kernel
set_option maxRecDepth 100000 in
theorem ck_X7_fits : z_ckT tr_X7_fits 98 (z_chk 7 3 0 cX7_fits) = true := by decide +kernel
set_option maxRecDepth 100000 in
theorem ck_X7_lead : z_ckT tr_X7_lead 105 (z_chk 7 3 0 cX7_lead) = true := by decide +kernel
set_option maxRecDepth 100000 in
theorem ck_X7_complete : z_ckT tr_X7_complete 96 (z_chk 7 3 0 cX7_complete) = true := by decide +kernel
set_option maxRecDepth 100000 in
theorem ck_X7_pick : z_ckT tr_X7_pick 78 (z_chk 7 0 0 cX7_pick) = true := by decide +kernel
set_option maxRecDepth 100000 in
theorem ck_X7_isMatch : z_ckT tr_X7_isMatch 29 (z_chk 7 3 0 cX7_isMatch) = true := by decide +kernel
set_option maxRecDepth 100000 in
theorem ck_X7_findFirst : z_ckT tr_X7_findFirst 98 (z_chk 7 9 0 cX7_findFirst) = true := by decide +kernel
set_option maxRecDepth 100000 in
theorem ck_X7_countStaying : z_ckT tr_X7_countStaying 48 (z_chk 7 1 0 cX7_countStaying) = true := by decide +kernel
set_option maxRecDepth 100000 in
theorem ck_X7_chain : z_ckT tr_X7_chain 167 (z_chk 7 1 0 cX7_chain) = true := by decide +kernel
set_option maxRecDepth 100000 in
theorem ck_X7_joinOrbits : z_ckT tr_X7_joinOrbits 62 (z_chk 7 9 0 cX7_joinOrbits) = true := by decide +kernel
set_option maxRecDepth 100000 in
theorem ck_X8_init : z_ckT tr_X8_init 45 (z_chk 8 9 2 cX8_init) = true := by decide +kernel
set_option maxRecDepth 100000 in
theorem ck_X8_become : z_ckT tr_X8_become 31 (z_chk 8 9 0 cX8_become) = true := by decide +kernel
set_option maxRecDepth 100000 in
theorem ck_X8_painted : z_ckT tr_X8_painted 43 (z_chk 8 2 0 cX8_painted) = true := by decide +kernel
set_option maxRecDepth 100000 in
theorem ck_X8_measure : z_ckT tr_X8_measure 142 (z_chk 8 9 0 cX8_measure) = true := by decide +kernel
set_option maxRecDepth 100000 in
theorem ck_X8_along : z_ckT tr_X8_along 40 (z_chk 8 0 0 cX8_along) = true := by decide +kernel
set_option maxRecDepth 100000 in
theorem ck_X8_distance : z_ckT tr_X8_distance 27 (z_chk 8 0 0 cX8_distance) = true := by decide +kernel
set_option maxRecDepth 100000 in
theorem ck_X8_deepest : z_ckT tr_X8_deepest 9 (z_chk 8 0 0 cX8_deepest) = true := by decide +kernel
set_option maxRecDepth 100000 in
theorem ck_X8_pointsAt : z_ckT tr_X8_pointsAt 40 (z_chk 8 0 0 cX8_pointsAt) = true := by decide +kernel
set_option maxRecDepth 100000 in
theorem ck_X8_stepOfWay : z_ckT tr_X8_stepOfWay 68 (z_chk 8 0 0 cX8_stepOfWay) = true := by decide +kernel
set_option maxRecDepth 100000 in
theorem ck_X8_firstStepTowards : z_ckT tr_X8_firstStepTowards 66 (z_chk 8 0 0 cX8_firstStepTowards) = true := by decide +kernel
set_option maxRecDepth 100000 in
theorem ck_X8_shortestRing : z_ckT tr_X8_shortestRing 56 (z_chk 8 0 0 cX8_shortestRing) = true := by decide +kernel
set_option maxRecDepth 100000 in
theorem ck_X8_ringThrough : z_ckT tr_X8_ringThrough 87 (z_chk 8 0 0 cX8_ringThrough) = true := by decide +kernel
set_option maxRecDepth 100000 in
theorem ck_X8_arcsAlike : z_ckT tr_X8_arcsAlike 54 (z_chk 8 3 0 cX8_arcsAlike) = true := by decide +kernel
set_option maxRecDepth 100000 in
theorem ck_X8_farAlike : z_ckT tr_X8_farAlike 68 (z_chk 8 3 0 cX8_farAlike) = true := by decide +kernel
set_option maxRecDepth 100000 in
theorem ck_X9_init : z_ckT tr_X9_init 52 (z_chk 9 9 2 cX9_init) = true := by decide +kernel
set_option maxRecDepth 100000 in
theorem ck_X9_leastSet : z_ckT tr_X9_leastSet 162 (z_chk 9 0 0 cX9_leastSet) = true := by decide +kernel
set_option maxRecDepth 100000 in
theorem ck_X9_isWanted : z_ckT tr_X9_isWanted 44 (z_chk 9 3 0 cX9_isWanted) = true := by decide +kernel
set_option maxRecDepth 100000 in
theorem ck_X9_chooseOf : z_ckT tr_X9_chooseOf 51 (z_chk 9 9 0 cX9_chooseOf) = true := by decide +kernel
set_option maxRecDepth 100000 in
theorem ck_X9_chosenSet : z_ckT tr_X9_chosenSet 31 (z_chk 9 0 0 cX9_chosenSet) = true := by decide +kernel
set_option maxRecDepth 100000 in
theorem ck_X9_chooseNext : z_ckT tr_X9_chooseNext 57 (z_chk 9 9 0 cX9_chooseNext) = true := by decide +kernel
set_option maxRecDepth 100000 in
theorem ck_X9_shortWalks : z_ckT tr_X9_shortWalks 154 (z_chk 9 1 0 cX9_shortWalks) = true := by decide +kernel
set_option maxRecDepth 100000 in
theorem ck_X9_longWalks : z_ckT tr_X9_longWalks 220 (z_chk 9 0 0 cX9_longWalks) = true := by decide +kernel
set_option maxRecDepth 100000 in
theorem ck_X10_init : z_ckT tr_X10_init 28 (z_chk 10 9 2 cX10_init) = true := by decide +kernel
set_option maxRecDepth 100000 in
theorem ck_X10_readText : z_ckT tr_X10_readText 83 (z_chk 10 9 0 cX10_readText) = true := by decide +kernel
set_option maxRecDepth 100000 in
theorem ck_X10_fail : z_ckT tr_X10_fail 12 (z_chk 10 3 0 cX10_fail) = true := by decide +kernel
set_option maxRecDepth 100000 in
theorem ck_X10_take : z_ckT tr_X10_take 26 (z_chk 10 3 0 cX10_take) = true := by decide +kernel
set_option maxRecDepth 100000 in
theorem ck_X10_readLine : z_ckT tr_X10_readLine 166 (z_chk 10 3 0 cX10_readLine) = true := by decide +kernel
set_option maxRecDepth 100000 in
theorem ck_X10_readSteps : z_ckT tr_X10_readSteps 154 (z_chk 10 3 0 cX10_readSteps) = true := by decide +kernel
set_option maxRecDepth 100000 in
theorem ck_X10_readFactors : z_ckT tr_X10_readFactors 57 (z_chk 10 3 0 cX10_readFactors) = true := by decide +kernel
set_option maxRecDepth 100000 in
theorem ck_X10_readFactor : z_ckT tr_X10_readFactor 147 (z_chk 10 3 0 cX10_readFactor) = true := by decide +kernel
set_option maxRecDepth 100000 in
theorem ck_X10_factorLetter : z_ckT tr_X10_factorLetter 64 (z_chk 10 0 0 cX10_factorLetter) = true := by decide +kernel
set_option maxRecDepth 100000 in
theorem ck_X10_leastOf : z_ckT tr_X10_leastOf 12 (z_chk 10 0 1 cX10_leastOf) = true := by decide +kernel
set_option maxRecDepth 100000 in
theorem ck_X10_mostOf : z_ckT tr_X10_mostOf 22 (z_chk 10 0 1 cX10_mostOf) = true := by decide +kernel
set_option maxRecDepth 100000 in
theorem ck_X10_readRows : z_ckT tr_X10_readRows 169 (z_chk 10 3 0 cX10_readRows) = true := by decide +kernel
set_option maxRecDepth 100000 in
theorem ck_X11_init : z_ckT tr_X11_init 172 (z_chk 11 9 2 cX11_init) = true := by decide +kernel
set_option maxRecDepth 100000 in
theorem ck_X11_feed : z_ckT tr_X11_feed 48 (z_chk 11 0 0 cX11_feed) = true := by decide +kernel
set_option maxRecDepth 100000 in
theorem ck_X11_putOnTape : z_ckT tr_X11_putOnTape 47 (z_chk 11 9 0 cX11_putOnTape) = true := by decide +kernel
set_option maxRecDepth 100000 in
theorem ck_X11_tell : z_ckT tr_X11_tell 124 (z_chk 11 0 0 cX11_tell) = true := by decide +kernel
set_option maxRecDepth 100000 in
theorem ck_X11_fault : z_ckT tr_X11_fault 23 (z_chk 11 0 0 cX11_fault) = true := by decide +kernel
set_option maxRecDepth 100000 in
theorem ck_X11_step : z_ckT tr_X11_step 58 (z_chk 11 0 0 cX11_step) = true := by decide +kernel
set_option maxRecDepth 100000 in
theorem ck_X11_both : z_ckT tr_X11_both 54 (z_chk 11 0 0 cX11_both) = true := by decide +kernel
set_option maxRecDepth 100000 in
theorem ck_X11_quotient : z_ckT tr_X11_quotient 159 (z_chk 11 0 0 cX11_quotient) = true := by decide +kernel
set_option maxRecDepth 100000 in
theorem ck_X11_undo : z_ckT tr_X11_undo 59 (z_chk 11 0 0 cX11_undo) = true := by decide +kernel
set_option maxRecDepth 100000 in
theorem ck_X11_become : z_ckT tr_X11_become 27 (z_chk 11 9 0 cX11_become) = true := by decide +kernel
set_option maxRecDepth 100000 in
theorem ck_X11_size : z_ckT tr_X11_size 113 (z_chk 11 0 0 cX11_size) = true := by decide +kernel
set_option maxRecDepth 100000 in
theorem ck_X11_product : z_ckT tr_X11_product 36 (z_chk 11 0 0 cX11_product) = true := by decide +kernel
set_option maxRecDepth 100000 in
theorem ck_X11_element : z_ckT tr_X11_element 100 (z_chk 11 0 0 cX11_element) = true := by decide +kernel
set_option maxRecDepth 100000 in
theorem ck_X11_classOf : z_ckT tr_X11_classOf 29 (z_chk 11 0 0 cX11_classOf) = true := by decide +kernel
set_option maxRecDepth 100000 in
theorem ck_X11_generated : z_ckT tr_X11_generated 39 (z_chk 11 0 0 cX11_generated) = true := by decide +kernel
set_option maxRecDepth 100000 in
theorem ck_X11_subgroup : z_ckT tr_X11_subgroup 31 (z_chk 11 0 0 cX11_subgroup) = true := by decide +kernel
set_option maxRecDepth 100000 in
theorem ck_X11_kind : z_ckT tr_X11_kind 55 (z_chk 11 0 0 cX11_kind) = true := by decide +kernel
set_option maxRecDepth 100000 in
theorem ck_X11_maps : z_ckT tr_X11_maps 48 (z_chk 11 0 0 cX11_maps) = true := by decide +kernel
set_option maxRecDepth 100000 in
theorem ck_X11_mapped : z_ckT tr_X11_mapped 60 (z_chk 11 0 0 cX11_mapped) = true := by decide +kernel
set_option maxRecDepth 100000 in
theorem ck_X11_far : z_ckT tr_X11_far 33 (z_chk 11 0 0 cX11_far) = true := by decide +kernel
set_option maxRecDepth 100000 in
theorem ck_X11_sphere : z_ckT tr_X11_sphere 46 (z_chk 11 0 0 cX11_sphere) = true := by decide +kernel
set_option maxRecDepth 100000 in
theorem ck_X11_way : z_ckT tr_X11_way 31 (z_chk 11 0 0 cX11_way) = true := by decide +kernel
set_option maxRecDepth 100000 in
theorem ck_X11_ring : z_ckT tr_X11_ring 22 (z_chk 11 0 0 cX11_ring) = true := by decide +kernel
set_option maxRecDepth 100000 in
theorem ck_X11_parts : z_ckT tr_X11_parts 50 (z_chk 11 0 0 cX11_parts) = true := by decide +kernel
set_option maxRecDepth 100000 in
theorem ck_X11_symmetries : z_ckT tr_X11_symmetries 34 (z_chk 11 1 0 cX11_symmetries) = true := by decide +kernel
set_option maxRecDepth 100000 in
theorem ck_X11_alikeTo : z_ckT tr_X11_alikeTo 25 (z_chk 11 0 0 cX11_alikeTo) = true := by decide +kernel
set_option maxRecDepth 100000 in
theorem ck_X11_regular : z_ckT tr_X11_regular 107 (z_chk 11 0 0 cX11_regular) = true := by decide +kernel
set_option maxRecDepth 100000 in
theorem ck_X11_alike : z_ckT tr_X11_alike 54 (z_chk 11 0 0 cX11_alike) = true := by decide +kernel
set_option maxRecDepth 100000 in
theorem ck_X11_other : z_ckT tr_X11_other 96 (z_chk 11 0 0 cX11_other) = true := by decide +kernel
set_option maxRecDepth 100000 in
theorem ck_X11_solved : z_ckT tr_X11_solved 37 (z_chk 11 2 0 cX11_solved) = true := by decide +kernel
set_option maxRecDepth 100000 in
theorem ck_X11_ownCount : z_ckT tr_X11_ownCount 41 (z_chk 11 0 0 cX11_ownCount) = true := by decide +kernel
set_option maxRecDepth 100000 in
theorem ck_X11_name : z_ckT tr_X11_name 34 (z_chk 11 0 0 cX11_name) = true := by decide +kernel
set_option maxRecDepth 100000 in
theorem ck_X11_count : z_ckT tr_X11_count 26 (z_chk 11 0 0 cX11_count) = true := by decide +kernel
set_option maxRecDepth 100000 in
theorem ck_X11_isSlot : z_ckT tr_X11_isSlot 15 (z_chk 11 3 1 cX11_isSlot) = true := by decide +kernel
set_option maxRecDepth 100000 in
theorem ck_X11_isElement : z_ckT tr_X11_isElement 33 (z_chk 11 3 0 cX11_isElement) = true := by decide +kernel
set_option maxRecDepth 100000 in
theorem ck_X11_firstThen : z_ckT tr_X11_firstThen 49 (z_chk 11 0 1 cX11_firstThen) = true := by decide +kernel
set_option maxRecDepth 100000 in
theorem ck_X11_indexOf : z_ckT tr_X11_indexOf 30 (z_chk 11 0 1 cX11_indexOf) = true := by decide +kernel
set_option maxRecDepth 100000 in
theorem ck_X12_isIn : z_ckT tr_X12_isIn 19 (z_chk 12 3 1 cX12_isIn) = true := by decide +kernel
set_option maxRecDepth 100000 in
theorem ck_X12_init : z_ckT tr_X12_init 199 (z_chk 12 9 2 cX12_init) = true := by decide +kernel
set_option maxRecDepth 100000 in
theorem ck_X12_copies : z_ckT tr_X12_copies 30 (z_chk 12 9 1 cX12_copies) = true := by decide +kernel
set_option maxRecDepth 100000 in
theorem ck_X12_feed : z_ckT tr_X12_feed 123 (z_chk 12 0 0 cX12_feed) = true := by decide +kernel
set_option maxRecDepth 100000 in
theorem ck_X12_peek : z_ckT tr_X12_peek 67 (z_chk 12 0 0 cX12_peek) = true := by decide +kernel
set_option maxRecDepth 100000 in
theorem ck_X12_fails : z_ckT tr_X12_fails 19 (z_chk 12 9 0 cX12_fails) = true := by decide +kernel
set_option maxRecDepth 100000 in
theorem ck_X12_isLetter : z_ckT tr_X12_isLetter 12 (z_chk 12 3 1 cX12_isLetter) = true := by decide +kernel
set_option maxRecDepth 100000 in
theorem ck_X12_isDigit : z_ckT tr_X12_isDigit 12 (z_chk 12 3 1 cX12_isDigit) = true := by decide +kernel
set_option maxRecDepth 100000 in
theorem ck_X12_wordHere : z_ckT tr_X12_wordHere 177 (z_chk 12 0 0 cX12_wordHere) = true := by decide +kernel
set_option maxRecDepth 100000 in
theorem ck_X12_passesWord : z_ckT tr_X12_passesWord 40 (z_chk 12 9 0 cX12_passesWord) = true := by decide +kernel
set_option maxRecDepth 100000 in
theorem ck_X12_must : z_ckT tr_X12_must 35 (z_chk 12 9 0 cX12_must) = true := by decide +kernel
set_option maxRecDepth 100000 in
theorem ck_X12_numeral : z_ckT tr_X12_numeral 150 (z_chk 12 0 0 cX12_numeral) = true := by decide +kernel
set_option maxRecDepth 100000 in
theorem ck_X12_sizeOfFactor : z_ckT tr_X12_sizeOfFactor 54 (z_chk 12 0 0 cX12_sizeOfFactor) = true := by decide +kernel
set_option maxRecDepth 100000 in
theorem ck_X12_laysEven : z_ckT tr_X12_laysEven 129 (z_chk 12 9 0 cX12_laysEven) = true := by decide +kernel
set_option maxRecDepth 100000 in
theorem ck_X12_imageOf : z_ckT tr_X12_imageOf 11 (z_chk 12 0 1 cX12_imageOf) = true := by decide +kernel
set_option maxRecDepth 100000 in
theorem ck_X12_evenProduct : z_ckT tr_X12_evenProduct 65 (z_chk 12 0 0 cX12_evenProduct) = true := by decide +kernel
set_option maxRecDepth 100000 in
theorem ck_X12_factorProduct : z_ckT tr_X12_factorProduct 158 (z_chk 12 0 0 cX12_factorProduct) = true := by decide +kernel
set_option maxRecDepth 100000 in
theorem ck_X12_factorRead : z_ckT tr_X12_factorRead 342 (z_chk 12 9 0 cX12_factorRead) = true := by decide +kernel
set_option maxRecDepth 100000 in
theorem ck_X12_begins : z_ckT tr_X12_begins 45 (z_chk 12 9 0 cX12_begins) = true := by decide +kernel
set_option maxRecDepth 100000 in
theorem ck_X12_base : z_ckT tr_X12_base 32 (z_chk 12 9 0 cX12_base) = true := by decide +kernel
set_option maxRecDepth 100000 in
theorem ck_X12_groupRead : z_ckT tr_X12_groupRead 40 (z_chk 12 9 0 cX12_groupRead) = true := by decide +kernel
set_option maxRecDepth 100000 in
theorem ck_X12_rowRead : z_ckT tr_X12_rowRead 183 (z_chk 12 9 0 cX12_rowRead) = true := by decide +kernel
set_option maxRecDepth 100000 in
theorem ck_X12_findRow : z_ckT tr_X12_findRow 31 (z_chk 12 0 0 cX12_findRow) = true := by decide +kernel
set_option maxRecDepth 100000 in
theorem ck_X12_isRow : z_ckT tr_X12_isRow 41 (z_chk 12 3 0 cX12_isRow) = true := by decide +kernel
set_option maxRecDepth 100000 in
theorem ck_X12_permsRead : z_ckT tr_X12_permsRead 406 (z_chk 12 9 0 cX12_permsRead) = true := by decide +kernel
set_option maxRecDepth 100000 in
theorem ck_X12_stepsRead : z_ckT tr_X12_stepsRead 64 (z_chk 12 9 0 cX12_stepsRead) = true := by decide +kernel
set_option maxRecDepth 100000 in
theorem ck_X12_lineRead : z_ckT tr_X12_lineRead 139 (z_chk 12 9 0 cX12_lineRead) = true := by decide +kernel
set_option maxRecDepth 100000 in
theorem ck_X12_tell : z_ckT tr_X12_tell 155 (z_chk 12 0 0 cX12_tell) = true := by decide +kernel
set_option maxRecDepth 100000 in
theorem ck_X12_fault : z_ckT tr_X12_fault 30 (z_chk 12 0 0 cX12_fault) = true := by decide +kernel
set_option maxRecDepth 100000 in
theorem ck_X12_keeps : z_ckT tr_X12_keeps 105 (z_chk 12 9 0 cX12_keeps) = true := by decide +kernel
set_option maxRecDepth 100000 in
theorem ck_X12_isSlot : z_ckT tr_X12_isSlot 8 (z_chk 12 3 1 cX12_isSlot) = true := by decide +kernel
set_option maxRecDepth 100000 in
theorem ck_X12_many : z_ckT tr_X12_many 13 (z_chk 12 0 0 cX12_many) = true := by decide +kernel
set_option maxRecDepth 100000 in
theorem ck_X12_steps : z_ckT tr_X12_steps 13 (z_chk 12 0 0 cX12_steps) = true := by decide +kernel
set_option maxRecDepth 100000 in
theorem ck_X12_isElement : z_ckT tr_X12_isElement 30 (z_chk 12 3 0 cX12_isElement) = true := by decide +kernel
set_option maxRecDepth 100000 in
theorem ck_X12_isSet : z_ckT tr_X12_isSet 17 (z_chk 12 3 0 cX12_isSet) = true := by decide +kernel
set_option maxRecDepth 100000 in
theorem ck_X12_has : z_ckT tr_X12_has 15 (z_chk 12 3 1 cX12_has) = true := by decide +kernel
set_option maxRecDepth 100000 in
theorem ck_X12_productAt : z_ckT tr_X12_productAt 18 (z_chk 12 0 0 cX12_productAt) = true := by decide +kernel
set_option maxRecDepth 100000 in
theorem ck_X12_times : z_ckT tr_X12_times 12 (z_chk 12 0 0 cX12_times) = true := by decide +kernel
set_option maxRecDepth 100000 in
theorem ck_X12_inverse : z_ckT tr_X12_inverse 20 (z_chk 12 0 0 cX12_inverse) = true := by decide +kernel
set_option maxRecDepth 100000 in
theorem ck_X12_undoing : z_ckT tr_X12_undoing 51 (z_chk 12 0 0 cX12_undoing) = true := by decide +kernel
set_option maxRecDepth 100000 in
theorem ck_X12_step : z_ckT tr_X12_step 62 (z_chk 12 0 0 cX12_step) = true := by decide +kernel
set_option maxRecDepth 100000 in
theorem ck_X12_bits : z_ckT tr_X12_bits 5 (z_chk 12 0 1 cX12_bits) = true := by decide +kernel
set_option maxRecDepth 100000 in
theorem ck_X12_both : z_ckT tr_X12_both 58 (z_chk 12 0 0 cX12_both) = true := by decide +kernel
set_option maxRecDepth 100000 in
theorem ck_X12_products : z_ckT tr_X12_products 85 (z_chk 12 0 0 cX12_products) = true := by decide +kernel
set_option maxRecDepth 100000 in
theorem ck_X12_subgroupOf : z_ckT tr_X12_subgroupOf 31 (z_chk 12 0 0 cX12_subgroupOf) = true := by decide +kernel
set_option maxRecDepth 100000 in
theorem ck_X12_classBits : z_ckT tr_X12_classBits 52 (z_chk 12 0 0 cX12_classBits) = true := by decide +kernel
set_option maxRecDepth 100000 in
theorem ck_X12_kindOf : z_ckT tr_X12_kindOf 62 (z_chk 12 0 0 cX12_kindOf) = true := by decide +kernel
set_option maxRecDepth 100000 in
theorem ck_X12_quotient : z_ckT tr_X12_quotient 395 (z_chk 12 0 0 cX12_quotient) = true := by decide +kernel
set_option maxRecDepth 100000 in
theorem ck_X12_undo : z_ckT tr_X12_undo 65 (z_chk 12 0 0 cX12_undo) = true := by decide +kernel
set_option maxRecDepth 100000 in
theorem ck_X12_periodOf : z_ckT tr_X12_periodOf 28 (z_chk 12 0 0 cX12_periodOf) = true := by decide +kernel
set_option maxRecDepth 100000 in
theorem ck_X12_common : z_ckT tr_X12_common 16 (z_chk 12 0 1 cX12_common) = true := by decide +kernel
set_option maxRecDepth 100000 in
theorem ck_X12_centre : z_ckT tr_X12_centre 42 (z_chk 12 0 0 cX12_centre) = true := by decide +kernel
set_option maxRecDepth 100000 in
theorem ck_X12_classes : z_ckT tr_X12_classes 44 (z_chk 12 0 0 cX12_classes) = true := by decide +kernel
set_option maxRecDepth 100000 in
theorem ck_X12_derived : z_ckT tr_X12_derived 96 (z_chk 12 0 0 cX12_derived) = true := by decide +kernel
set_option maxRecDepth 100000 in
theorem ck_X12_comes : z_ckT tr_X12_comes 92 (z_chk 12 9 0 cX12_comes) = true := by decide +kernel
set_option maxRecDepth 100000 in
theorem ck_X12_laysSubgroups : z_ckT tr_X12_laysSubgroups 98 (z_chk 12 9 0 cX12_laysSubgroups) = true := by decide +kernel
set_option maxRecDepth 100000 in
theorem ck_X12_size : z_ckT tr_X12_size 151 (z_chk 12 0 0 cX12_size) = true := by decide +kernel
set_option maxRecDepth 100000 in
theorem ck_X12_product : z_ckT tr_X12_product 36 (z_chk 12 0 0 cX12_product) = true := by decide +kernel
set_option maxRecDepth 100000 in
theorem ck_X12_element : z_ckT tr_X12_element 97 (z_chk 12 0 0 cX12_element) = true := by decide +kernel
set_option maxRecDepth 100000 in
theorem ck_X12_classOf : z_ckT tr_X12_classOf 26 (z_chk 12 0 0 cX12_classOf) = true := by decide +kernel
set_option maxRecDepth 100000 in
theorem ck_X12_generated : z_ckT tr_X12_generated 36 (z_chk 12 0 0 cX12_generated) = true := by decide +kernel
set_option maxRecDepth 100000 in
theorem ck_X12_subgroup : z_ckT tr_X12_subgroup 46 (z_chk 12 0 0 cX12_subgroup) = true := by decide +kernel
set_option maxRecDepth 100000 in
theorem ck_X12_kind : z_ckT tr_X12_kind 36 (z_chk 12 0 0 cX12_kind) = true := by decide +kernel
set_option maxRecDepth 100000 in
theorem ck_X12_follows : z_ckT tr_X12_follows 309 (z_chk 12 3 0 cX12_follows) = true := by decide +kernel
set_option maxRecDepth 100000 in
theorem ck_X12_goesMaps : z_ckT tr_X12_goesMaps 252 (z_chk 12 9 0 cX12_goesMaps) = true := by decide +kernel
set_option maxRecDepth 100000 in
theorem ck_X12_laysMaps : z_ckT tr_X12_laysMaps 70 (z_chk 12 9 0 cX12_laysMaps) = true := by decide +kernel
set_option maxRecDepth 100000 in
theorem ck_X12_maps : z_ckT tr_X12_maps 27 (z_chk 12 0 0 cX12_maps) = true := by decide +kernel
set_option maxRecDepth 100000 in
theorem ck_X12_mapped : z_ckT tr_X12_mapped 42 (z_chk 12 0 0 cX12_mapped) = true := by decide +kernel
set_option maxRecDepth 100000 in
theorem ck_X12_laysFar : z_ckT tr_X12_laysFar 172 (z_chk 12 9 0 cX12_laysFar) = true := by decide +kernel
set_option maxRecDepth 100000 in
theorem ck_X12_farOf : z_ckT tr_X12_farOf 28 (z_chk 12 0 0 cX12_farOf) = true := by decide +kernel
set_option maxRecDepth 100000 in
theorem ck_X12_far : z_ckT tr_X12_far 46 (z_chk 12 0 0 cX12_far) = true := by decide +kernel
set_option maxRecDepth 100000 in
theorem ck_X12_sphere : z_ckT tr_X12_sphere 115 (z_chk 12 0 0 cX12_sphere) = true := by decide +kernel
set_option maxRecDepth 100000 in
theorem ck_X12_way : z_ckT tr_X12_way 134 (z_chk 12 0 0 cX12_way) = true := by decide +kernel
set_option maxRecDepth 100000 in
theorem ck_X12_back : z_ckT tr_X12_back 169 (z_chk 12 0 0 cX12_back) = true := by decide +kernel
set_option maxRecDepth 100000 in
theorem ck_X12_ring : z_ckT tr_X12_ring 84 (z_chk 12 0 0 cX12_ring) = true := by decide +kernel
set_option maxRecDepth 100000 in
theorem ck_X12_parts : z_ckT tr_X12_parts 37 (z_chk 12 0 0 cX12_parts) = true := by decide +kernel
set_option maxRecDepth 100000 in
theorem ck_X12_laysFars : z_ckT tr_X12_laysFars 75 (z_chk 12 9 0 cX12_laysFars) = true := by decide +kernel
set_option maxRecDepth 100000 in
theorem ck_X12_mayLead : z_ckT tr_X12_mayLead 85 (z_chk 12 3 0 cX12_mayLead) = true := by decide +kernel
set_option maxRecDepth 100000 in
theorem ck_X12_goesOn : z_ckT tr_X12_goesOn 91 (z_chk 12 3 0 cX12_goesOn) = true := by decide +kernel
set_option maxRecDepth 100000 in
theorem ck_X12_canLead : z_ckT tr_X12_canLead 83 (z_chk 12 3 0 cX12_canLead) = true := by decide +kernel
set_option maxRecDepth 100000 in
theorem ck_X12_laysSame : z_ckT tr_X12_laysSame 23 (z_chk 12 9 0 cX12_laysSame) = true := by decide +kernel
set_option maxRecDepth 100000 in
theorem ck_X12_staying : z_ckT tr_X12_staying 82 (z_chk 12 1 0 cX12_staying) = true := by decide +kernel
set_option maxRecDepth 100000 in
theorem ck_X12_symmetries : z_ckT tr_X12_symmetries 31 (z_chk 12 1 0 cX12_symmetries) = true := by decide +kernel
set_option maxRecDepth 100000 in
theorem ck_X12_fitsPin : z_ckT tr_X12_fitsPin 76 (z_chk 12 3 0 cX12_fitsPin) = true := by decide +kernel
set_option maxRecDepth 100000 in
theorem ck_X12_goesPinned : z_ckT tr_X12_goesPinned 141 (z_chk 12 3 0 cX12_goesPinned) = true := by decide +kernel
set_option maxRecDepth 100000 in
theorem ck_X12_alikeBits : z_ckT tr_X12_alikeBits 100 (z_chk 12 0 0 cX12_alikeBits) = true := by decide +kernel
set_option maxRecDepth 100000 in
theorem ck_X12_alikeTo : z_ckT tr_X12_alikeTo 29 (z_chk 12 0 0 cX12_alikeTo) = true := by decide +kernel
set_option maxRecDepth 100000 in
theorem ck_X12_areFarAlike : z_ckT tr_X12_areFarAlike 94 (z_chk 12 3 0 cX12_areFarAlike) = true := by decide +kernel
set_option maxRecDepth 100000 in
theorem ck_X12_areArcsAlike : z_ckT tr_X12_areArcsAlike 42 (z_chk 12 3 0 cX12_areArcsAlike) = true := by decide +kernel
set_option maxRecDepth 100000 in
theorem ck_X12_own : z_ckT tr_X12_own 12 (z_chk 12 0 0 cX12_own) = true := by decide +kernel
set_option maxRecDepth 100000 in
theorem ck_X12_regular : z_ckT tr_X12_regular 106 (z_chk 12 0 0 cX12_regular) = true := by decide +kernel
set_option maxRecDepth 100000 in
theorem ck_X12_leads : z_ckT tr_X12_leads 140 (z_chk 12 3 0 cX12_leads) = true := by decide +kernel
set_option maxRecDepth 100000 in
theorem ck_X12_alike : z_ckT tr_X12_alike 51 (z_chk 12 0 0 cX12_alike) = true := by decide +kernel
set_option maxRecDepth 100000 in
theorem ck_X12_other : z_ckT tr_X12_other 93 (z_chk 12 0 0 cX12_other) = true := by decide +kernel
set_option maxRecDepth 100000 in
theorem ck_X12_digit : z_ckT tr_X12_digit 35 (z_chk 12 0 1 cX12_digit) = true := by decide +kernel
set_option maxRecDepth 100000 in
theorem ck_X12_nameAt : z_ckT tr_X12_nameAt 236 (z_chk 12 0 0 cX12_nameAt) = true := by decide +kernel
set_option maxRecDepth 100000 in
theorem ck_X12_name : z_ckT tr_X12_name 34 (z_chk 12 0 0 cX12_name) = true := by decide +kernel
set_option maxRecDepth 100000 in
theorem ck_X12_count : z_ckT tr_X12_count 30 (z_chk 12 0 0 cX12_count) = true := by decide +kernel
set_option maxRecDepth 100000 in
theorem ck_J6_numberOfTrailingZeros_0f7a4 : z_ckT tr_J6_numberOfTrailingZeros_0f7a4 80 (z_chk 13 0 1 cJ6_numberOfTrailingZeros_0f7a4) = true := by decide +kernel
set_option maxRecDepth 100000 in
theorem ck_J6_bitCount_0f7a4 : z_ckT tr_J6_bitCount_0f7a4 53 (z_chk 13 0 1 cJ6_bitCount_0f7a4) = true := by decide +kernel
set_option maxRecDepth 100000 in
theorem ck_J9_floorMod_7cf53 : z_ckT tr_J9_floorMod_7cf53 20 (z_chk 14 0 1 cJ9_floorMod_7cf53) = true := by decide +kernel
set_option maxRecDepth 100000 in
theorem ck_J9_max_7cf53 : z_ckT tr_J9_max_7cf53 11 (z_chk 14 0 1 cJ9_max_7cf53) = true := by decide +kernel
set_option maxRecDepth 100000 in
theorem ck_J9_min_7cf53 : z_ckT tr_J9_min_7cf53 11 (z_chk 14 0 1 cJ9_min_7cf53) = true := by decide +kernel
set_option maxRecDepth 100000 in
theorem ck_J0_length_8abf5 : z_ckT tr_J0_length_8abf5 11 (z_chk 15 0 0 cJ0_length_8abf5) = true := by decide +kernel
set_option maxRecDepth 100000 in
theorem ck_J0_charAt_5068e : z_ckT tr_J0_charAt_5068e 25 (z_chk 15 4 0 cJ0_charAt_5068e) = true := by decide +kernel
set_option maxRecDepth 100000 in
theorem ck_J0_coder_7d493 : z_ckT tr_J0_coder_7d493 15 (z_chk 15 5 0 cJ0_coder_7d493) = true := by decide +kernel
set_option maxRecDepth 100000 in
theorem ck_J0_isLatin1_aae02 : z_ckT tr_J0_isLatin1_aae02 19 (z_chk 15 3 0 cJ0_isLatin1_aae02) = true := by decide +kernel
set_option maxRecDepth 100000 in
theorem ck_J0_checkIndex_df160 : z_ckT tr_J0_checkIndex_df160 10 (z_chk 15 9 1 cJ0_checkIndex_df160) = true := by decide +kernel
set_option maxRecDepth 100000 in
theorem ck_J1_charAt_3b067 : z_ckT tr_J1_charAt_3b067 15 (z_chk 16 4 1 cJ1_charAt_3b067) = true := by decide +kernel
set_option maxRecDepth 100000 in
theorem ck_J3_checkIndex_8e157 : z_ckT tr_J3_checkIndex_8e157 18 (z_chk 17 0 1 cJ3_checkIndex_8e157) = true := by decide +kernel

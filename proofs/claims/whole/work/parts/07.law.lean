def z_ckR (T : Nat → Option zE) (a n : Nat) (f : Nat → zE → Bool) : Bool := (List.range n).all (fun j => match T (a + j) with
  | none => true
  | some e => f (a + j) e)
set_option maxRecDepth 100000 in
theorem ckl_0 : z_ckR tr_law 0 70 (z_chk 18 3 1 code) = true := by decide +kernel
set_option maxRecDepth 100000 in
theorem ckl_1 : z_ckR tr_law 70 70 (z_chk 18 3 1 code) = true := by decide +kernel
set_option maxRecDepth 100000 in
theorem ckl_2 : z_ckR tr_law 140 70 (z_chk 18 3 1 code) = true := by decide +kernel
set_option maxRecDepth 100000 in
theorem ckl_3 : z_ckR tr_law 210 70 (z_chk 18 3 1 code) = true := by decide +kernel
set_option maxRecDepth 100000 in
theorem ckl_4 : z_ckR tr_law 280 70 (z_chk 18 3 1 code) = true := by decide +kernel
set_option maxRecDepth 100000 in
theorem ckl_5 : z_ckR tr_law 350 70 (z_chk 18 3 1 code) = true := by decide +kernel
set_option maxRecDepth 100000 in
theorem ckl_6 : z_ckR tr_law 420 70 (z_chk 18 3 1 code) = true := by decide +kernel
set_option maxRecDepth 100000 in
theorem ckl_7 : z_ckR tr_law 490 70 (z_chk 18 3 1 code) = true := by decide +kernel
set_option maxRecDepth 100000 in
theorem ckl_8 : z_ckR tr_law 560 70 (z_chk 18 3 1 code) = true := by decide +kernel
set_option maxRecDepth 100000 in
theorem ckl_9 : z_ckR tr_law 630 70 (z_chk 18 3 1 code) = true := by decide +kernel
set_option maxRecDepth 100000 in
theorem ckl_10 : z_ckR tr_law 700 70 (z_chk 18 3 1 code) = true := by decide +kernel
set_option maxRecDepth 100000 in
theorem ckl_11 : z_ckR tr_law 770 70 (z_chk 18 3 1 code) = true := by decide +kernel
set_option maxRecDepth 100000 in
theorem ckl_12 : z_ckR tr_law 840 70 (z_chk 18 3 1 code) = true := by decide +kernel
set_option maxRecDepth 100000 in
theorem ckl_13 : z_ckR tr_law 910 70 (z_chk 18 3 1 code) = true := by decide +kernel
set_option maxRecDepth 100000 in
theorem ckl_14 : z_ckR tr_law 980 70 (z_chk 18 3 1 code) = true := by decide +kernel
theorem z_ckR_use {T : Nat → Option zE} {a n : Nat} {f : Nat → zE → Bool} (h : z_ckR T a n f = true) {pc : Nat} {e : zE} (h1 : a ≤ pc) (h2 : pc < a + n) (he : T pc = some e) : f pc e = true := by
  obtain ⟨j, rfl⟩ := Nat.exists_eq_add_of_le h1
  have h3 := List.all_eq_true.mp h j (List.mem_range.mpr (by omega))
  rw [he] at h3
  exact h3
theorem z_ck_law {pc : Nat} {e : zE} (he : tr_law pc = some e) : z_chk 18 3 1 code pc e = true := by
  have hN : pc < 1043 := by
    cases hb : Nat.blt pc 1043 with
    | true => exact Nat.ble_eq.mp hb
    | false =>
      have h1 : tr_law pc = none := by unfold tr_law; rw [hb]; rfl
      rw [h1] at he
      cases he
  by_cases c0 : pc < 70
  · exact z_ckR_use ckl_0 (by omega) (by omega) he
  by_cases c1 : pc < 140
  · exact z_ckR_use ckl_1 (by omega) (by omega) he
  by_cases c2 : pc < 210
  · exact z_ckR_use ckl_2 (by omega) (by omega) he
  by_cases c3 : pc < 280
  · exact z_ckR_use ckl_3 (by omega) (by omega) he
  by_cases c4 : pc < 350
  · exact z_ckR_use ckl_4 (by omega) (by omega) he
  by_cases c5 : pc < 420
  · exact z_ckR_use ckl_5 (by omega) (by omega) he
  by_cases c6 : pc < 490
  · exact z_ckR_use ckl_6 (by omega) (by omega) he
  by_cases c7 : pc < 560
  · exact z_ckR_use ckl_7 (by omega) (by omega) he
  by_cases c8 : pc < 630
  · exact z_ckR_use ckl_8 (by omega) (by omega) he
  by_cases c9 : pc < 700
  · exact z_ckR_use ckl_9 (by omega) (by omega) he
  by_cases c10 : pc < 770
  · exact z_ckR_use ckl_10 (by omega) (by omega) he
  by_cases c11 : pc < 840
  · exact z_ckR_use ckl_11 (by omega) (by omega) he
  by_cases c12 : pc < 910
  · exact z_ckR_use ckl_12 (by omega) (by omega) he
  by_cases c13 : pc < 980
  · exact z_ckR_use ckl_13 (by omega) (by omega) he
  by_cases c14 : pc < 1050
  · exact z_ckR_use ckl_14 (by omega) (by omega) he
  omega

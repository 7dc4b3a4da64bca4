/-! THE MODEL: the parts of a text -/
/-- a text of few signs -/
def Str (S : zS) (I : zI) (h len : Nat) (f : Nat → Nat) : Prop := z_kd S h = 22 ∧ I h 1 = 0 ∧ z_isB (z_kd S (z_rv S h 0)) = true ∧ z_ln S (z_rv S h 0) = len ∧ (∀ i, i < len → I (z_rv S h 0) i = nI (f i) ∧ f i < 128) ∧ len < 2 ^ 20
def Byt (x : Int32) : Prop := ∃ y : Int8, x = y.toInt32
theorem int8_all {P : Int8 → Prop} (h : ∀ k, k < 256 → P (Int8.ofBitVec (BitVec.ofNat 8 k))) (y : Int8) : P y := by
  have := h y.toBitVec.toNat y.toBitVec.isLt
  rw [BitVec.ofNat_toNat, BitVec.setWidth_eq] at this
  exact this
theorem byt_l0 : ∀ k, k < 256 → ((97 : Int32) ≤ (Int8.ofBitVec (BitVec.ofNat 8 k)).toInt32 &&& 255 ∧ (Int8.ofBitVec (BitVec.ofNat 8 k)).toInt32 &&& 255 ≤ 122) = ((97 : Int32) ≤ (Int8.ofBitVec (BitVec.ofNat 8 k)).toInt32 ∧ (Int8.ofBitVec (BitVec.ofNat 8 k)).toInt32 ≤ 122) := by
  intro k hk
  refine propext ?_
  revert k
  decide +kernel
theorem byt_d0 : ∀ k, k < 256 → (((48 : Int32) ≤ (Int8.ofBitVec (BitVec.ofNat 8 k)).toInt32 &&& 255 ∧ (Int8.ofBitVec (BitVec.ofNat 8 k)).toInt32 &&& 255 ≤ 57) ↔ ((48 : Int32) ≤ (Int8.ofBitVec (BitVec.ofNat 8 k)).toInt32 ∧ (Int8.ofBitVec (BitVec.ofNat 8 k)).toInt32 ≤ 57)) ∧ ((Int8.ofBitVec (BitVec.ofNat 8 k)).toInt32 &&& 255 = 59 ↔ (Int8.ofBitVec (BitVec.ofNat 8 k)).toInt32 = 59) ∧ ((Int8.ofBitVec (BitVec.ofNat 8 k)).toInt32 &&& 255 = 44 ↔ (Int8.ofBitVec (BitVec.ofNat 8 k)).toInt32 = 44) ∧ ¬ (Int8.ofBitVec (BitVec.ofNat 8 k)).toInt32 &&& 255 = -1 := by
  decide +kernel
theorem byt_l {x : Int32} (h : Byt x) : Ltr (x &&& 255) ↔ Ltr x := by
  obtain ⟨y, rfl⟩ := h
  unfold Ltr
  exact Eq.to_iff (int8_all (P := fun y => ((97 : Int32) ≤ y.toInt32 &&& 255 ∧ y.toInt32 &&& 255 ≤ 122) = ((97 : Int32) ≤ y.toInt32 ∧ y.toInt32 ≤ 122)) byt_l0 y)
theorem byt_d {x : Int32} (h : Byt x) : (Dgt (x &&& 255) ↔ Dgt x) ∧ (x &&& 255 = 59 ↔ x = 59) ∧ (x &&& 255 = 44 ↔ x = 44) ∧ ¬ x &&& 255 = -1 := by
  obtain ⟨y, rfl⟩ := h
  unfold Dgt
  exact int8_all (P := fun y => (((48 : Int32) ≤ y.toInt32 &&& 255 ∧ y.toInt32 &&& 255 ≤ 57) ↔ ((48 : Int32) ≤ y.toInt32 ∧ y.toInt32 ≤ 57)) ∧ (y.toInt32 &&& 255 = 59 ↔ y.toInt32 = 59) ∧ (y.toInt32 &&& 255 = 44 ↔ y.toInt32 = 44) ∧ ¬ y.toInt32 &&& 255 = -1) byt_d0 y
theorem chr_v : ∀ k, k < 128 → UInt32.toInt32 (Int32.toUInt32 (nI k &&& (255 : Int32)) % 65536) = nI k := by decide +kernel
section SX
variable {d h len : Nat} {f : Nat → Nat} {S : zS} {I : zI} {J : zJ}
theorem j_length (hd : 1 < d) (hs : Str S I h len f) : z_ev d i_J0_length_8abf5 [.ref h] S I J (some (.int (nI len))) S I J := by
  obtain ⟨d, rfl⟩ := z_dep (d := d) (by omega)
  obtain ⟨d, rfl⟩ := z_dep (d := d) (by omega)
  have hA : z_isA (z_kd S (z_rv S h 0)) = true := by unfold z_isA; rw [hs.2.2.1]; simp
  have hc : z_ev (d + 1) i_J0_coder_7d493 [.ref h] S I J (some (.int 0)) S I J := by
    refine e_J0_coder_7d493 (b_J0_coder_7d493_0 (fun c => by cases c) (fun _ => b_J0_coder_7d493_6 hs.1 (by rw [hs.2.1]; exact ⟨by decide, by decide⟩) ⟨by rw [hs.2.1], rfl, rfl, rfl⟩))
  refine e_J0_length_8abf5 (b_J0_length_8abf5_0 hs.1 hA hs.1 ⟨_, _, _, _, hc, b_J0_length_8abf5_9 ⟨z_someI ?_, rfl, rfl, rfl⟩⟩)
  rw [hs.2.2.2.1]
  have := pk_shrN (n := len) (by have := hs.2.2.2.2.2; omega) 0 0 (by decide)
  rw [show ((0 : Int32) &&& 31) = (0 : Int32) by decide]
  exact Int32.shiftRight_zero
theorem j_charAt {i : Nat} (hd : 3 < d) (hs : Str S I h len f) (hi : i < len) : z_ev d i_J0_charAt_5068e [.ref h, .int (nI i)] S I J (some (.int (nI (f i)))) S I J := by
  obtain ⟨d, rfl⟩ := z_dep (d := d) (by omega)
  obtain ⟨d, rfl⟩ := z_dep (d := d) (by omega)
  obtain ⟨d, rfl⟩ := z_dep (d := d) (by omega)
  obtain ⟨d, rfl⟩ := z_dep (d := d) (by omega)
  have hl := hs.2.2.2.2.2
  obtain ⟨f1, f2⟩ := hs.2.2.2.2.1 i hi
  have hA : z_isA (z_kd S (z_rv S h 0)) = true := by unfold z_isA; rw [hs.2.2.1]; simp
  have h1 : z_ev (d + 1 + 1 + 1) i_J0_isLatin1_aae02 [.ref h] S I J (some (.int 1)) S I J := e_J0_isLatin1_aae02 (b_J0_isLatin1_aae02_0 (fun c => by cases c) (fun _ => b_J0_isLatin1_aae02_6 hs.1 (fun c => absurd hs.2.1 c) (fun _ => b_J0_isLatin1_aae02_13 z_fit1 ⟨rfl, rfl, rfl, rfl⟩)))
  have h3 : ∀ h2, z_ev (d + 1) i_J3_checkIndex_8e157 [.int (nI i), .int (nI len), .ref h2] S I J (some (.int (nI i))) S I J := fun h2 => e_J3_checkIndex_8e157 (b_J3_checkIndex_8e157_0 (fun c => absurd c (nI_pos (by omega))) (fun _ => b_J3_checkIndex_8e157_4 (fun _ => b_J3_checkIndex_8e157_16 ⟨rfl, rfl, rfl, rfl⟩) (fun c => absurd (nI_lt hi (by omega)) c)))
  have h2 : z_ev (d + 1 + 1) i_J0_checkIndex_df160 [.int (nI i), .int (nI len)] S I J none S I J := e_J0_checkIndex_df160 (b_J0_checkIndex_df160_0 ⟨_, _, _, _, h3 _, b_J0_checkIndex_df160_8 ⟨rfl, rfl, rfl, rfl⟩⟩)
  have h4 : z_ev (d + 1 + 1 + 1) i_J1_charAt_3b067 [.ref (z_rv S h 0), .int (nI i)] S I J (some (.int (nI (f i)))) S I J := by
    refine e_J1_charAt_3b067 (b_J1_charAt_3b067_0 hA ?_)
    rw [hs.2.2.2.1]
    refine ⟨_, _, _, _, h2, b_J1_charAt_3b067_6 ⟨hs.2.2.1, by rw [hs.2.2.2.1]; exact vp_in_nI hi (by omega)⟩ ?_ ⟨z_someI ?_, rfl, rfl, rfl⟩⟩
    · rw [nI_clamp (by omega), f1, chr_v _ f2]
      show 0 ≤ (nI (f i)).toInt ∧ (nI (f i)).toInt < 65536
      rw [nI_toInt (by omega)]; omega
    · rw [nI_clamp (by omega), f1, chr_v _ f2]
  refine e_J0_charAt_5068e (b_J0_charAt_5068e_0 hs.1 ⟨_, _, _, _, h1, b_J0_charAt_5068e_4 (fun c => by cases c) (fun _ => b_J0_charAt_5068e_7 hs.1 ⟨_, _, _, _, h4, b_J0_charAt_5068e_15 ?_ ⟨rfl, rfl, rfl, rfl⟩⟩)⟩)
  show 0 ≤ (nI (f i)).toInt ∧ (nI (f i)).toInt < 65536
  rw [nI_toInt (by omega)]; omega
end SX

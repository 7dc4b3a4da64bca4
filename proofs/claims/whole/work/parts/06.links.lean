/-! LINKS: what the tables say of each link, constant, class and method; every entry of the machine held against the code by program -/
def z_tblc (j : Nat) : List Cond := match j with
  | 0 => k2_sels lw_privs
  | 1 => tables_1_1
  | 2 => tables_1_2
  | 3 => tables_1_3
  | 4 => tables_1_4
  | 5 => tables_1_5
  | 6 => tables_1_6
  | 7 => tables_1_7
  | _ => []
def z_at (q : Nat) : Option Cond := (z_tblc (q / 1000))[q % 1000]?
theorem z_at_mem {q : Nat} {w : Cond} (h : z_at q = some w) : w ∈ lw_tbl := by
  have hm : w ∈ z_tblc (q / 1000) := List.mem_of_getElem? h
  generalize q / 1000 = j at hm
  show w ∈ k2_sels lw_privs ++ tables_1
  rw [List.mem_append]
  match j, hm with
  | 0, hm => exact Or.inl hm
  | 1, hm => exact Or.inr (by unfold tables_1; simp only [List.mem_append]; exact Or.inl hm)
  | 2, hm => exact Or.inr (by unfold tables_1; simp only [List.mem_append]; exact Or.inr (Or.inl hm))
  | 3, hm => exact Or.inr (by unfold tables_1; simp only [List.mem_append]; exact Or.inr (Or.inr (Or.inl hm)))
  | 4, hm => exact Or.inr (by unfold tables_1; simp only [List.mem_append]; exact Or.inr (Or.inr (Or.inr (Or.inl hm))))
  | 5, hm => exact Or.inr (by unfold tables_1; simp only [List.mem_append]; exact Or.inr (Or.inr (Or.inr (Or.inr (Or.inl hm)))))
  | 6, hm => exact Or.inr (by unfold tables_1; simp only [List.mem_append]; exact Or.inr (Or.inr (Or.inr (Or.inr (Or.inr (Or.inl hm))))))
  | 7, hm => exact Or.inr (by unfold tables_1; simp only [List.mem_append]; exact Or.inr (Or.inr (Or.inr (Or.inr (Or.inr (Or.inr hm))))))
  | n + 8, hm => simp [z_tblc] at hm
def z_cn (o : Nat) : String := match o with
  | 0 => "StepNets$Colouring"
  | 1 => "StepNets$Group"
  | 2 => "StepNets$GroupBuilder"
  | 3 => "StepNets$GroupMatcher"
  | 4 => "StepNets$History"
  | 5 => "StepNets$Lexer"
  | 6 => "StepNets$Names"
  | 7 => "StepNets$NetMatcher"
  | 8 => "StepNets$Network"
  | 9 => "StepNets$OtherFinder"
  | 10 => "StepNets$TextReader"
  | 11 => "StepNets"
  | 12 => "StepNetsModel"
  | 13 => "java/lang/Integer"
  | 14 => "java/lang/Math"
  | 15 => "java/lang/String"
  | 16 => "java/lang/StringLatin1"
  | 17 => "jdk/internal/util/Preconditions"
  | 18 => "StepNetsLaw"
  | _ => ""
def z_T (ci : Nat) : u_T := match ci with
  | 0 => TX0
  | 1 => TX1
  | 2 => TX2
  | 3 => TX3
  | 4 => TX4
  | 5 => TX5
  | 6 => TX6
  | 7 => TX7
  | 8 => TX8
  | 9 => TX9
  | 10 => TX10
  | 11 => TX11
  | _ => TX12
def z_ty (ci : Nat) : Nat → FieldType := match ci with
  | 0 => tyX0
  | 1 => tyX1
  | 2 => tyX2
  | 3 => tyX3
  | 4 => tyX4
  | 5 => tyX5
  | 6 => tyX6
  | 7 => tyX7
  | 8 => tyX8
  | 9 => tyX9
  | 10 => tyX10
  | 11 => tyX11
  | _ => tyX12
def z_nf (ci : Nat) : Nat := match ci with
  | 0 => 9
  | 1 => 12
  | 2 => 9
  | 3 => 9
  | 4 => 5
  | 5 => 5
  | 6 => 3
  | 7 => 8
  | 8 => 11
  | 9 => 6
  | 10 => 7
  | 11 => 16
  | 12 => 36
  | _ => 0
def z_tc (t : FieldType) : Nat := match t with
  | .int => 0
  | .long => 1
  | .boolean => 3
  | _ => 2
def z_fl : List (Nat × Nat × Nat × Nat × Nat × Nat) := [(2, 9, 3, 0, 2, 1041), (2, 15, 3, 1, 2, 1042), (2, 18, 3, 2, 2, 1043), (2, 31, 3, 3, 0, 1044), (2, 27, 3, 4, 0, 1045), (2, 21, 3, 5, 2, 1046), (2, 34, 3, 6, 0, 1047), (2, 37, 3, 7, 0, 1048), (2, 24, 3, 8, 2, 1049), (5, 9, 6, 0, 2, 1077), (5, 15, 6, 1, 0, 1078), (10, 107, 6, 1, 0, 1079), (5, 31, 6, 2, 0, 1080), (10, 64, 6, 2, 0, 1081), (5, 25, 6, 3, 0, 1082), (10, 142, 6, 3, 0, 1083), (10, 49, 6, 4, 0, 1084), (5, 34, 6, 4, 0, 1085), (10, 27, 11, 0, 0, 1097), (11, 105, 11, 0, 0, 1098), (10, 31, 11, 1, 0, 1099), (11, 108, 11, 1, 0, 1100), (10, 34, 11, 2, 2, 1101), (11, 114, 11, 2, 2, 1102), (10, 38, 11, 3, 0, 1103), (11, 115, 11, 3, 0, 1104), (10, 41, 11, 4, 3, 1105), (10, 23, 11, 5, 2, 1106), (10, 12, 11, 6, 2, 1107), (6, 9, 7, 0, 2, 1131), (6, 15, 7, 1, 2, 1132), (6, 18, 7, 2, 0, 1133), (1, 9, 2, 0, 0, 1171), (0, 40, 2, 0, 0, 1172), (3, 41, 2, 0, 0, 1173), (9, 72, 2, 0, 0, 1174), (8, 58, 2, 0, 0, 1175), (11, 119, 2, 0, 0, 1176), (10, 114, 2, 0, 0, 1177), (7, 94, 2, 0, 0, 1178), (1, 15, 2, 1, 2, 1179), (0, 53, 2, 1, 2, 1180), (1, 29, 2, 2, 2, 1181), (0, 43, 2, 2, 2, 1182), (8, 77, 2, 2, 2, 1183), (11, 203, 2, 2, 2, 1184), (1, 32, 2, 3, 2, 1185), (11, 206, 2, 3, 2, 1186), (1, 35, 2, 4, 2, 1187), (11, 209, 2, 4, 2, 1188), (1, 38, 2, 5, 2, 1189), (3, 50, 2, 5, 2, 1190), (11, 221, 2, 5, 2, 1191), (1, 19, 2, 6, 2, 1192), (1, 23, 2, 7, 2, 1193), (1, 26, 2, 8, 0, 1194), (11, 218, 2, 9, 0, 1195), (1, 80, 2, 10, 2, 1196), (1, 86, 2, 11, 0, 1197), (0, 33, 1, 0, 0, 1236), (7, 32, 1, 0, 0, 1237), (0, 37, 1, 1, 0, 1238), (7, 46, 1, 1, 0, 1239), (0, 9, 1, 2, 2, 2000), (7, 49, 1, 2, 2, 2001), (0, 15, 1, 3, 2, 2002), (11, 291, 1, 3, 2, 2003), (0, 18, 1, 4, 2, 2004), (7, 52, 1, 4, 2, 2005), (0, 21, 1, 5, 2, 2006), (7, 59, 1, 5, 2, 2007), (0, 24, 1, 6, 2, 2008), (7, 65, 1, 6, 2, 2009), (0, 27, 1, 7, 2, 2010), (7, 62, 1, 7, 2, 2011), (0, 30, 1, 8, 2, 2012), (8, 28, 9, 0, 2, 2032), (4, 31, 9, 0, 2, 2033), (9, 60, 9, 0, 2, 2034), (11, 94, 9, 0, 2, 2035), (7, 88, 9, 0, 2, 2036), (9, 35, 9, 1, 0, 2037), (8, 32, 9, 1, 0, 2038), (4, 37, 9, 1, 0, 2039), (11, 98, 9, 1, 0, 2040), (8, 36, 9, 2, 1, 2041), (11, 253, 9, 2, 1, 2042), (8, 40, 9, 3, 0, 2043), (11, 288, 9, 3, 0, 2044), (8, 9, 9, 4, 2, 2045), (11, 257, 9, 4, 2, 2046), (8, 15, 9, 5, 2, 2047), (8, 18, 9, 6, 2, 2048), (8, 67, 9, 7, 0, 2049), (8, 43, 9, 8, 3, 2050), (8, 47, 9, 9, 3, 2051), (8, 24, 9, 10, 2, 2052), (4, 24, 5, 0, 0, 2084), (11, 156, 5, 0, 0, 2085), (4, 28, 5, 1, 0, 2086), (4, 9, 5, 2, 2, 2087), (4, 17, 5, 3, 2, 2088), (4, 21, 5, 4, 2, 2089), (3, 28, 4, 0, 2, 2107), (3, 32, 4, 1, 2, 2108), (3, 35, 4, 2, 2, 2109), (3, 38, 4, 3, 2, 2110), (3, 24, 4, 4, 0, 2111), (3, 9, 4, 5, 2, 2112), (3, 15, 4, 6, 2, 2113), (3, 18, 4, 7, 2, 2114), (3, 21, 4, 8, 2, 2115), (7, 25, 8, 0, 2, 2141), (7, 29, 8, 1, 2, 2142), (7, 21, 8, 2, 0, 2143), (7, 35, 8, 3, 0, 2144), (7, 9, 8, 4, 2, 2145), (7, 15, 8, 5, 2, 2146), (7, 18, 8, 6, 2, 2147), (7, 76, 8, 7, 3, 2148), (9, 9, 10, 0, 2, 2174), (9, 31, 10, 1, 0, 2175), (9, 15, 10, 2, 2, 2176), (9, 18, 10, 3, 2, 2177), (9, 21, 10, 4, 2, 2178), (9, 27, 10, 5, 2, 2179), (11, 9, 12, 0, 2, 2193), (11, 13, 12, 1, 0, 2194), (11, 22, 12, 2, 2, 2195), (11, 26, 12, 3, 0, 2196), (11, 29, 12, 4, 0, 2197), (11, 44, 12, 5, 2, 2198), (11, 54, 12, 6, 2, 2199), (11, 61, 12, 7, 2, 2200), (11, 68, 12, 8, 2, 2201), (11, 75, 12, 9, 2, 2202), (11, 79, 12, 10, 2, 2203), (11, 83, 12, 11, 2, 2204), (11, 277, 12, 12, 0, 2205), (11, 174, 12, 13, 3, 2206), (11, 178, 12, 14, 3, 2207), (11, 181, 12, 15, 3, 2208), (12, 13, 13, 0, 2, 5179), (12, 1, 13, 1, 0, 5180), (12, 17, 13, 2, 2, 5181), (12, 66, 13, 3, 0, 5182), (12, 72, 13, 4, 0, 5183), (12, 69, 13, 5, 0, 5184), (12, 75, 13, 6, 0, 5185), (12, 21, 13, 7, 0, 5186), (12, 116, 13, 8, 0, 5187), (12, 119, 13, 9, 0, 5188), (12, 24, 13, 10, 2, 5189), (12, 122, 13, 11, 0, 5190), (12, 27, 13, 12, 2, 5191), (12, 30, 13, 13, 2, 5192), (12, 160, 13, 14, 0, 5193), (12, 167, 13, 15, 0, 5194), (12, 33, 13, 16, 2, 5195), (12, 181, 13, 17, 3, 5196), (12, 36, 13, 18, 2, 5197), (12, 210, 13, 19, 0, 5198), (12, 39, 13, 20, 2, 5199), (12, 42, 13, 21, 2, 5200), (12, 45, 13, 22, 2, 5201), (12, 266, 13, 23, 0, 5202), (12, 48, 13, 24, 2, 5203), (12, 51, 13, 25, 2, 5204), (12, 290, 13, 26, 0, 5205), (12, 293, 13, 27, 0, 5206), (12, 287, 13, 28, 3, 5207), (12, 54, 13, 29, 2, 5208), (12, 57, 13, 30, 2, 5209), (12, 60, 13, 31, 2, 5210), (12, 63, 13, 32, 2, 5211), (12, 318, 13, 33, 0, 5212), (12, 343, 13, 34, 0, 5213), (12, 346, 13, 35, 0, 5214)]
theorem z_fl_ok : z_fl.all (fun q => match q with | (o, k, t, j, c, p) => decide (z_at p = some (Cond.fieldLink (z_cn o) k (z_T (t - 1) j).1 (z_T (t - 1) j).2.1 (z_T (t - 1) j).2.2.1)) && Nat.blt j (z_nf (t - 1)) && Nat.blt 0 t && Nat.ble t 13 && Nat.beq c (z_tc (z_ty (t - 1) j))) = true := by decide +kernel
def z_fls : List (Nat × Nat × Nat × Nat) := [(15, 9, 0, 7201), (15, 15, 1, 7202)]
theorem z_fls_ok : z_fls.all (fun q => match q with | (o, k, j, p) => match j with | 0 => decide (z_at p = some (Cond.fieldLink (z_cn o) k "java/lang/String" "value" "[B")) | 1 => decide (z_at p = some (Cond.fieldLink (z_cn o) k "java/lang/String" "coder" "B")) | _ => false) = true := by decide +kernel
def z_if0 : List (MethodName × ByteArray × Nat × Option FieldType × Nat × Nat × Nat) := [(yX0_init, cX0_init, 1, none, 0, 0, 2), (yX0_paint, cX0_paint, 5, none, 0, 2, 0), (yX0_refine, cX0_refine, 6, none, 0, 1, 0), (yX0_mix, cX0_mix, 3, (some .int), 0, 2, 1), (yX0_sortOut, cX0_sortOut, 3, none, 0, 0, 0), (yX0_classOfHue, cX0_classOfHue, 3, (some .int), 0, 1, 0), (yX0_spreadOut, cX0_spreadOut, 5, none, 0, 1, 0), (yX1_init, cX1_init, 6, none, 1, 5, 2), (yX1_times, cX1_times, 3, (some .int), 1, 2, 0), (yX1_findInverses, cX1_findInverses, 3, none, 1, 0, 0), (yX1_findPeriods, cX1_findPeriods, 4, none, 1, 0, 0), (yX1_findClasses, cX1_findClasses, 4, none, 1, 0, 0), (yX1_findMarks, cX1_findMarks, 2, none, 1, 0, 0), (yX1_hasMarksOf, cX1_hasMarksOf, 3, (some .boolean), 1, 1, 0), (yX1_countMark, cX1_countMark, 4, (some .int), 1, 1, 0), (yX1_isSet, cX1_isSet, 2, (some .boolean), 1, 1, 0), (yX1_isClosed, cX1_isClosed, 2, (some .boolean), 1, 1, 0), (yX1_isOfWholeClasses, cX1_isOfWholeClasses, 3, (some .boolean), 1, 1, 0), (yX1_withInverses, cX1_withInverses, 4, (some .int), 1, 1, 0), (yX1_onward, cX1_onward, 5, (some .int), 1, 2, 0), (yX1_shifted, cX1_shifted, 5, (some .int), 1, 2, 0), (yX1_span, cX1_span, 5, (some .int), 1, 1, 0), (yX1_centreOrder, cX1_centreOrder, 3, (some .int), 1, 0, 0), (yX1_countClasses, cX1_countClasses, 4, (some .int), 1, 0, 0), (yX1_derived, cX1_derived, 4, (some .int), 1, 0, 0), (yX1_exponent, cX1_exponent, 6, (some .int), 1, 0, 0), (yX1_countSubgroups, cX1_countSubgroups, 1, (some .int), 1, 0, 0), (yX1_subgroupAt, cX1_subgroupAt, 2, (some .int), 1, 1, 0), (yX1_findSubgroups, cX1_findSubgroups, 6, none, 1, 0, 0), (yX1_hasNoneBetween, cX1_hasNoneBetween, 4, (some .boolean), 1, 2, 1)]
def z_if1 : List (MethodName × ByteArray × Nat × Option FieldType × Nat × Nat × Nat) := [(yX1_keepSubgroup, cX1_keepSubgroup, 2, none, 1, 1, 0), (yX1_sortSubgroups, cX1_sortSubgroups, 4, none, 1, 0, 0), (yX1_numberCosets, cX1_numberCosets, 9, (some .int), 1, 3, 0), (yX1_dividedBy, cX1_dividedBy, 8, (some (.object "StepNets$Group")), 1, 3, 0), (yX1_nameByte, cX1_nameByte, 4, (some .int), 1, 2, 0), (yX2_init, cX2_init, 1, none, 2, 0, 2), (yX2_startAnew, cX2_startAnew, 1, none, 2, 0, 0), (yX2_addFactor, cX2_addFactor, 4, (some .boolean), 2, 2, 0), (yX2_sizeOf, cX2_sizeOf, 2, (some .int), 2, 2, 1), (yX2_addRow, cX2_addRow, 3, (some .boolean), 2, 2, 0), (yX2_findElements, cX2_findElements, 4, (some .boolean), 2, 0, 0), (yX2_build, cX2_build, 5, (some (.object "StepNets$Group")), 2, 0, 0), (yX2_names, cX2_names, 2, (some (.object "StepNets$Names")), 2, 0, 0), (yX2_rowProduct, cX2_rowProduct, 4, (some .int), 2, 2, 0), (yX2_factorsProduct, cX2_factorsProduct, 9, (some .int), 2, 2, 0), (yX2_factorProduct, cX2_factorProduct, 6, (some .int), 2, 3, 0), (yX2_turned, cX2_turned, 11, (some .int), 2, 4, 1), (yX3_init, cX3_init, 1, none, 3, 0, 2), (yX3_begin, cX3_begin, 7, none, 3, 4, 0), (yX3_fits, cX3_fits, 3, (some .boolean), 3, 2, 0), (yX3_spread, cX3_spread, 10, (some .boolean), 3, 1, 0), (yX3_tryImage, cX3_tryImage, 3, (some .boolean), 3, 2, 0), (yX3_complete, cX3_complete, 3, (some .boolean), 3, 1, 0), (yX3_findFirst, cX3_findFirst, 6, none, 3, 3, 0), (yX3_countOwn, cX3_countOwn, 7, (some .int), 3, 2, 0), (yX4_init, cX4_init, 1, none, 4, 0, 2), (yX4_keep, cX4_keep, 3, none, 4, 2, 0), (yX4_stepBack, cX4_stepBack, 1, none, 4, 0, 0), (yX4_forget, cX4_forget, 1, none, 4, 0, 0), (yX4_slot, cX4_slot, 1, (some .int), 4, 0, 0)]
def z_if2 : List (MethodName × ByteArray × Nat × Option FieldType × Nat × Nat × Nat) := [(yX4_group, cX4_group, 1, (some (.object "StepNets$Group")), 4, 0, 0), (yX4_steps, cX4_steps, 1, (some .int), 4, 0, 0), (yX5_init, cX5_init, 2, none, 5, 1, 2), (yX5_begin, cX5_begin, 2, none, 5, 1, 0), (yX5_advance, cX5_advance, 1, none, 5, 0, 0), (yX5_goesOn, cX5_goesOn, 3, (some .boolean), 5, 2, 0), (yX5_isWord, cX5_isWord, 3, (some .boolean), 5, 1, 0), (yX5_isSign, cX5_isSign, 2, (some .boolean), 5, 1, 0), (yX5_number, cX5_number, 3, (some .int), 5, 0, 0), (yX5_row, cX5_row, 6, (some .int), 5, 0, 0), (yX6_init, cX6_init, 4, none, 6, 3, 2), (yX6_byteAt, cX6_byteAt, 3, (some .int), 6, 2, 0), (yX6_byteOfNumbers, cX6_byteOfNumbers, 8, (some .int), 6, 2, 0), (yX7_init, cX7_init, 1, none, 7, 0, 2), (yX7_begin, cX7_begin, 4, (some .boolean), 7, 2, 0), (yX7_fits, cX7_fits, 6, (some .boolean), 7, 2, 0), (yX7_lead, cX7_lead, 8, (some .boolean), 7, 3, 0), (yX7_complete, cX7_complete, 6, (some .boolean), 7, 2, 0), (yX7_pick, cX7_pick, 7, (some .int), 7, 2, 0), (yX7_isMatch, cX7_isMatch, 3, (some .boolean), 7, 2, 0), (yX7_findFirst, cX7_findFirst, 6, none, 7, 3, 0), (yX7_countStaying, cX7_countStaying, 4, (some .long), 7, 2, 0), (yX7_chain, cX7_chain, 10, (some .long), 7, 3, 0), (yX7_joinOrbits, cX7_joinOrbits, 5, none, 7, 1, 0), (yX8_init, cX8_init, 2, none, 8, 1, 2), (yX8_become, cX8_become, 3, none, 8, 2, 0), (yX8_painted, cX8_painted, 1, (some (.object "StepNets$Colouring")), 8, 0, 0), (yX8_measure, cX8_measure, 5, none, 8, 0, 0), (yX8_along, cX8_along, 4, (some .int), 8, 1, 0), (yX8_distance, cX8_distance, 3, (some .int), 8, 2, 0)]
def z_if3 : List (MethodName × ByteArray × Nat × Option FieldType × Nat × Nat × Nat) := [(yX8_deepest, cX8_deepest, 1, (some .int), 8, 0, 0), (yX8_pointsAt, cX8_pointsAt, 4, (some .int), 8, 1, 0), (yX8_stepOfWay, cX8_stepOfWay, 7, (some .int), 8, 2, 0), (yX8_firstStepTowards, cX8_firstStepTowards, 5, (some .int), 8, 2, 0), (yX8_shortestRing, cX8_shortestRing, 4, (some .int), 8, 0, 0), (yX8_ringThrough, cX8_ringThrough, 6, (some .int), 8, 2, 0), (yX8_arcsAlike, cX8_arcsAlike, 2, (some .boolean), 8, 0, 0), (yX8_farAlike, cX8_farAlike, 3, (some .boolean), 8, 0, 0), (yX9_init, cX9_init, 1, none, 9, 0, 2), (yX9_leastSet, cX9_leastSet, 9, (some .int), 9, 3, 0), (yX9_isWanted, cX9_isWanted, 4, (some .boolean), 9, 3, 0), (yX9_chooseOf, cX9_chooseOf, 4, none, 9, 1, 0), (yX9_chosenSet, cX9_chosenSet, 3, (some .int), 9, 0, 0), (yX9_chooseNext, cX9_chooseNext, 2, none, 9, 0, 0), (yX9_shortWalks, cX9_shortWalks, 7, (some .long), 9, 1, 0), (yX9_longWalks, cX9_longWalks, 5, (some .int), 9, 1, 0), (yX10_init, cX10_init, 2, none, 10, 1, 2), (yX10_readText, cX10_readText, 5, none, 10, 3, 0), (yX10_fail, cX10_fail, 3, (some .boolean), 10, 2, 0), (yX10_take, cX10_take, 2, (some .boolean), 10, 1, 0), (yX10_readLine, cX10_readLine, 4, (some .boolean), 10, 0, 0), (yX10_readSteps, cX10_readSteps, 6, (some .boolean), 10, 0, 0), (yX10_readFactors, cX10_readFactors, 3, (some .boolean), 10, 0, 0), (yX10_readFactor, cX10_readFactor, 5, (some .boolean), 10, 0, 0), (yX10_factorLetter, cX10_factorLetter, 1, (some .int), 10, 0, 0), (yX10_leastOf, cX10_leastOf, 1, (some .int), 10, 1, 1), (yX10_mostOf, cX10_mostOf, 1, (some .int), 10, 1, 1), (yX10_readRows, cX10_readRows, 7, (some .boolean), 10, 1, 0), (yX11_init, cX11_init, 2, none, 11, 0, 2), (yX11_feed, cX11_feed, 6, (some .int), 11, 5, 0)]
def z_if4 : List (MethodName × ByteArray × Nat × Option FieldType × Nat × Nat × Nat) := [(yX11_putOnTape, cX11_putOnTape, 3, none, 11, 1, 0), (yX11_tell, cX11_tell, 4, (some .int), 11, 2, 0), (yX11_fault, cX11_fault, 2, (some .int), 11, 1, 0), (yX11_step, cX11_step, 4, (some .int), 11, 2, 0), (yX11_both, cX11_both, 3, (some .int), 11, 1, 0), (yX11_quotient, cX11_quotient, 10, (some .int), 11, 2, 0), (yX11_undo, cX11_undo, 2, (some .int), 11, 0, 0), (yX11_become, cX11_become, 4, none, 11, 3, 0), (yX11_size, cX11_size, 4, (some .int), 11, 2, 0), (yX11_product, cX11_product, 4, (some .int), 11, 3, 0), (yX11_element, cX11_element, 5, (some .int), 11, 3, 0), (yX11_classOf, cX11_classOf, 3, (some .int), 11, 2, 0), (yX11_generated, cX11_generated, 4, (some .int), 11, 2, 0), (yX11_subgroup, cX11_subgroup, 3, (some .int), 11, 2, 0), (yX11_kind, cX11_kind, 4, (some .int), 11, 2, 0), (yX11_maps, cX11_maps, 3, (some .int), 11, 1, 0), (yX11_mapped, cX11_mapped, 2, (some .int), 11, 1, 0), (yX11_far, cX11_far, 4, (some .int), 11, 3, 0), (yX11_sphere, cX11_sphere, 3, (some .int), 11, 2, 0), (yX11_way, cX11_way, 4, (some .int), 11, 3, 0), (yX11_ring, cX11_ring, 2, (some .int), 11, 1, 0), (yX11_parts, cX11_parts, 4, (some .int), 11, 1, 0), (yX11_symmetries, cX11_symmetries, 2, (some .long), 11, 1, 0), (yX11_alikeTo, cX11_alikeTo, 3, (some .int), 11, 2, 0), (yX11_regular, cX11_regular, 3, (some .int), 11, 2, 0), (yX11_alike, cX11_alike, 2, (some .int), 11, 1, 0), (yX11_other, cX11_other, 1, (some .int), 11, 0, 0), (yX11_solved, cX11_solved, 3, (some (.object "StepNets$Network")), 11, 1, 0), (yX11_ownCount, cX11_ownCount, 3, (some .int), 11, 1, 0), (yX11_name, cX11_name, 4, (some .int), 11, 3, 0)]
def z_if5 : List (MethodName × ByteArray × Nat × Option FieldType × Nat × Nat × Nat) := [(yX11_count, cX11_count, 2, (some .int), 11, 1, 0), (yX11_isSlot, cX11_isSlot, 1, (some .boolean), 11, 1, 1), (yX11_isElement, cX11_isElement, 3, (some .boolean), 11, 2, 0), (yX11_firstThen, cX11_firstThen, 6, (some .int), 11, 3, 1), (yX11_indexOf, cX11_indexOf, 4, (some .int), 11, 3, 1), (yX12_isIn, cX12_isIn, 6, (some .boolean), 12, 3, 1), (yX12_init, cX12_init, 2, none, 12, 0, 2), (yX12_copies, cX12_copies, 5, none, 12, 4, 1), (yX12_feed, cX12_feed, 8, (some .int), 12, 5, 0), (yX12_peek, cX12_peek, 1, (some .int), 12, 0, 0), (yX12_fails, cX12_fails, 3, none, 12, 2, 0), (yX12_isLetter, cX12_isLetter, 1, (some .boolean), 12, 1, 1), (yX12_isDigit, cX12_isDigit, 1, (some .boolean), 12, 1, 1), (yX12_wordHere, cX12_wordHere, 7, (some .int), 12, 0, 0), (yX12_passesWord, cX12_passesWord, 1, none, 12, 0, 0), (yX12_must, cX12_must, 2, none, 12, 1, 0), (yX12_numeral, cX12_numeral, 5, (some .int), 12, 2, 0), (yX12_sizeOfFactor, cX12_sizeOfFactor, 1, (some .int), 12, 0, 0), (yX12_laysEven, cX12_laysEven, 6, none, 12, 0, 0), (yX12_imageOf, cX12_imageOf, 2, (some .int), 12, 2, 1), (yX12_evenProduct, cX12_evenProduct, 5, (some .int), 12, 2, 0), (yX12_factorProduct, cX12_factorProduct, 9, (some .int), 12, 2, 0), (yX12_factorRead, cX12_factorRead, 7, none, 12, 0, 0), (yX12_begins, cX12_begins, 3, none, 12, 1, 0), (yX12_base, cX12_base, 2, none, 12, 0, 0), (yX12_groupRead, cX12_groupRead, 1, none, 12, 0, 0), (yX12_rowRead, cX12_rowRead, 5, none, 12, 0, 0), (yX12_findRow, cX12_findRow, 3, (some .int), 12, 1, 0), (yX12_isRow, cX12_isRow, 4, (some .boolean), 12, 2, 0), (yX12_permsRead, cX12_permsRead, 5, none, 12, 1, 0)]
def z_if6 : List (MethodName × ByteArray × Nat × Option FieldType × Nat × Nat × Nat) := [(yX12_stepsRead, cX12_stepsRead, 2, none, 12, 0, 0), (yX12_lineRead, cX12_lineRead, 3, none, 12, 0, 0), (yX12_tell, cX12_tell, 3, (some .int), 12, 2, 0), (yX12_fault, cX12_fault, 2, (some .int), 12, 1, 0), (yX12_keeps, cX12_keeps, 3, none, 12, 1, 0), (yX12_isSlot, cX12_isSlot, 1, (some .boolean), 12, 1, 1), (yX12_many, cX12_many, 2, (some .int), 12, 1, 0), (yX12_steps, cX12_steps, 2, (some .int), 12, 1, 0), (yX12_isElement, cX12_isElement, 3, (some .boolean), 12, 2, 0), (yX12_isSet, cX12_isSet, 3, (some .boolean), 12, 2, 0), (yX12_has, cX12_has, 2, (some .boolean), 12, 2, 1), (yX12_productAt, cX12_productAt, 4, (some .int), 12, 3, 0), (yX12_times, cX12_times, 4, (some .int), 12, 3, 0), (yX12_inverse, cX12_inverse, 4, (some .int), 12, 2, 0), (yX12_undoing, cX12_undoing, 5, (some .int), 12, 2, 0), (yX12_step, cX12_step, 3, (some .int), 12, 2, 0), (yX12_bits, cX12_bits, 1, (some .int), 12, 1, 1), (yX12_both, cX12_both, 2, (some .int), 12, 1, 0), (yX12_products, cX12_products, 7, (some .int), 12, 3, 0), (yX12_subgroupOf, cX12_subgroupOf, 5, (some .int), 12, 2, 0), (yX12_classBits, cX12_classBits, 5, (some .int), 12, 2, 0), (yX12_kindOf, cX12_kindOf, 4, (some .int), 12, 2, 0), (yX12_quotient, cX12_quotient, 7, (some .int), 12, 2, 0), (yX12_undo, cX12_undo, 2, (some .int), 12, 0, 0), (yX12_periodOf, cX12_periodOf, 5, (some .int), 12, 2, 0), (yX12_common, cX12_common, 2, (some .int), 12, 2, 1), (yX12_centre, cX12_centre, 4, (some .int), 12, 1, 0), (yX12_classes, cX12_classes, 4, (some .int), 12, 1, 0), (yX12_derived, cX12_derived, 6, (some .int), 12, 1, 0), (yX12_comes, cX12_comes, 4, none, 12, 1, 0)]
def z_if7 : List (MethodName × ByteArray × Nat × Option FieldType × Nat × Nat × Nat) := [(yX12_laysSubgroups, cX12_laysSubgroups, 6, none, 12, 1, 0), (yX12_size, cX12_size, 5, (some .int), 12, 2, 0), (yX12_product, cX12_product, 4, (some .int), 12, 3, 0), (yX12_element, cX12_element, 4, (some .int), 12, 3, 0), (yX12_classOf, cX12_classOf, 3, (some .int), 12, 2, 0), (yX12_generated, cX12_generated, 3, (some .int), 12, 2, 0), (yX12_subgroup, cX12_subgroup, 3, (some .int), 12, 2, 0), (yX12_kind, cX12_kind, 3, (some .int), 12, 2, 0), (yX12_follows, cX12_follows, 13, (some .boolean), 12, 5, 0), (yX12_goesMaps, cX12_goesMaps, 8, none, 12, 3, 0), (yX12_laysMaps, cX12_laysMaps, 5, none, 12, 3, 0), (yX12_maps, cX12_maps, 2, (some .int), 12, 1, 0), (yX12_mapped, cX12_mapped, 2, (some .int), 12, 1, 0), (yX12_laysFar, cX12_laysFar, 8, none, 12, 3, 0), (yX12_farOf, cX12_farOf, 5, (some .int), 12, 4, 0), (yX12_far, cX12_far, 4, (some .int), 12, 3, 0), (yX12_sphere, cX12_sphere, 6, (some .int), 12, 2, 0), (yX12_way, cX12_way, 8, (some .int), 12, 3, 0), (yX12_back, cX12_back, 7, (some .int), 12, 2, 0), (yX12_ring, cX12_ring, 5, (some .int), 12, 1, 0), (yX12_parts, cX12_parts, 2, (some .int), 12, 1, 0), (yX12_laysFars, cX12_laysFars, 6, none, 12, 3, 0), (yX12_mayLead, cX12_mayLead, 4, (some .boolean), 12, 2, 0), (yX12_goesOn, cX12_goesOn, 4, (some .boolean), 12, 2, 0), (yX12_canLead, cX12_canLead, 5, (some .boolean), 12, 3, 0), (yX12_laysSame, cX12_laysSame, 2, none, 12, 1, 0), (yX12_staying, cX12_staying, 7, (some .long), 12, 1, 0), (yX12_symmetries, cX12_symmetries, 2, (some .long), 12, 1, 0), (yX12_fitsPin, cX12_fitsPin, 3, (some .boolean), 12, 2, 0), (yX12_goesPinned, cX12_goesPinned, 4, (some .boolean), 12, 2, 0)]
def z_if8 : List (MethodName × ByteArray × Nat × Option FieldType × Nat × Nat × Nat) := [(yX12_alikeBits, cX12_alikeBits, 5, (some .int), 12, 2, 0), (yX12_alikeTo, cX12_alikeTo, 3, (some .int), 12, 2, 0), (yX12_areFarAlike, cX12_areFarAlike, 5, (some .boolean), 12, 1, 0), (yX12_areArcsAlike, cX12_areArcsAlike, 2, (some .boolean), 12, 1, 0), (yX12_own, cX12_own, 2, (some .int), 12, 1, 0), (yX12_regular, cX12_regular, 3, (some .int), 12, 2, 0), (yX12_leads, cX12_leads, 5, (some .boolean), 12, 1, 0), (yX12_alike, cX12_alike, 2, (some .int), 12, 1, 0), (yX12_other, cX12_other, 2, (some .int), 12, 0, 0), (yX12_digit, cX12_digit, 2, (some .int), 12, 2, 1), (yX12_nameAt, cX12_nameAt, 10, (some .int), 12, 3, 0), (yX12_name, cX12_name, 4, (some .int), 12, 3, 0), (yX12_count, cX12_count, 2, (some .int), 12, 1, 0), (yJ6_numberOfTrailingZeros_0f7a4, cJ6_numberOfTrailingZeros_0f7a4, 2, (some .int), 13, 1, 1), (yJ6_bitCount_0f7a4, cJ6_bitCount_0f7a4, 1, (some .int), 13, 1, 1), (yJ9_floorMod_7cf53, cJ9_floorMod_7cf53, 3, (some .int), 14, 2, 1), (yJ9_max_7cf53, cJ9_max_7cf53, 2, (some .int), 14, 2, 1), (yJ9_min_7cf53, cJ9_min_7cf53, 2, (some .int), 14, 2, 1), (yJ0_length_8abf5, cJ0_length_8abf5, 1, (some .int), 15, 0, 0), (yJ0_charAt_5068e, cJ0_charAt_5068e, 2, (some .char), 15, 1, 0), (yJ0_coder_7d493, cJ0_coder_7d493, 1, (some .byte), 15, 0, 0), (yJ0_isLatin1_aae02, cJ0_isLatin1_aae02, 1, (some .boolean), 15, 0, 0), (yJ0_checkIndex_df160, cJ0_checkIndex_df160, 2, none, 15, 2, 1), (yJ1_charAt_3b067, cJ1_charAt_3b067, 2, (some .char), 16, 2, 1), (yJ3_checkIndex_8e157, cJ3_checkIndex_8e157, 3, (some .int), 17, 3, 1)]
def z_ifc (j : Nat) : List (MethodName × ByteArray × Nat × Option FieldType × Nat × Nat × Nat) := match j with
  | 0 => z_if0
  | 1 => z_if1
  | 2 => z_if2
  | 3 => z_if3
  | 4 => z_if4
  | 5 => z_if5
  | 6 => z_if6
  | 7 => z_if7
  | 8 => z_if8
  | _ => []
def z_inf (y : Nat) : Option (MethodName × ByteArray × Nat × Option FieldType × Nat × Nat × Nat) := z_nth (z_ifc (y / 30)) (y % 30)
def z_yn (y : Nat) : MethodName := match z_inf y with | some q => q.1 | none => ⟨"", "", ""⟩
def z_mll : List (Nat × Nat × Nat × Nat) := [(18, 9, 118, 1023), (11, 19, 106, 1031), (10, 11, 35, 1037), (10, 20, 62, 1073), (11, 36, 70, 1127), (11, 39, 7, 1141), (1, 41, 9, 1145), (1, 44, 10, 1149), (1, 53, 8, 1153), (1, 47, 11, 1157), (1, 50, 12, 1161), (1, 57, 254, 1165), (11, 48, 84, 1226), (8, 23, 0, 1232), (11, 53, 55, 2078), (11, 60, 47, 2103), (11, 67, 73, 2137), (11, 74, 98, 2168), (9, 26, 0, 2173), (18, 13, 119, 3002), (11, 86, 120, 3006), (18, 18, 121, 3010), (11, 90, 151, 3014), (11, 101, 107, 3017), (10, 45, 63, 3021), (5, 19, 257, 3025), (5, 28, 64, 3028), (5, 37, 65, 3032), (10, 52, 110, 3036), (10, 75, 66, 3041), (5, 41, 258, 3045), (15, 335, 260, 3049), (5, 46, 259, 3055), (15, 492, 261, 3059), (15, 495, 263, 3063), (16, 9, 262, 3066), (15, 1059, 264, 3071), (10, 79, 111, 3093), (10, 71, 64, 3097), (10, 110, 68, 3098), (10, 60, 109, 3102), (10, 67, 108, 3106), (10, 84, 18, 3111), (10, 93, 36, 3117), (10, 96, 112, 3121), (10, 117, 113, 3125), (10, 122, 114, 3129), (10, 125, 115, 3137), (10, 128, 116, 3140), (10, 131, 37, 3143), (2, 40, 38, 3147), (10, 99, 117, 3153), (10, 145, 69, 3157), (10, 148, 39, 3161), (10, 56, 67, 3165), (10, 151, 40, 3169), (10, 103, 41, 3179), (2, 55, 43, 3183), (2, 81, 256, 3187), (2, 58, 44, 3190), (2, 86, 45, 3194), (2, 89, 46, 3198), (2, 93, 255, 3201), (2, 63, 42, 3205), (2, 78, 70, 3213), (2, 67, 7, 3214), (11, 111, 58, 3215), (11, 116, 127, 3219), (11, 171, 85, 3223), (18, 23, 122, 3227), (18, 28, 123, 3231), (11, 122, 152, 3235), (11, 126, 56, 3239), (4, 40, 257, 4003), (18, 32, 124, 4004), (11, 130, 18, 4008), (11, 134, 254, 4009), (18, 36, 125, 4010), (11, 139, 15, 4014), (11, 142, 16, 4018), (1, 66, 21, 4022), (1, 72, 19, 4026), (1, 69, 20, 4030), (11, 145, 17, 4034), (11, 148, 32, 4038), (11, 152, 33, 4042), (1, 108, 7, 4047), (18, 40, 126, 4048), (11, 159, 57, 4052), (4, 46, 256, 4056), (11, 162, 60, 4057), (11, 165, 59, 4061), (11, 169, 61, 4065), (18, 45, 128, 4069), (11, 184, 22, 4073), (11, 187, 23, 4077), (11, 190, 26, 4081), (1, 83, 28, 4085), (1, 93, 30, 4089), (1, 97, 29, 4094), (1, 75, 256, 4097), (1, 101, 31, 4098), (11, 193, 24, 4102), (11, 196, 25, 4106), (18, 49, 129, 4110), (11, 199, 8, 4114), (18, 54, 130, 4115), (18, 58, 131, 4119), (18, 62, 132, 4123), (11, 212, 21, 4127), (18, 66, 133, 4128), (11, 215, 27, 4132), (1, 89, 26, 4136), (18, 70, 134, 4137), (18, 74, 135, 4141), (11, 224, 54, 4145), (3, 75, 48, 4149), (3, 46, 21, 4153), (3, 65, 51, 4154), (3, 57, 49, 4158), (3, 61, 50, 4162), (3, 53, 8, 4166), (3, 68, 52, 4167), (18, 78, 136, 4171), (11, 228, 53, 4175), (3, 71, 13, 4179), (1, 63, 14, 4183), (18, 82, 137, 4187), (11, 232, 89, 4191), (8, 74, 87, 4195), (8, 63, 20, 4199), (8, 70, 88, 4200), (8, 80, 8, 4204), (18, 86, 138, 4205), (11, 235, 90, 4209), (11, 238, 91, 4213), (18, 90, 139, 4217), (11, 241, 92, 4221), (8, 83, 89, 4225), (8, 86, 93, 4226), (18, 94, 140, 4230), (11, 244, 94, 4234), (8, 89, 95, 4238), (18, 98, 141, 5002), (18, 102, 142, 5006), (11, 249, 147, 5011), (11, 280, 86, 5015), (8, 50, 1, 5019), (0, 46, 4, 5023), (0, 62, 5, 5027), (0, 49, 2, 5031), (0, 56, 3, 5035), (8, 54, 6, 5040), (0, 66, 8, 5044), (11, 284, 81, 5045), (7, 85, 74, 5049), (7, 38, 75, 5053), (7, 55, 5, 5057), (7, 42, 76, 5058), (7, 101, 82, 5062), (7, 68, 78, 5066), (7, 80, 254, 5070), (7, 72, 77, 5071), (7, 105, 83, 5075), (18, 107, 143, 5079), (18, 111, 144, 5083), (11, 260, 96, 5087), (11, 264, 97, 5091), (11, 267, 148, 5095), (18, 115, 145, 5099), (11, 270, 80, 5103), (7, 97, 86, 5107), (18, 119, 146, 5108), (11, 273, 99, 5112), (9, 40, 254, 5116), (9, 46, 257, 5117), (9, 52, 86, 5118), (9, 56, 101, 5119), (9, 64, 104, 5123), (9, 81, 102, 5127), (9, 105, 8, 5131), (9, 68, 105, 5132), (9, 108, 3, 5136), (9, 77, 100, 5137), (9, 88, 1, 5141), (9, 92, 75, 5142), (9, 98, 6, 5143), (9, 102, 79, 5144), (9, 85, 103, 5148), (18, 123, 149, 5152), (11, 296, 34, 5156), (1, 111, 71, 5160), (6, 22, 72, 5164), (6, 26, 256, 5168), (18, 127, 150, 5169), (18, 12, 156, 5175), (18, 17, 158, 6048), (18, 22, 182, 6052), (12, 200, 185, 6056), (12, 82, 155, 6059), (12, 203, 157, 6062), (12, 90, 159, 6065), (12, 207, 181, 6069), (12, 132, 163, 6073), (12, 94, 161, 6077), (12, 100, 258, 6083), (12, 105, 259, 6084), (12, 109, 160, 6085), (12, 135, 164, 6089), (12, 185, 175, 6093), (12, 150, 173, 6097), (12, 154, 172, 6101), (12, 138, 166, 6105), (12, 113, 162, 6109), (12, 141, 167, 6114), (12, 144, 168, 6118), (12, 125, 169, 6122), (12, 147, 171, 6125), (12, 129, 170, 6129), (12, 157, 174, 6133), (12, 188, 179, 6137), (12, 174, 176, 6141), (12, 177, 177, 6147), (12, 170, 178, 6151), (12, 191, 180, 6155), (12, 194, 194, 6159), (12, 221, 190, 6163), (12, 225, 193, 6166), (12, 217, 191, 6170), (12, 197, 165, 6174), (18, 27, 183, 6178), (18, 31, 195, 6182), (12, 228, 188, 6186), (12, 213, 186, 6190), (12, 231, 184, 6194), (12, 234, 187, 6198), (18, 35, 197, 6202), (12, 242, 196, 6206), (12, 237, 254, 6209), (18, 39, 202, 6210), (12, 257, 189, 6214), (12, 260, 201, 6218), (12, 251, 199, 6222), (12, 248, 198, 6226), (12, 245, 192, 6230), (12, 254, 200, 6234), (18, 44, 203, 6238), (18, 48, 211, 7002), (12, 272, 206, 7006), (12, 275, 207, 7010), (12, 278, 210, 7014), (12, 269, 209, 7018), (12, 281, 208, 7022), (12, 284, 204, 7026), (12, 263, 205, 7030), (18, 53, 212, 7033), (18, 57, 213, 7037), (18, 61, 214, 7041), (18, 65, 215, 7045), (18, 69, 216, 7049), (18, 73, 217, 7053), (18, 77, 221, 7057), (12, 304, 220, 7061), (12, 300, 219, 7065), (12, 296, 218, 7069), (18, 81, 222, 7073), (18, 85, 225, 7077), (12, 308, 223, 7081), (12, 311, 224, 7085), (18, 89, 226, 7089), (18, 93, 227, 7093), (18, 97, 229, 7097), (12, 315, 228, 7101), (18, 101, 230, 7105), (18, 106, 237, 7109), (12, 337, 236, 7113), (12, 330, 235, 7117), (12, 327, 231, 7121), (12, 333, 234, 7125), (12, 321, 232, 7129), (12, 324, 233, 7133), (18, 110, 241, 7138), (12, 355, 240, 7142), (12, 349, 239, 7146), (12, 352, 238, 7150), (18, 114, 245, 7154), (12, 361, 243, 7158), (12, 358, 253, 7162), (12, 364, 242, 7166), (12, 367, 244, 7170), (18, 118, 247, 7174), (12, 370, 246, 7178), (18, 122, 248, 7182), (18, 126, 251, 7186), (12, 376, 250, 7190), (12, 373, 249, 7194), (18, 130, 252, 7197)]
theorem z_mll_ok : z_mll.all (fun q => match q with | (o, k, y, p) => decide (z_at p = some (Cond.methodLink (z_cn o) k (z_yn y)))) = true := by decide +kernel
def z_mnl : List (Nat × Nat × Nat × Nat) := [(2, 47, 153, 3173), (2, 51, 154, 3176), (1, 104, 154, 4093)]
theorem z_mnl_ok : z_mnl.all (fun q => match q with | (o, k, y, p) => decide (z_at p = some (Cond.methodLinkNest (z_cn o) k (z_yn y) "StepNets"))) = true := by decide +kernel
def z_oi : List (Nat × Nat × Nat) := [(11, 1, 1026), (10, 3, 1034), (2, 3, 1040), (5, 3, 1076), (6, 3, 1130), (1, 3, 1144), (8, 3, 1229), (0, 3, 1235), (4, 3, 2081), (3, 3, 2106), (7, 3, 2140), (9, 3, 2171), (12, 7, 5178)]
theorem z_oi_ok : z_oi.all (fun q => match q with | (o, k, p) => decide (z_at p = some (Cond.methodLink (z_cn o) k Lib.objectInit))) = true := by decide +kernel
def z_ac : List (Nat × Nat × Nat) := [(2, 70, 3209)]
theorem z_ac_ok : z_ac.all (fun q => match q with | (o, k, p) => decide (z_at p = some (Cond.methodLink (z_cn o) k arraycopyName))) = true := by decide +kernel
def z_ci : List (Nat × Nat × Int32 × Nat) := [(13, 265, 1431655765, 1168), (13, 266, 858993459, 1169), (13, 267, 252645135, 1170), (0, 60, -1640531535, 5038), (0, 61, -2048144777, 5039), (13, 264, 65536, 7165)]
theorem z_ci_ok : z_ci.all (fun q => match q with | (o, k, v, p) => decide (z_at p = some (Cond.constant (z_cn o) k v))) = true := by decide +kernel
def z_cj : List (Nat × Nat × Int64 × Nat) := [(11, 247, -2, 5010), (12, 78, 97, 6080), (12, 80, 122, 6081), (12, 86, 48, 6112), (12, 88, 57, 6113), (12, 163, 2, 6145), (12, 165, 8, 6146), (12, 341, -2, 7137)]
theorem z_cj_ok : z_cj.all (fun q => match q with | (o, k, v, p) => decide (z_at p = some (Cond.constantLong (z_cn o) k v))) = true := by decide +kernel
def z_cs : List (Nat × Nat × Nat) := [(10, 74, 0), (10, 82, 1), (10, 90, 2), (10, 91, 3), (10, 120, 4), (10, 134, 5), (10, 136, 6), (10, 138, 7), (10, 140, 8), (12, 98, 9)]
def z_kl : List (Nat × Nat × Nat × Nat) := [(18, 7, 12, 1021), (11, 17, 11, 1029), (10, 9, 3, 1035), (10, 18, 6, 1071), (11, 32, 2, 1123), (11, 34, 7, 1125), (11, 42, 9, 1223), (8, 21, 1, 1230), (11, 51, 5, 2076), (4, 15, 2, 2082), (11, 58, 4, 2101), (11, 65, 8, 2135), (11, 72, 10, 2166), (9, 24, 1, 2172), (2, 61, 2, 3204), (2, 76, 7, 3212), (1, 10, 2, 4046), (18, 10, 13, 5173)]
theorem z_kl_ok : z_kl.all (fun q => match q with | (o, k, t, p) => decide (z_at p = some (Cond.classLink (z_cn o) k (z_cn (t - 1)))) && Nat.blt 0 t && Nat.ble t 13) = true := by decide +kernel
def z_cll : List (Nat × Nat × Nat) := [(0, 1231, 1009), (1, 1124, 1005), (2, 1036, 1003), (3, 2102, 1011), (4, 2077, 1010), (5, 1072, 1004), (6, 1126, 1006), (7, 2136, 1012), (8, 1225, 1008), (9, 2167, 1013), (10, 1030, 1002), (11, 1022, 1001), (12, 5174, 1014)]
theorem z_cll_ok : z_cll.all (fun q => match q with | (k, p, r) => decide (z_at p = some (Cond.instantiable (z_cn k) (z_nf k))) && decide (z_at r = some (Cond.initialized (z_cn k)))) = true := by decide +kernel
theorem z_w_ai : (.arrayClass .int : Cond) ∈ lw_tbl := z_at_mem (q := 1070) (by decide +kernel)
theorem z_w_ab : (.arrayClass .byte : Cond) ∈ lw_tbl := z_at_mem (q := 1069) (by decide +kernel)
theorem z_w_an : (.arrayOver (.object "StepNets$Network") : Cond) ∈ lw_tbl := z_at_mem (q := 1224) (by decide +kernel)
theorem z_w_ag : (.arrayOver (.object "StepNets$Group") : Cond) ∈ lw_tbl := z_at_mem (q := 2083) (by decide +kernel)
theorem z_w_oi : (.instanceMethod Lib.objectInit : Cond) ∈ lw_tbl := z_at_mem (q := 1027) (by decide +kernel)
theorem z_w_oc : (.code Lib.objectInit ⟨#[0xb1]⟩ 1 none : Cond) ∈ lw_tbl := z_at_mem (q := 1028) (by decide +kernel)
theorem z_w_acn : (.native arraycopyName : Cond) ∈ lw_tbl := z_at_mem (q := 3211) (by decide +kernel)
theorem z_w_acs : (.static arraycopyName : Cond) ∈ lw_tbl := z_at_mem (q := 3210) (by decide +kernel)
theorem z_w_isy : (.initialized "java/lang/System" : Cond) ∈ lw_tbl := z_at_mem (q := 1020) (by decide +kernel)
theorem z_w_s15_38 : (.fieldLink "java/lang/String" 38 "java/lang/String" "COMPACT_STRINGS" "Z" : Cond) ∈ lw_tbl := z_at_mem (q := 3053) (by decide +kernel)
theorem z_w_s15_1053 : (.fieldLink "java/lang/String" 1053 "jdk/internal/util/Preconditions" "SIOOBE_FORMATTER" "Ljava/util/function/BiFunction;" : Cond) ∈ lw_tbl := z_at_mem (q := 3069) (by decide +kernel)
theorem z_w_s2_44 : (.fieldLinkNest "StepNets$GroupBuilder" 44 "StepNets" "EVEN_ORDERS" "[I" "StepNets" : Cond) ∈ lw_tbl := z_at_mem (q := 3150) (by decide +kernel)
theorem z_co_X0_init : z_at 1234 = some (Cond.code yX0_init cX0_init 1 none) := rfl
theorem z_co_X0_paint : z_at 5022 = some (Cond.code yX0_paint cX0_paint 5 none) := rfl
theorem z_co_X0_refine : z_at 5034 = some (Cond.code yX0_refine cX0_refine 6 none) := rfl
theorem z_co_X0_mix : z_at 5037 = some (Cond.code yX0_mix cX0_mix 3 (some .int)) := rfl
theorem z_co_X0_sortOut : z_at 5026 = some (Cond.code yX0_sortOut cX0_sortOut 3 none) := rfl
theorem z_co_X0_classOfHue : z_at 5030 = some (Cond.code yX0_classOfHue cX0_classOfHue 3 (some .int)) := rfl
theorem z_co_X0_spreadOut : z_at 5043 = some (Cond.code yX0_spreadOut cX0_spreadOut 5 none) := rfl
theorem z_co_X1_init : z_at 1143 = some (Cond.code yX1_init cX1_init 6 none) := rfl
theorem z_co_X1_times : z_at 1156 = some (Cond.code yX1_times cX1_times 3 (some .int)) := rfl
theorem z_co_X1_findInverses : z_at 1148 = some (Cond.code yX1_findInverses cX1_findInverses 3 none) := rfl
theorem z_co_X1_findPeriods : z_at 1152 = some (Cond.code yX1_findPeriods cX1_findPeriods 4 none) := rfl
theorem z_co_X1_findClasses : z_at 1160 = some (Cond.code yX1_findClasses cX1_findClasses 4 none) := rfl
theorem z_co_X1_findMarks : z_at 1164 = some (Cond.code yX1_findMarks cX1_findMarks 2 none) := rfl
theorem z_co_X1_hasMarksOf : z_at 4182 = some (Cond.code yX1_hasMarksOf cX1_hasMarksOf 3 (some .boolean)) := rfl
theorem z_co_X1_countMark : z_at 4186 = some (Cond.code yX1_countMark cX1_countMark 4 (some .int)) := rfl
theorem z_co_X1_isSet : z_at 4017 = some (Cond.code yX1_isSet cX1_isSet 2 (some .boolean)) := rfl
theorem z_co_X1_isClosed : z_at 4021 = some (Cond.code yX1_isClosed cX1_isClosed 2 (some .boolean)) := rfl
theorem z_co_X1_isOfWholeClasses : z_at 4037 = some (Cond.code yX1_isOfWholeClasses cX1_isOfWholeClasses 3 (some .boolean)) := rfl
theorem z_co_X1_withInverses : z_at 3114 = some (Cond.code yX1_withInverses cX1_withInverses 4 (some .int)) := rfl
theorem z_co_X1_onward : z_at 4029 = some (Cond.code yX1_onward cX1_onward 5 (some .int)) := rfl
theorem z_co_X1_shifted : z_at 4033 = some (Cond.code yX1_shifted cX1_shifted 5 (some .int)) := rfl
theorem z_co_X1_span : z_at 4025 = some (Cond.code yX1_span cX1_span 5 (some .int)) := rfl
theorem z_co_X1_centreOrder : z_at 4076 = some (Cond.code yX1_centreOrder cX1_centreOrder 3 (some .int)) := rfl
theorem z_co_X1_countClasses : z_at 4080 = some (Cond.code yX1_countClasses cX1_countClasses 4 (some .int)) := rfl
theorem z_co_X1_derived : z_at 4105 = some (Cond.code yX1_derived cX1_derived 4 (some .int)) := rfl
theorem z_co_X1_exponent : z_at 4109 = some (Cond.code yX1_exponent cX1_exponent 6 (some .int)) := rfl
theorem z_co_X1_countSubgroups : z_at 4084 = some (Cond.code yX1_countSubgroups cX1_countSubgroups 1 (some .int)) := rfl
theorem z_co_X1_subgroupAt : z_at 4135 = some (Cond.code yX1_subgroupAt cX1_subgroupAt 2 (some .int)) := rfl
theorem z_co_X1_findSubgroups : z_at 4088 = some (Cond.code yX1_findSubgroups cX1_findSubgroups 6 none) := rfl
theorem z_co_X1_hasNoneBetween : z_at 4096 = some (Cond.code yX1_hasNoneBetween cX1_hasNoneBetween 4 (some .boolean)) := rfl
theorem z_co_X1_keepSubgroup : z_at 4092 = some (Cond.code yX1_keepSubgroup cX1_keepSubgroup 2 none) := rfl
theorem z_co_X1_sortSubgroups : z_at 4101 = some (Cond.code yX1_sortSubgroups cX1_sortSubgroups 4 none) := rfl
theorem z_co_X1_numberCosets : z_at 4041 = some (Cond.code yX1_numberCosets cX1_numberCosets 9 (some .int)) := rfl
theorem z_co_X1_dividedBy : z_at 4045 = some (Cond.code yX1_dividedBy cX1_dividedBy 8 (some (.object "StepNets$Group"))) := rfl
theorem z_co_X1_nameByte : z_at 5159 = some (Cond.code yX1_nameByte cX1_nameByte 4 (some .int)) := rfl
theorem z_co_X2_init : z_at 1039 = some (Cond.code yX2_init cX2_init 1 none) := rfl
theorem z_co_X2_startAnew : z_at 3120 = some (Cond.code yX2_startAnew cX2_startAnew 1 none) := rfl
theorem z_co_X2_addFactor : z_at 3146 = some (Cond.code yX2_addFactor cX2_addFactor 4 (some .boolean)) := rfl
theorem z_co_X2_sizeOf : z_at 3149 = some (Cond.code yX2_sizeOf cX2_sizeOf 2 (some .int)) := rfl
theorem z_co_X2_addRow : z_at 3164 = some (Cond.code yX2_addRow cX2_addRow 3 (some .boolean)) := rfl
theorem z_co_X2_findElements : z_at 3172 = some (Cond.code yX2_findElements cX2_findElements 4 (some .boolean)) := rfl
theorem z_co_X2_build : z_at 3182 = some (Cond.code yX2_build cX2_build 5 (some (.object "StepNets$Group"))) := rfl
theorem z_co_X2_names : z_at 3208 = some (Cond.code yX2_names cX2_names 2 (some (.object "StepNets$Names"))) := rfl
theorem z_co_X2_rowProduct : z_at 3186 = some (Cond.code yX2_rowProduct cX2_rowProduct 4 (some .int)) := rfl
theorem z_co_X2_factorsProduct : z_at 3193 = some (Cond.code yX2_factorsProduct cX2_factorsProduct 9 (some .int)) := rfl
theorem z_co_X2_factorProduct : z_at 3197 = some (Cond.code yX2_factorProduct cX2_factorProduct 6 (some .int)) := rfl
theorem z_co_X2_turned : z_at 3200 = some (Cond.code yX2_turned cX2_turned 11 (some .int)) := rfl
theorem z_co_X3_init : z_at 2105 = some (Cond.code yX3_init cX3_init 1 none) := rfl
theorem z_co_X3_begin : z_at 4152 = some (Cond.code yX3_begin cX3_begin 7 none) := rfl
theorem z_co_X3_fits : z_at 4161 = some (Cond.code yX3_fits cX3_fits 3 (some .boolean)) := rfl
theorem z_co_X3_spread : z_at 4165 = some (Cond.code yX3_spread cX3_spread 10 (some .boolean)) := rfl
theorem z_co_X3_tryImage : z_at 4157 = some (Cond.code yX3_tryImage cX3_tryImage 3 (some .boolean)) := rfl
theorem z_co_X3_complete : z_at 4170 = some (Cond.code yX3_complete cX3_complete 3 (some .boolean)) := rfl
theorem z_co_X3_findFirst : z_at 4178 = some (Cond.code yX3_findFirst cX3_findFirst 6 none) := rfl
theorem z_co_X3_countOwn : z_at 4148 = some (Cond.code yX3_countOwn cX3_countOwn 7 (some .int)) := rfl
theorem z_co_X4_init : z_at 2080 = some (Cond.code yX4_init cX4_init 1 none) := rfl
theorem z_co_X4_keep : z_at 4002 = some (Cond.code yX4_keep cX4_keep 3 none) := rfl
theorem z_co_X4_stepBack : z_at 4055 = some (Cond.code yX4_stepBack cX4_stepBack 1 none) := rfl
theorem z_co_X4_forget : z_at 3218 = some (Cond.code yX4_forget cX4_forget 1 none) := rfl
theorem z_co_X4_slot : z_at 4064 = some (Cond.code yX4_slot cX4_slot 1 (some .int)) := rfl
theorem z_co_X4_group : z_at 4060 = some (Cond.code yX4_group cX4_group 1 (some (.object "StepNets$Group"))) := rfl
theorem z_co_X4_steps : z_at 4068 = some (Cond.code yX4_steps cX4_steps 1 (some .int)) := rfl
theorem z_co_X5_init : z_at 1075 = some (Cond.code yX5_init cX5_init 2 none) := rfl
theorem z_co_X5_begin : z_at 3024 = some (Cond.code yX5_begin cX5_begin 2 none) := rfl
theorem z_co_X5_advance : z_at 3031 = some (Cond.code yX5_advance cX5_advance 1 none) := rfl
theorem z_co_X5_goesOn : z_at 3035 = some (Cond.code yX5_goesOn cX5_goesOn 3 (some .boolean)) := rfl
theorem z_co_X5_isWord : z_at 3044 = some (Cond.code yX5_isWord cX5_isWord 3 (some .boolean)) := rfl
theorem z_co_X5_isSign : z_at 3168 = some (Cond.code yX5_isSign cX5_isSign 2 (some .boolean)) := rfl
theorem z_co_X5_number : z_at 3101 = some (Cond.code yX5_number cX5_number 3 (some .int)) := rfl
theorem z_co_X5_row : z_at 3160 = some (Cond.code yX5_row cX5_row 6 (some .int)) := rfl
theorem z_co_X6_init : z_at 1129 = some (Cond.code yX6_init cX6_init 4 none) := rfl
theorem z_co_X6_byteAt : z_at 5163 = some (Cond.code yX6_byteAt cX6_byteAt 3 (some .int)) := rfl
theorem z_co_X6_byteOfNumbers : z_at 5167 = some (Cond.code yX6_byteOfNumbers cX6_byteOfNumbers 8 (some .int)) := rfl
theorem z_co_X7_init : z_at 2139 = some (Cond.code yX7_init cX7_init 1 none) := rfl
theorem z_co_X7_begin : z_at 5052 = some (Cond.code yX7_begin cX7_begin 4 (some .boolean)) := rfl
theorem z_co_X7_fits : z_at 5056 = some (Cond.code yX7_fits cX7_fits 6 (some .boolean)) := rfl
theorem z_co_X7_lead : z_at 5061 = some (Cond.code yX7_lead cX7_lead 8 (some .boolean)) := rfl
theorem z_co_X7_complete : z_at 5074 = some (Cond.code yX7_complete cX7_complete 6 (some .boolean)) := rfl
theorem z_co_X7_pick : z_at 5069 = some (Cond.code yX7_pick cX7_pick 7 (some .int)) := rfl
theorem z_co_X7_isMatch : z_at 5147 = some (Cond.code yX7_isMatch cX7_isMatch 3 (some .boolean)) := rfl
theorem z_co_X7_findFirst : z_at 5106 = some (Cond.code yX7_findFirst cX7_findFirst 6 none) := rfl
theorem z_co_X7_countStaying : z_at 5048 = some (Cond.code yX7_countStaying cX7_countStaying 4 (some .long)) := rfl
theorem z_co_X7_chain : z_at 5065 = some (Cond.code yX7_chain cX7_chain 10 (some .long)) := rfl
theorem z_co_X7_joinOrbits : z_at 5078 = some (Cond.code yX7_joinOrbits cX7_joinOrbits 5 none) := rfl
theorem z_co_X8_init : z_at 1228 = some (Cond.code yX8_init cX8_init 2 none) := rfl
theorem z_co_X8_become : z_at 3226 = some (Cond.code yX8_become cX8_become 3 none) := rfl
theorem z_co_X8_painted : z_at 5018 = some (Cond.code yX8_painted cX8_painted 1 (some (.object "StepNets$Colouring"))) := rfl
theorem z_co_X8_measure : z_at 4198 = some (Cond.code yX8_measure cX8_measure 5 none) := rfl
theorem z_co_X8_along : z_at 4203 = some (Cond.code yX8_along cX8_along 4 (some .int)) := rfl
theorem z_co_X8_distance : z_at 4194 = some (Cond.code yX8_distance cX8_distance 3 (some .int)) := rfl
theorem z_co_X8_deepest : z_at 4212 = some (Cond.code yX8_deepest cX8_deepest 1 (some .int)) := rfl
theorem z_co_X8_pointsAt : z_at 4216 = some (Cond.code yX8_pointsAt cX8_pointsAt 4 (some .int)) := rfl
theorem z_co_X8_stepOfWay : z_at 4224 = some (Cond.code yX8_stepOfWay cX8_stepOfWay 7 (some .int)) := rfl
theorem z_co_X8_firstStepTowards : z_at 4229 = some (Cond.code yX8_firstStepTowards cX8_firstStepTowards 5 (some .int)) := rfl
theorem z_co_X8_shortestRing : z_at 4237 = some (Cond.code yX8_shortestRing cX8_shortestRing 4 (some .int)) := rfl
theorem z_co_X8_ringThrough : z_at 5001 = some (Cond.code yX8_ringThrough cX8_ringThrough 6 (some .int)) := rfl
theorem z_co_X8_arcsAlike : z_at 5090 = some (Cond.code yX8_arcsAlike cX8_arcsAlike 2 (some .boolean)) := rfl
theorem z_co_X8_farAlike : z_at 5094 = some (Cond.code yX8_farAlike cX8_farAlike 3 (some .boolean)) := rfl
theorem z_co_X9_init : z_at 2170 = some (Cond.code yX9_init cX9_init 1 none) := rfl
theorem z_co_X9_leastSet : z_at 5115 = some (Cond.code yX9_leastSet cX9_leastSet 9 (some .int)) := rfl
theorem z_co_X9_isWanted : z_at 5140 = some (Cond.code yX9_isWanted cX9_isWanted 4 (some .boolean)) := rfl
theorem z_co_X9_chooseOf : z_at 5122 = some (Cond.code yX9_chooseOf cX9_chooseOf 4 none) := rfl
theorem z_co_X9_chosenSet : z_at 5130 = some (Cond.code yX9_chosenSet cX9_chosenSet 3 (some .int)) := rfl
theorem z_co_X9_chooseNext : z_at 5151 = some (Cond.code yX9_chooseNext cX9_chooseNext 2 none) := rfl
theorem z_co_X9_shortWalks : z_at 5126 = some (Cond.code yX9_shortWalks cX9_shortWalks 7 (some .long)) := rfl
theorem z_co_X9_longWalks : z_at 5135 = some (Cond.code yX9_longWalks cX9_longWalks 5 (some .int)) := rfl
theorem z_co_X10_init : z_at 1033 = some (Cond.code yX10_init cX10_init 2 none) := rfl
theorem z_co_X10_readText : z_at 3020 = some (Cond.code yX10_readText cX10_readText 5 none) := rfl
theorem z_co_X10_fail : z_at 3109 = some (Cond.code yX10_fail cX10_fail 3 (some .boolean)) := rfl
theorem z_co_X10_take : z_at 3105 = some (Cond.code yX10_take cX10_take 2 (some .boolean)) := rfl
theorem z_co_X10_readLine : z_at 3039 = some (Cond.code yX10_readLine cX10_readLine 4 (some .boolean)) := rfl
theorem z_co_X10_readSteps : z_at 3096 = some (Cond.code yX10_readSteps cX10_readSteps 6 (some .boolean)) := rfl
theorem z_co_X10_readFactors : z_at 3124 = some (Cond.code yX10_readFactors cX10_readFactors 3 (some .boolean)) := rfl
theorem z_co_X10_readFactor : z_at 3128 = some (Cond.code yX10_readFactor cX10_readFactor 5 (some .boolean)) := rfl
theorem z_co_X10_factorLetter : z_at 3132 = some (Cond.code yX10_factorLetter cX10_factorLetter 1 (some .int)) := rfl
theorem z_co_X10_leastOf : z_at 3139 = some (Cond.code yX10_leastOf cX10_leastOf 1 (some .int)) := rfl
theorem z_co_X10_mostOf : z_at 3142 = some (Cond.code yX10_mostOf cX10_mostOf 1 (some .int)) := rfl
theorem z_co_X10_readRows : z_at 3156 = some (Cond.code yX10_readRows cX10_readRows 7 (some .boolean)) := rfl
theorem z_co_X11_init : z_at 1025 = some (Cond.code yX11_init cX11_init 2 none) := rfl
theorem z_co_X11_feed : z_at 3005 = some (Cond.code yX11_feed cX11_feed 6 (some .int)) := rfl
theorem z_co_X11_putOnTape : z_at 3009 = some (Cond.code yX11_putOnTape cX11_putOnTape 3 none) := rfl
theorem z_co_X11_tell : z_at 3013 = some (Cond.code yX11_tell cX11_tell 4 (some .int)) := rfl
theorem z_co_X11_fault : z_at 3230 = some (Cond.code yX11_fault cX11_fault 2 (some .int)) := rfl
theorem z_co_X11_step : z_at 3234 = some (Cond.code yX11_step cX11_step 4 (some .int)) := rfl
theorem z_co_X11_both : z_at 4007 = some (Cond.code yX11_both cX11_both 3 (some .int)) := rfl
theorem z_co_X11_quotient : z_at 4013 = some (Cond.code yX11_quotient cX11_quotient 10 (some .int)) := rfl
theorem z_co_X11_undo : z_at 4051 = some (Cond.code yX11_undo cX11_undo 2 (some .int)) := rfl
theorem z_co_X11_become : z_at 3222 = some (Cond.code yX11_become cX11_become 4 none) := rfl
theorem z_co_X11_size : z_at 4072 = some (Cond.code yX11_size cX11_size 4 (some .int)) := rfl
theorem z_co_X11_product : z_at 4113 = some (Cond.code yX11_product cX11_product 4 (some .int)) := rfl
theorem z_co_X11_element : z_at 4118 = some (Cond.code yX11_element cX11_element 5 (some .int)) := rfl
theorem z_co_X11_classOf : z_at 4122 = some (Cond.code yX11_classOf cX11_classOf 3 (some .int)) := rfl
theorem z_co_X11_generated : z_at 4126 = some (Cond.code yX11_generated cX11_generated 4 (some .int)) := rfl
theorem z_co_X11_subgroup : z_at 4131 = some (Cond.code yX11_subgroup cX11_subgroup 3 (some .int)) := rfl
theorem z_co_X11_kind : z_at 4140 = some (Cond.code yX11_kind cX11_kind 4 (some .int)) := rfl
theorem z_co_X11_maps : z_at 4144 = some (Cond.code yX11_maps cX11_maps 3 (some .int)) := rfl
theorem z_co_X11_mapped : z_at 4174 = some (Cond.code yX11_mapped cX11_mapped 2 (some .int)) := rfl
theorem z_co_X11_far : z_at 4190 = some (Cond.code yX11_far cX11_far 4 (some .int)) := rfl
theorem z_co_X11_sphere : z_at 4208 = some (Cond.code yX11_sphere cX11_sphere 3 (some .int)) := rfl
theorem z_co_X11_way : z_at 4220 = some (Cond.code yX11_way cX11_way 4 (some .int)) := rfl
theorem z_co_X11_ring : z_at 4233 = some (Cond.code yX11_ring cX11_ring 2 (some .int)) := rfl
theorem z_co_X11_parts : z_at 5005 = some (Cond.code yX11_parts cX11_parts 4 (some .int)) := rfl
theorem z_co_X11_symmetries : z_at 5009 = some (Cond.code yX11_symmetries cX11_symmetries 2 (some .long)) := rfl
theorem z_co_X11_alikeTo : z_at 5082 = some (Cond.code yX11_alikeTo cX11_alikeTo 3 (some .int)) := rfl
theorem z_co_X11_regular : z_at 5086 = some (Cond.code yX11_regular cX11_regular 3 (some .int)) := rfl
theorem z_co_X11_alike : z_at 5102 = some (Cond.code yX11_alike cX11_alike 2 (some .int)) := rfl
theorem z_co_X11_other : z_at 5111 = some (Cond.code yX11_other cX11_other 1 (some .int)) := rfl
theorem z_co_X11_solved : z_at 5014 = some (Cond.code yX11_solved cX11_solved 3 (some (.object "StepNets$Network"))) := rfl
theorem z_co_X11_ownCount : z_at 5098 = some (Cond.code yX11_ownCount cX11_ownCount 3 (some .int)) := rfl
theorem z_co_X11_name : z_at 5155 = some (Cond.code yX11_name cX11_name 4 (some .int)) := rfl
theorem z_co_X11_count : z_at 5172 = some (Cond.code yX11_count cX11_count 2 (some .int)) := rfl
theorem z_co_X11_isSlot : z_at 3016 = some (Cond.code yX11_isSlot cX11_isSlot 1 (some .boolean)) := rfl
theorem z_co_X11_isElement : z_at 3238 = some (Cond.code yX11_isElement cX11_isElement 3 (some .boolean)) := rfl
theorem z_co_X11_firstThen : z_at 3175 = some (Cond.code yX11_firstThen cX11_firstThen 6 (some .int)) := rfl
theorem z_co_X11_indexOf : z_at 3178 = some (Cond.code yX11_indexOf cX11_indexOf 4 (some .int)) := rfl
theorem z_co_X12_isIn : z_at 6061 = some (Cond.code yX12_isIn cX12_isIn 6 (some .boolean)) := rfl
theorem z_co_X12_init : z_at 5177 = some (Cond.code yX12_init cX12_init 2 none) := rfl
theorem z_co_X12_copies : z_at 6064 = some (Cond.code yX12_copies cX12_copies 5 none) := rfl
theorem z_co_X12_feed : z_at 6051 = some (Cond.code yX12_feed cX12_feed 8 (some .int)) := rfl
theorem z_co_X12_peek : z_at 6068 = some (Cond.code yX12_peek cX12_peek 1 (some .int)) := rfl
theorem z_co_X12_fails : z_at 6088 = some (Cond.code yX12_fails cX12_fails 3 none) := rfl
theorem z_co_X12_isLetter : z_at 6079 = some (Cond.code yX12_isLetter cX12_isLetter 1 (some .boolean)) := rfl
theorem z_co_X12_isDigit : z_at 6111 = some (Cond.code yX12_isDigit cX12_isDigit 1 (some .boolean)) := rfl
theorem z_co_X12_wordHere : z_at 6076 = some (Cond.code yX12_wordHere cX12_wordHere 7 (some .int)) := rfl
theorem z_co_X12_passesWord : z_at 6092 = some (Cond.code yX12_passesWord cX12_passesWord 1 none) := rfl
theorem z_co_X12_must : z_at 6177 = some (Cond.code yX12_must cX12_must 2 none) := rfl
theorem z_co_X12_numeral : z_at 6108 = some (Cond.code yX12_numeral cX12_numeral 5 (some .int)) := rfl
theorem z_co_X12_sizeOfFactor : z_at 6117 = some (Cond.code yX12_sizeOfFactor cX12_sizeOfFactor 1 (some .int)) := rfl
theorem z_co_X12_laysEven : z_at 6121 = some (Cond.code yX12_laysEven cX12_laysEven 6 none) := rfl
theorem z_co_X12_imageOf : z_at 6124 = some (Cond.code yX12_imageOf cX12_imageOf 2 (some .int)) := rfl
theorem z_co_X12_evenProduct : z_at 6132 = some (Cond.code yX12_evenProduct cX12_evenProduct 5 (some .int)) := rfl
theorem z_co_X12_factorProduct : z_at 6128 = some (Cond.code yX12_factorProduct cX12_factorProduct 9 (some .int)) := rfl
theorem z_co_X12_factorRead : z_at 6104 = some (Cond.code yX12_factorRead cX12_factorRead 7 none) := rfl
theorem z_co_X12_begins : z_at 6100 = some (Cond.code yX12_begins cX12_begins 3 none) := rfl
theorem z_co_X12_base : z_at 6136 = some (Cond.code yX12_base cX12_base 2 none) := rfl
theorem z_co_X12_groupRead : z_at 6096 = some (Cond.code yX12_groupRead cX12_groupRead 1 none) := rfl
theorem z_co_X12_rowRead : z_at 6144 = some (Cond.code yX12_rowRead cX12_rowRead 5 none) := rfl
theorem z_co_X12_findRow : z_at 6150 = some (Cond.code yX12_findRow cX12_findRow 3 (some .int)) := rfl
theorem z_co_X12_isRow : z_at 6154 = some (Cond.code yX12_isRow cX12_isRow 4 (some .boolean)) := rfl
theorem z_co_X12_permsRead : z_at 6140 = some (Cond.code yX12_permsRead cX12_permsRead 5 none) := rfl
theorem z_co_X12_stepsRead : z_at 6158 = some (Cond.code yX12_stepsRead cX12_stepsRead 2 none) := rfl
theorem z_co_X12_lineRead : z_at 6072 = some (Cond.code yX12_lineRead cX12_lineRead 3 none) := rfl
theorem z_co_X12_tell : z_at 6055 = some (Cond.code yX12_tell cX12_tell 3 (some .int)) := rfl
theorem z_co_X12_fault : z_at 6181 = some (Cond.code yX12_fault cX12_fault 2 (some .int)) := rfl
theorem z_co_X12_keeps : z_at 6197 = some (Cond.code yX12_keeps cX12_keeps 3 none) := rfl
theorem z_co_X12_isSlot : z_at 6058 = some (Cond.code yX12_isSlot cX12_isSlot 1 (some .boolean)) := rfl
theorem z_co_X12_many : z_at 6193 = some (Cond.code yX12_many cX12_many 2 (some .int)) := rfl
theorem z_co_X12_steps : z_at 6201 = some (Cond.code yX12_steps cX12_steps 2 (some .int)) := rfl
theorem z_co_X12_isElement : z_at 6189 = some (Cond.code yX12_isElement cX12_isElement 3 (some .boolean)) := rfl
theorem z_co_X12_isSet : z_at 6217 = some (Cond.code yX12_isSet cX12_isSet 3 (some .boolean)) := rfl
theorem z_co_X12_has : z_at 6165 = some (Cond.code yX12_has cX12_has 2 (some .boolean)) := rfl
theorem z_co_X12_productAt : z_at 6173 = some (Cond.code yX12_productAt cX12_productAt 4 (some .int)) := rfl
theorem z_co_X12_times : z_at 6233 = some (Cond.code yX12_times cX12_times 4 (some .int)) := rfl
theorem z_co_X12_inverse : z_at 6169 = some (Cond.code yX12_inverse cX12_inverse 4 (some .int)) := rfl
theorem z_co_X12_undoing : z_at 6162 = some (Cond.code yX12_undoing cX12_undoing 5 (some .int)) := rfl
theorem z_co_X12_step : z_at 6185 = some (Cond.code yX12_step cX12_step 3 (some .int)) := rfl
theorem z_co_X12_bits : z_at 6208 = some (Cond.code yX12_bits cX12_bits 1 (some .int)) := rfl
theorem z_co_X12_both : z_at 6205 = some (Cond.code yX12_both cX12_both 2 (some .int)) := rfl
theorem z_co_X12_products : z_at 6229 = some (Cond.code yX12_products cX12_products 7 (some .int)) := rfl
theorem z_co_X12_subgroupOf : z_at 6225 = some (Cond.code yX12_subgroupOf cX12_subgroupOf 5 (some .int)) := rfl
theorem z_co_X12_classBits : z_at 6237 = some (Cond.code yX12_classBits cX12_classBits 5 (some .int)) := rfl
theorem z_co_X12_kindOf : z_at 6221 = some (Cond.code yX12_kindOf cX12_kindOf 4 (some .int)) := rfl
theorem z_co_X12_quotient : z_at 6213 = some (Cond.code yX12_quotient cX12_quotient 7 (some .int)) := rfl
theorem z_co_X12_undo : z_at 7001 = some (Cond.code yX12_undo cX12_undo 2 (some .int)) := rfl
theorem z_co_X12_periodOf : z_at 7029 = some (Cond.code yX12_periodOf cX12_periodOf 5 (some .int)) := rfl
theorem z_co_X12_common : z_at 7032 = some (Cond.code yX12_common cX12_common 2 (some .int)) := rfl
theorem z_co_X12_centre : z_at 7009 = some (Cond.code yX12_centre cX12_centre 4 (some .int)) := rfl
theorem z_co_X12_classes : z_at 7013 = some (Cond.code yX12_classes cX12_classes 4 (some .int)) := rfl
theorem z_co_X12_derived : z_at 7025 = some (Cond.code yX12_derived cX12_derived 6 (some .int)) := rfl
theorem z_co_X12_comes : z_at 7021 = some (Cond.code yX12_comes cX12_comes 4 none) := rfl
theorem z_co_X12_laysSubgroups : z_at 7017 = some (Cond.code yX12_laysSubgroups cX12_laysSubgroups 6 none) := rfl
theorem z_co_X12_size : z_at 7005 = some (Cond.code yX12_size cX12_size 5 (some .int)) := rfl
theorem z_co_X12_product : z_at 7036 = some (Cond.code yX12_product cX12_product 4 (some .int)) := rfl
theorem z_co_X12_element : z_at 7040 = some (Cond.code yX12_element cX12_element 4 (some .int)) := rfl
theorem z_co_X12_classOf : z_at 7044 = some (Cond.code yX12_classOf cX12_classOf 3 (some .int)) := rfl
theorem z_co_X12_generated : z_at 7048 = some (Cond.code yX12_generated cX12_generated 3 (some .int)) := rfl
theorem z_co_X12_subgroup : z_at 7052 = some (Cond.code yX12_subgroup cX12_subgroup 3 (some .int)) := rfl
theorem z_co_X12_kind : z_at 7056 = some (Cond.code yX12_kind cX12_kind 3 (some .int)) := rfl
theorem z_co_X12_follows : z_at 7072 = some (Cond.code yX12_follows cX12_follows 13 (some .boolean)) := rfl
theorem z_co_X12_goesMaps : z_at 7068 = some (Cond.code yX12_goesMaps cX12_goesMaps 8 none) := rfl
theorem z_co_X12_laysMaps : z_at 7064 = some (Cond.code yX12_laysMaps cX12_laysMaps 5 none) := rfl
theorem z_co_X12_maps : z_at 7060 = some (Cond.code yX12_maps cX12_maps 2 (some .int)) := rfl
theorem z_co_X12_mapped : z_at 7076 = some (Cond.code yX12_mapped cX12_mapped 2 (some .int)) := rfl
theorem z_co_X12_laysFar : z_at 7084 = some (Cond.code yX12_laysFar cX12_laysFar 8 none) := rfl
theorem z_co_X12_farOf : z_at 7088 = some (Cond.code yX12_farOf cX12_farOf 5 (some .int)) := rfl
theorem z_co_X12_far : z_at 7080 = some (Cond.code yX12_far cX12_far 4 (some .int)) := rfl
theorem z_co_X12_sphere : z_at 7092 = some (Cond.code yX12_sphere cX12_sphere 6 (some .int)) := rfl
theorem z_co_X12_way : z_at 7096 = some (Cond.code yX12_way cX12_way 8 (some .int)) := rfl
theorem z_co_X12_back : z_at 7104 = some (Cond.code yX12_back cX12_back 7 (some .int)) := rfl
theorem z_co_X12_ring : z_at 7100 = some (Cond.code yX12_ring cX12_ring 5 (some .int)) := rfl
theorem z_co_X12_parts : z_at 7108 = some (Cond.code yX12_parts cX12_parts 2 (some .int)) := rfl
theorem z_co_X12_laysFars : z_at 7124 = some (Cond.code yX12_laysFars cX12_laysFars 6 none) := rfl
theorem z_co_X12_mayLead : z_at 7132 = some (Cond.code yX12_mayLead cX12_mayLead 4 (some .boolean)) := rfl
theorem z_co_X12_goesOn : z_at 7136 = some (Cond.code yX12_goesOn cX12_goesOn 4 (some .boolean)) := rfl
theorem z_co_X12_canLead : z_at 7128 = some (Cond.code yX12_canLead cX12_canLead 5 (some .boolean)) := rfl
theorem z_co_X12_laysSame : z_at 7120 = some (Cond.code yX12_laysSame cX12_laysSame 2 none) := rfl
theorem z_co_X12_staying : z_at 7116 = some (Cond.code yX12_staying cX12_staying 7 (some .long)) := rfl
theorem z_co_X12_symmetries : z_at 7112 = some (Cond.code yX12_symmetries cX12_symmetries 2 (some .long)) := rfl
theorem z_co_X12_fitsPin : z_at 7153 = some (Cond.code yX12_fitsPin cX12_fitsPin 3 (some .boolean)) := rfl
theorem z_co_X12_goesPinned : z_at 7149 = some (Cond.code yX12_goesPinned cX12_goesPinned 4 (some .boolean)) := rfl
theorem z_co_X12_alikeBits : z_at 7145 = some (Cond.code yX12_alikeBits cX12_alikeBits 5 (some .int)) := rfl
theorem z_co_X12_alikeTo : z_at 7141 = some (Cond.code yX12_alikeTo cX12_alikeTo 3 (some .int)) := rfl
theorem z_co_X12_areFarAlike : z_at 7169 = some (Cond.code yX12_areFarAlike cX12_areFarAlike 5 (some .boolean)) := rfl
theorem z_co_X12_areArcsAlike : z_at 7161 = some (Cond.code yX12_areArcsAlike cX12_areArcsAlike 2 (some .boolean)) := rfl
theorem z_co_X12_own : z_at 7173 = some (Cond.code yX12_own cX12_own 2 (some .int)) := rfl
theorem z_co_X12_regular : z_at 7157 = some (Cond.code yX12_regular cX12_regular 3 (some .int)) := rfl
theorem z_co_X12_leads : z_at 7181 = some (Cond.code yX12_leads cX12_leads 5 (some .boolean)) := rfl
theorem z_co_X12_alike : z_at 7177 = some (Cond.code yX12_alike cX12_alike 2 (some .int)) := rfl
theorem z_co_X12_other : z_at 7185 = some (Cond.code yX12_other cX12_other 2 (some .int)) := rfl
theorem z_co_X12_digit : z_at 7196 = some (Cond.code yX12_digit cX12_digit 2 (some .int)) := rfl
theorem z_co_X12_nameAt : z_at 7193 = some (Cond.code yX12_nameAt cX12_nameAt 10 (some .int)) := rfl
theorem z_co_X12_name : z_at 7189 = some (Cond.code yX12_name cX12_name 4 (some .int)) := rfl
theorem z_co_X12_count : z_at 7200 = some (Cond.code yX12_count cX12_count 2 (some .int)) := rfl
theorem z_co_J6_numberOfTrailingZeros_0f7a4 : z_at 7164 = some (Cond.code yJ6_numberOfTrailingZeros_0f7a4 cJ6_numberOfTrailingZeros_0f7a4 2 (some .int)) := rfl
theorem z_co_J6_bitCount_0f7a4 : z_at 1167 = some (Cond.code yJ6_bitCount_0f7a4 cJ6_bitCount_0f7a4 1 (some .int)) := rfl
theorem z_co_J9_floorMod_7cf53 : z_at 3203 = some (Cond.code yJ9_floorMod_7cf53 cJ9_floorMod_7cf53 3 (some .int)) := rfl
theorem z_co_J9_max_7cf53 : z_at 3189 = some (Cond.code yJ9_max_7cf53 cJ9_max_7cf53 2 (some .int)) := rfl
theorem z_co_J9_min_7cf53 : z_at 3027 = some (Cond.code yJ9_min_7cf53 cJ9_min_7cf53 2 (some .int)) := rfl
theorem z_co_J0_length_8abf5 : z_at 3048 = some (Cond.code yJ0_length_8abf5 cJ0_length_8abf5 1 (some .int)) := rfl
theorem z_co_J0_charAt_5068e : z_at 3058 = some (Cond.code yJ0_charAt_5068e cJ0_charAt_5068e 2 (some .char)) := rfl
theorem z_co_J0_coder_7d493 : z_at 3052 = some (Cond.code yJ0_coder_7d493 cJ0_coder_7d493 1 (some .byte)) := rfl
theorem z_co_J0_isLatin1_aae02 : z_at 3062 = some (Cond.code yJ0_isLatin1_aae02 cJ0_isLatin1_aae02 1 (some .boolean)) := rfl
theorem z_co_J0_checkIndex_df160 : z_at 3068 = some (Cond.code yJ0_checkIndex_df160 cJ0_checkIndex_df160 2 none) := rfl
theorem z_co_J1_charAt_3b067 : z_at 3065 = some (Cond.code yJ1_charAt_3b067 cJ1_charAt_3b067 2 (some .char)) := rfl
theorem z_co_J3_checkIndex_8e157 : z_at 3073 = some (Cond.code yJ3_checkIndex_8e157 cJ3_checkIndex_8e157 3 (some .int)) := rfl
def z_wd (q : (MethodName × ByteArray × Nat × Option FieldType × Nat × Nat × Nat)) (w : Nat × Nat × Nat × Nat) : Bool := match q, w with
  | (y, cc, mL, ret, o, n, kd), (p1, p2, p3, p4) => decide (z_at p2 = some (Cond.initialized y.cls)) && decide (y.cls = z_cn o) && plainFor y && decide (y.cls ≠ "java/lang/invoke/MethodHandle") && decide (y.cls ≠ "java/lang/invoke/VarHandle") && decide ((parseMethodDescriptor y.desc).map (fun d => d.parameters.length) = some n) && Nat.ble mL 45 && (match kd with
    | 0 => decide (z_at p3 = some (Cond.instanceMethod y)) && decide (z_at p4 = some (Cond.selects y.cls y y))
    | 1 => decide (z_at p3 = some (Cond.static y))
    | _ => decide (z_at p3 = some (Cond.instanceMethod y)) && decide (y.name = "<init>") && decide (ret = none))
def z_wp0 : List (Nat × Nat × Nat × Nat) := [(1234, 1009, 1233, 0), (5022, 1009, 5020, 5021), (5034, 1009, 5033, 35), (5037, 1009, 5036, 0), (5026, 1009, 5025, 34), (5030, 1009, 5028, 5029), (5043, 1009, 5041, 5042), (1143, 1005, 1142, 0), (1156, 1005, 1154, 1155), (1148, 1005, 1147, 0), (1152, 1005, 1151, 1), (1160, 1005, 1159, 2), (1164, 1005, 1163, 3), (4182, 1005, 4180, 4181), (4186, 1005, 4185, 28), (4017, 1005, 4015, 4016), (4021, 1005, 4019, 4020), (4037, 1005, 4035, 4036), (3114, 1005, 3112, 3113), (4029, 1005, 4027, 4028), (4033, 1005, 4031, 4032), (4025, 1005, 4023, 4024), (4076, 1005, 4074, 4075), (4080, 1005, 4078, 4079), (4105, 1005, 4103, 4104), (4109, 1005, 4107, 4108), (4084, 1005, 4082, 4083), (4135, 1005, 4133, 4134), (4088, 1005, 4087, 20), (4096, 1005, 4095, 0)]
set_option maxRecDepth 20000 in
theorem z_wp0_ok : (z_if0.zip z_wp0).all (fun x => z_wd x.1 x.2) = true ∧ z_if0.length = z_wp0.length := by decide +kernel
def z_wp1 : List (Nat × Nat × Nat × Nat) := [(4092, 1005, 4091, 21), (4101, 1005, 4100, 22), (4041, 1005, 4039, 4040), (4045, 1005, 4043, 4044), (5159, 1005, 5157, 5158), (1039, 1003, 1038, 0), (3120, 1003, 3118, 3119), (3146, 1003, 3144, 3145), (3149, 1003, 3148, 0), (3164, 1003, 3162, 3163), (3172, 1003, 3170, 3171), (3182, 1003, 3180, 3181), (3208, 1003, 3207, 17), (3186, 1003, 3185, 14), (3193, 1003, 3192, 15), (3197, 1003, 3196, 16), (3200, 1003, 3199, 0), (2105, 1011, 2104, 0), (4152, 1011, 4151, 23), (4161, 1011, 4160, 25), (4165, 1011, 4164, 26), (4157, 1011, 4156, 24), (4170, 1011, 4169, 27), (4178, 1011, 4176, 4177), (4148, 1011, 4146, 4147), (2080, 1010, 2079, 0), (4002, 1010, 4000, 4001), (4055, 1010, 4053, 4054), (3218, 1010, 3216, 3217), (4064, 1010, 4062, 4063)]
set_option maxRecDepth 20000 in
theorem z_wp1_ok : (z_if1.zip z_wp1).all (fun x => z_wd x.1 x.2) = true ∧ z_if1.length = z_wp1.length := by decide +kernel
def z_wp2 : List (Nat × Nat × Nat × Nat) := [(4060, 1010, 4058, 4059), (4068, 1010, 4066, 4067), (1075, 1004, 1074, 0), (3024, 1004, 3022, 3023), (3031, 1004, 3029, 3030), (3035, 1004, 3034, 5), (3044, 1004, 3042, 3043), (3168, 1004, 3166, 3167), (3101, 1004, 3099, 3100), (3160, 1004, 3158, 3159), (1129, 1006, 1128, 0), (5163, 1006, 5161, 5162), (5167, 1006, 5166, 49), (2139, 1012, 2138, 0), (5052, 1012, 5051, 36), (5056, 1012, 5054, 5055), (5061, 1012, 5060, 37), (5074, 1012, 5073, 40), (5069, 1012, 5068, 39), (5147, 1012, 5145, 5146), (5106, 1012, 5104, 5105), (5048, 1012, 5046, 5047), (5065, 1012, 5064, 38), (5078, 1012, 5077, 41), (1228, 1008, 1227, 0), (3226, 1008, 3224, 3225), (5018, 1008, 5016, 5017), (4198, 1008, 4197, 29), (4203, 1008, 4202, 30), (4194, 1008, 4192, 4193)]
set_option maxRecDepth 20000 in
theorem z_wp2_ok : (z_if2.zip z_wp2).all (fun x => z_wd x.1 x.2) = true ∧ z_if2.length = z_wp2.length := by decide +kernel
def z_wp3 : List (Nat × Nat × Nat × Nat) := [(4212, 1008, 4210, 4211), (4216, 1008, 4214, 4215), (4224, 1008, 4222, 4223), (4229, 1008, 4228, 31), (4237, 1008, 4235, 4236), (5001, 1008, 5000, 32), (5090, 1008, 5088, 5089), (5094, 1008, 5092, 5093), (2170, 1013, 2169, 0), (5115, 1013, 5113, 5114), (5140, 1013, 5139, 47), (5122, 1013, 5121, 43), (5130, 1013, 5129, 45), (5151, 1013, 5150, 48), (5126, 1013, 5125, 44), (5135, 1013, 5134, 46), (1033, 1002, 1032, 0), (3020, 1002, 3018, 3019), (3109, 1002, 3108, 9), (3105, 1002, 3104, 8), (3039, 1002, 3038, 6), (3096, 1002, 3095, 7), (3124, 1002, 3123, 10), (3128, 1002, 3127, 11), (3132, 1002, 3131, 12), (3139, 1002, 3138, 0), (3142, 1002, 3141, 0), (3156, 1002, 3155, 13), (1025, 1001, 1024, 0), (3005, 1001, 3003, 3004)]
set_option maxRecDepth 20000 in
theorem z_wp3_ok : (z_if3.zip z_wp3).all (fun x => z_wd x.1 x.2) = true ∧ z_if3.length = z_wp3.length := by decide +kernel
def z_wp4 : List (Nat × Nat × Nat × Nat) := [(3009, 1001, 3008, 4), (3013, 1001, 3011, 3012), (3230, 1001, 3228, 3229), (3234, 1001, 3232, 3233), (4007, 1001, 4005, 4006), (4013, 1001, 4011, 4012), (4051, 1001, 4049, 4050), (3222, 1001, 3221, 18), (4072, 1001, 4070, 4071), (4113, 1001, 4111, 4112), (4118, 1001, 4116, 4117), (4122, 1001, 4120, 4121), (4126, 1001, 4124, 4125), (4131, 1001, 4129, 4130), (4140, 1001, 4138, 4139), (4144, 1001, 4142, 4143), (4174, 1001, 4172, 4173), (4190, 1001, 4188, 4189), (4208, 1001, 4206, 4207), (4220, 1001, 4218, 4219), (4233, 1001, 4231, 4232), (5005, 1001, 5003, 5004), (5009, 1001, 5007, 5008), (5082, 1001, 5080, 5081), (5086, 1001, 5084, 5085), (5102, 1001, 5100, 5101), (5111, 1001, 5109, 5110), (5014, 1001, 5013, 33), (5098, 1001, 5097, 42), (5155, 1001, 5153, 5154)]
set_option maxRecDepth 20000 in
theorem z_wp4_ok : (z_if4.zip z_wp4).all (fun x => z_wd x.1 x.2) = true ∧ z_if4.length = z_wp4.length := by decide +kernel
def z_wp5 : List (Nat × Nat × Nat × Nat) := [(5172, 1001, 5170, 5171), (3016, 1001, 3015, 0), (3238, 1001, 3237, 19), (3175, 1001, 3174, 0), (3178, 1001, 3177, 0), (6061, 1014, 6060, 0), (5177, 1014, 5176, 0), (6064, 1014, 6063, 0), (6051, 1014, 6049, 6050), (6068, 1014, 6067, 50), (6088, 1014, 6087, 53), (6079, 1014, 6078, 0), (6111, 1014, 6110, 0), (6076, 1014, 6075, 52), (6092, 1014, 6091, 54), (6177, 1014, 6176, 72), (6108, 1014, 6107, 58), (6117, 1014, 6116, 59), (6121, 1014, 6120, 60), (6124, 1014, 6123, 0), (6132, 1014, 6131, 62), (6128, 1014, 6127, 61), (6104, 1014, 6103, 57), (6100, 1014, 6099, 56), (6136, 1014, 6135, 63), (6096, 1014, 6095, 55), (6144, 1014, 6143, 65), (6150, 1014, 6149, 66), (6154, 1014, 6153, 67), (6140, 1014, 6139, 64)]
set_option maxRecDepth 20000 in
theorem z_wp5_ok : (z_if5.zip z_wp5).all (fun x => z_wd x.1 x.2) = true ∧ z_if5.length = z_wp5.length := by decide +kernel
def z_wp6 : List (Nat × Nat × Nat × Nat) := [(6158, 1014, 6157, 68), (6072, 1014, 6071, 51), (6055, 1014, 6053, 6054), (6181, 1014, 6179, 6180), (6197, 1014, 6196, 75), (6058, 1014, 6057, 0), (6193, 1014, 6192, 74), (6201, 1014, 6200, 76), (6189, 1014, 6188, 73), (6217, 1014, 6216, 77), (6165, 1014, 6164, 0), (6173, 1014, 6172, 71), (6233, 1014, 6232, 81), (6169, 1014, 6168, 70), (6162, 1014, 6161, 69), (6185, 1014, 6183, 6184), (6208, 1014, 6207, 0), (6205, 1014, 6203, 6204), (6229, 1014, 6228, 80), (6225, 1014, 6224, 79), (6237, 1014, 6236, 82), (6221, 1014, 6220, 78), (6213, 1014, 6211, 6212), (7001, 1014, 6239, 7000), (7029, 1014, 7028, 88), (7032, 1014, 7031, 0), (7009, 1014, 7008, 83), (7013, 1014, 7012, 84), (7025, 1014, 7024, 87), (7021, 1014, 7020, 86)]
set_option maxRecDepth 20000 in
theorem z_wp6_ok : (z_if6.zip z_wp6).all (fun x => z_wd x.1 x.2) = true ∧ z_if6.length = z_wp6.length := by decide +kernel
def z_wp7 : List (Nat × Nat × Nat × Nat) := [(7017, 1014, 7016, 85), (7005, 1014, 7003, 7004), (7036, 1014, 7034, 7035), (7040, 1014, 7038, 7039), (7044, 1014, 7042, 7043), (7048, 1014, 7046, 7047), (7052, 1014, 7050, 7051), (7056, 1014, 7054, 7055), (7072, 1014, 7071, 91), (7068, 1014, 7067, 90), (7064, 1014, 7063, 89), (7060, 1014, 7058, 7059), (7076, 1014, 7074, 7075), (7084, 1014, 7083, 92), (7088, 1014, 7087, 93), (7080, 1014, 7078, 7079), (7092, 1014, 7090, 7091), (7096, 1014, 7094, 7095), (7104, 1014, 7103, 94), (7100, 1014, 7098, 7099), (7108, 1014, 7106, 7107), (7124, 1014, 7123, 97), (7132, 1014, 7131, 99), (7136, 1014, 7135, 100), (7128, 1014, 7127, 98), (7120, 1014, 7119, 96), (7116, 1014, 7115, 95), (7112, 1014, 7110, 7111), (7153, 1014, 7152, 103), (7149, 1014, 7148, 102)]
set_option maxRecDepth 20000 in
theorem z_wp7_ok : (z_if7.zip z_wp7).all (fun x => z_wd x.1 x.2) = true ∧ z_if7.length = z_wp7.length := by decide +kernel
def z_wp8 : List (Nat × Nat × Nat × Nat) := [(7145, 1014, 7144, 101), (7141, 1014, 7139, 7140), (7169, 1014, 7168, 105), (7161, 1014, 7160, 104), (7173, 1014, 7172, 106), (7157, 1014, 7155, 7156), (7181, 1014, 7180, 107), (7177, 1014, 7175, 7176), (7185, 1014, 7183, 7184), (7196, 1014, 7195, 0), (7193, 1014, 7192, 108), (7189, 1014, 7187, 7188), (7200, 1014, 7198, 7199), (7164, 1007, 7163, 0), (1167, 1007, 1166, 0), (3203, 1015, 3202, 0), (3189, 1015, 3188, 0), (3027, 1015, 3026, 0), (3048, 1016, 3046, 3047), (3058, 1016, 3056, 3057), (3052, 1016, 3050, 3051), (3062, 1016, 3060, 3061), (3068, 1016, 3067, 0), (3065, 1017, 3064, 0), (3073, 1018, 3072, 0)]
set_option maxRecDepth 20000 in
theorem z_wp8_ok : (z_if8.zip z_wp8).all (fun x => z_wd x.1 x.2) = true ∧ z_if8.length = z_wp8.length := by decide +kernel

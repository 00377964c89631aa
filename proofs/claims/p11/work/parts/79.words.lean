/-! PRINTED BY wip/whole/gen.py: the words on classes and methods, by their places. -/
/-- the words that a method needs -/
def m_cw (M : mM) : Cond := if M.2.2.2.2.1.isEmpty then .code M.1 M.2.1 M.2.2.1 M.2.2.2.1 else .codeWith M.1 M.2.1 M.2.2.1 M.2.2.2.1 (M.2.2.2.2.1.map (fun q => (q.1, q.2.1, q.2.2.1, q.2.2.2 / 1000)))
def m_kw (M : mM) (k : Nat) : List Cond := if k = 0 then [.static M.1, .initialized M.1.cls] else if k = 1 then [.instanceMethod M.1, .selects M.1.cls M.1 M.1] else [.instanceMethod M.1]
theorem ci0 : ∀ w ∈ [Cond.instantiable "java/lang/IndexOutOfBoundsException" 6, .initialized "java/lang/IndexOutOfBoundsException"], w ∈ lw_tbl := m_in _ [397, 97] (by decide +kernel)
theorem ci1 : ∀ w ∈ [Cond.instantiable "java/lang/IllegalArgumentException" 6, .initialized "java/lang/IllegalArgumentException"], w ∈ lw_tbl := m_in _ [473, 98] (by decide +kernel)
theorem ci2 : ∀ w ∈ [Cond.instantiable "java/lang/UnsupportedOperationException" 6, .initialized "java/lang/UnsupportedOperationException"], w ∈ lw_tbl := m_in _ [630, 102] (by decide +kernel)
theorem ci3 : ∀ w ∈ [Cond.instantiable "java/lang/ArithmeticException" 6, .initialized "java/lang/ArithmeticException"], w ∈ lw_tbl := m_in _ [686, 105] (by decide +kernel)
theorem ci4 : ∀ w ∈ [Cond.instantiable "StepBench$Text" 3, .initialized "StepBench$Text"], w ∈ lw_tbl := m_in _ [116, 78] (by decide +kernel)
theorem cw4 : ∀ w ∈ u_ws "StepBench$Text" cT4 3, w ∈ lw_tbl := m_in _ [124, 126, 128] (by decide +kernel)
theorem cn4 : ∀ x, x < 3 → ∀ y, y < 3 → x ≠ y → (cT4 x).2.1 ≠ (cT4 y).2.1 := by decide +kernel
theorem cf4 : (mp_FL 4).length ≤ 3 ∧ m_flk cT4 0 (mp_FL 4) = true ∧ m_tyk cT4 3 = true := by decide +kernel
theorem ci5 : ∀ w ∈ [Cond.instantiable "StepBench" 12, .initialized "StepBench"], w ∈ lw_tbl := m_in _ [108, 77] (by decide +kernel)
theorem cw5 : ∀ w ∈ u_ws "StepBench" cT5 12, w ∈ lw_tbl := m_in _ [359, 361, 363, 365, 367, 369, 371, 373, 375, 377, 379, 381] (by decide +kernel)
theorem cn5 : ∀ x, x < 12 → ∀ y, y < 12 → x ≠ y → (cT5 x).2.1 ≠ (cT5 y).2.1 := by decide +kernel
theorem cf5 : (mp_FL 5).length ≤ 12 ∧ m_flk cT5 0 (mp_FL 5) = true ∧ m_tyk cT5 12 = true := by decide +kernel
theorem ci6 : ∀ w ∈ [Cond.instantiable "StepBench$Order" 2, .initialized "StepBench$Order"], w ∈ lw_tbl := m_in _ [134, 79] (by decide +kernel)
theorem cw6 : ∀ w ∈ u_ws "StepBench$Order" cT6 2, w ∈ lw_tbl := m_in _ [141, 143] (by decide +kernel)
theorem cn6 : ∀ x, x < 2 → ∀ y, y < 2 → x ≠ y → (cT6 x).2.1 ≠ (cT6 y).2.1 := by decide +kernel
theorem cf6 : (mp_FL 6).length ≤ 2 ∧ m_flk cT6 0 (mp_FL 6) = true ∧ m_tyk cT6 2 = true := by decide +kernel
theorem ci7 : ∀ w ∈ [Cond.instantiable "StepBench$Spot" 6, .initialized "StepBench$Spot"], w ∈ lw_tbl := m_in _ [205, 84] (by decide +kernel)
theorem cw7 : ∀ w ∈ u_ws "StepBench$Spot" cT7 6, w ∈ lw_tbl := m_in _ [216, 218, 220, 222, 224, 226] (by decide +kernel)
theorem cn7 : ∀ x, x < 6 → ∀ y, y < 6 → x ≠ y → (cT7 x).2.1 ≠ (cT7 y).2.1 := by decide +kernel
theorem cf7 : (mp_FL 7).length ≤ 6 ∧ m_flk cT7 0 (mp_FL 7) = true ∧ m_tyk cT7 6 = true := by decide +kernel
theorem ci8 : ∀ w ∈ [Cond.instantiable "StepBench$Reader" 4, .initialized "StepBench$Reader"], w ∈ lw_tbl := m_in _ [230, 85] (by decide +kernel)
theorem cw8 : ∀ w ∈ u_ws "StepBench$Reader" cT8 4, w ∈ lw_tbl := m_in _ [239, 241, 243, 245] (by decide +kernel)
theorem cn8 : ∀ x, x < 4 → ∀ y, y < 4 → x ≠ y → (cT8 x).2.1 ≠ (cT8 y).2.1 := by decide +kernel
theorem cf8 : (mp_FL 8).length ≤ 4 ∧ m_flk cT8 0 (mp_FL 8) = true ∧ m_tyk cT8 4 = true := by decide +kernel
theorem ci9 : ∀ w ∈ [Cond.instantiable "StepBench$Putter" 9, .initialized "StepBench$Putter"], w ∈ lw_tbl := m_in _ [249, 86] (by decide +kernel)
theorem cw9 : ∀ w ∈ u_ws "StepBench$Putter" cT9 9, w ∈ lw_tbl := m_in _ [282, 284, 286, 288, 290, 292, 294, 296, 298] (by decide +kernel)
theorem cn9 : ∀ x, x < 9 → ∀ y, y < 9 → x ≠ y → (cT9 x).2.1 ≠ (cT9 y).2.1 := by decide +kernel
theorem cf9 : (mp_FL 9).length ≤ 9 ∧ m_flk cT9 0 (mp_FL 9) = true ∧ m_tyk cT9 9 = true := by decide +kernel
theorem ci10 : ∀ w ∈ [Cond.instantiable "StepBench$Gap" 4, .initialized "StepBench$Gap"], w ∈ lw_tbl := m_in _ [255, 87] (by decide +kernel)
theorem cw10 : ∀ w ∈ u_ws "StepBench$Gap" cT10 4, w ∈ lw_tbl := m_in _ [264, 266, 268, 270] (by decide +kernel)
theorem cn10 : ∀ x, x < 4 → ∀ y, y < 4 → x ≠ y → (cT10 x).2.1 ≠ (cT10 y).2.1 := by decide +kernel
theorem cf10 : (mp_FL 10).length ≤ 4 ∧ m_flk cT10 0 (mp_FL 10) = true ∧ m_tyk cT10 4 = true := by decide +kernel
theorem ci11 : ∀ w ∈ [Cond.instantiable "StepBench$Cutter" 6, .initialized "StepBench$Cutter"], w ∈ lw_tbl := m_in _ [302, 88] (by decide +kernel)
theorem cw11 : ∀ w ∈ u_ws "StepBench$Cutter" cT11 6, w ∈ lw_tbl := m_in _ [315, 317, 319, 321, 323, 325] (by decide +kernel)
theorem cn11 : ∀ x, x < 6 → ∀ y, y < 6 → x ≠ y → (cT11 x).2.1 ≠ (cT11 y).2.1 := by decide +kernel
theorem cf11 : (mp_FL 11).length ≤ 6 ∧ m_flk cT11 0 (mp_FL 11) = true ∧ m_tyk cT11 6 = true := by decide +kernel
theorem ci12 : ∀ w ∈ [Cond.instantiable "StepBench$Lister" 4, .initialized "StepBench$Lister"], w ∈ lw_tbl := m_in _ [329, 89] (by decide +kernel)
theorem cw12 : ∀ w ∈ u_ws "StepBench$Lister" cT12 4, w ∈ lw_tbl := m_in _ [338, 340, 342, 344] (by decide +kernel)
theorem cn12 : ∀ x, x < 4 → ∀ y, y < 4 → x ≠ y → (cT12 x).2.1 ≠ (cT12 y).2.1 := by decide +kernel
theorem cf12 : (mp_FL 12).length ≤ 4 ∧ m_flk cT12 0 (mp_FL 12) = true ∧ m_tyk cT12 4 = true := by decide +kernel
theorem ci13 : ∀ w ∈ [Cond.instantiable "StepBenchModel" 22, .initialized "StepBenchModel"], w ∈ lw_tbl := m_in _ [1122, 90] (by decide +kernel)
theorem cw13 : ∀ w ∈ u_ws "StepBenchModel" cT13 22, w ∈ lw_tbl := m_in _ [1472, 1474, 1476, 1478, 1480, 1482, 1484, 1486, 1488, 1490, 1492, 1494, 1496, 1498, 1500, 1502, 1504, 1506, 1508, 1510, 1512, 1514] (by decide +kernel)
theorem cn13 : ∀ x, x < 22 → ∀ y, y < 22 → x ≠ y → (cT13 x).2.1 ≠ (cT13 y).2.1 := by decide +kernel
theorem cf13 : (mp_FL 13).length ≤ 22 ∧ m_flk cT13 0 (mp_FL 13) = true ∧ m_tyk cT13 22 = true := by decide +kernel
theorem ci14 : ∀ w ∈ [Cond.instantiable "StepBenchModel$Reader" 5, .initialized "StepBenchModel$Reader"], w ∈ lw_tbl := m_in _ [1154, 93] (by decide +kernel)
theorem cw14 : ∀ w ∈ u_ws "StepBenchModel$Reader" cT14 5, w ∈ lw_tbl := m_in _ [1440, 1442, 1444, 1446, 1448] (by decide +kernel)
theorem cn14 : ∀ x, x < 5 → ∀ y, y < 5 → x ≠ y → (cT14 x).2.1 ≠ (cT14 y).2.1 := by decide +kernel
theorem cf14 : (mp_FL 14).length ≤ 5 ∧ m_flk cT14 0 (mp_FL 14) = true ∧ m_tyk cT14 5 = true := by decide +kernel
theorem ci15 : ∀ w ∈ [Cond.instantiable "StepBenchModel$Paper" 3, .initialized "StepBenchModel$Paper"], w ∈ lw_tbl := m_in _ [1337, 92] (by decide +kernel)
theorem cw15 : ∀ w ∈ u_ws "StepBenchModel$Paper" cT15 3, w ∈ lw_tbl := m_in _ [1423, 1425, 1427] (by decide +kernel)
theorem cn15 : ∀ x, x < 3 → ∀ y, y < 3 → x ≠ y → (cT15 x).2.1 ≠ (cT15 y).2.1 := by decide +kernel
theorem cf15 : (mp_FL 15).length ≤ 3 ∧ m_flk cT15 0 (mp_FL 15) = true ∧ m_tyk cT15 3 = true := by decide +kernel
theorem ci16 : ∀ w ∈ [Cond.instantiable "StepBenchModel$Out" 3, .initialized "StepBenchModel$Out"], w ∈ lw_tbl := m_in _ [1392, 91] (by decide +kernel)
theorem cw16 : ∀ w ∈ u_ws "StepBenchModel$Out" cT16 3, w ∈ lw_tbl := m_in _ [1405, 1407, 1409] (by decide +kernel)
theorem cn16 : ∀ x, x < 3 → ∀ y, y < 3 → x ≠ y → (cT16 x).2.1 ≠ (cT16 y).2.1 := by decide +kernel
theorem cf16 : (mp_FL 16).length ≤ 3 ∧ m_flk cT16 0 (mp_FL 16) = true ∧ m_tyk cT16 3 = true := by decide +kernel
set_option maxRecDepth 100000 in
theorem mw0 : ∀ w ∈ m_cw mm0 :: m_kw mm0 2, w ∈ lw_tbl := m_in _ [111, 110] rfl
set_option maxRecDepth 100000 in
theorem mw1 : ∀ w ∈ m_cw mm1 :: m_kw mm1 2, w ∈ lw_tbl := m_in _ [119, 118] rfl
set_option maxRecDepth 100000 in
theorem mw2 : ∀ w ∈ m_cw mm2 :: m_kw mm2 2, w ∈ lw_tbl := m_in _ [137, 136] rfl
set_option maxRecDepth 100000 in
theorem mw3 : ∀ w ∈ m_cw mm3 :: m_kw mm3 1, w ∈ lw_tbl := m_in _ [151, 149, 150] rfl
set_option maxRecDepth 100000 in
theorem mw4 : ∀ w ∈ m_cw mm4 :: m_kw mm4 1, w ∈ lw_tbl := m_in _ [155, 153, 154] rfl
set_option maxRecDepth 100000 in
theorem mw5 : ∀ w ∈ m_cw mm5 :: m_kw mm5 1, w ∈ lw_tbl := m_in _ [159, 157, 158] rfl
set_option maxRecDepth 100000 in
theorem mw6 : ∀ w ∈ m_cw mm6 :: m_kw mm6 1, w ∈ lw_tbl := m_in _ [165, 163, 164] rfl
set_option maxRecDepth 100000 in
theorem mw7 : ∀ w ∈ m_cw mm7 :: m_kw mm7 1, w ∈ lw_tbl := m_in _ [169, 167, 168] rfl
set_option maxRecDepth 100000 in
theorem mw8 : ∀ w ∈ m_cw mm8 :: m_kw mm8 0, w ∈ lw_tbl := m_in _ [172, 171, 81] rfl
set_option maxRecDepth 100000 in
theorem mw9 : ∀ w ∈ m_cw mm9 :: m_kw mm9 0, w ∈ lw_tbl := m_in _ [175, 174, 80] rfl
set_option maxRecDepth 100000 in
theorem mw10 : ∀ w ∈ m_cw mm10 :: m_kw mm10 0, w ∈ lw_tbl := m_in _ [180, 179, 82] rfl
set_option maxRecDepth 100000 in
theorem mw11 : ∀ w ∈ m_cw mm11 :: m_kw mm11 0, w ∈ lw_tbl := m_in _ [183, 182, 83] rfl
set_option maxRecDepth 100000 in
theorem mw12 : ∀ w ∈ m_cw mm12 :: m_kw mm12 0, w ∈ lw_tbl := m_in _ [186, 185, 83] rfl
set_option maxRecDepth 100000 in
theorem mw13 : ∀ w ∈ m_cw mm13 :: m_kw mm13 0, w ∈ lw_tbl := m_in _ [189, 188, 83] rfl
set_option maxRecDepth 100000 in
theorem mw14 : ∀ w ∈ m_cw mm14 :: m_kw mm14 0, w ∈ lw_tbl := m_in _ [193, 192, 83] rfl
set_option maxRecDepth 100000 in
theorem mw15 : ∀ w ∈ m_cw mm15 :: m_kw mm15 1, w ∈ lw_tbl := m_in _ [203, 201, 202] rfl
set_option maxRecDepth 100000 in
theorem mw16 : ∀ w ∈ m_cw mm16 :: m_kw mm16 2, w ∈ lw_tbl := m_in _ [208, 207] rfl
set_option maxRecDepth 100000 in
theorem mw17 : ∀ w ∈ m_cw mm17 :: m_kw mm17 2, w ∈ lw_tbl := m_in _ [233, 232] rfl
set_option maxRecDepth 100000 in
theorem mw18 : ∀ w ∈ m_cw mm18 :: m_kw mm18 2, w ∈ lw_tbl := m_in _ [252, 251] rfl
set_option maxRecDepth 100000 in
theorem mw19 : ∀ w ∈ m_cw mm19 :: m_kw mm19 2, w ∈ lw_tbl := m_in _ [258, 257] rfl
set_option maxRecDepth 100000 in
theorem mw20 : ∀ w ∈ m_cw mm20 :: m_kw mm20 2, w ∈ lw_tbl := m_in _ [305, 304] rfl
set_option maxRecDepth 100000 in
theorem mw21 : ∀ w ∈ m_cw mm21 :: m_kw mm21 2, w ∈ lw_tbl := m_in _ [332, 331] rfl
set_option maxRecDepth 100000 in
theorem mw22 : ∀ w ∈ m_cw mm22 :: m_kw mm22 0, w ∈ lw_tbl := m_in _ [386, 385, 76] rfl
set_option maxRecDepth 100000 in
theorem mw23 : ∀ w ∈ m_cw mm23 :: m_kw mm23 1, w ∈ lw_tbl := m_in _ [391, 389, 390] rfl
set_option maxRecDepth 100000 in
theorem mw24 : ∀ w ∈ m_cw mm24 :: m_kw mm24 1, w ∈ lw_tbl := m_in _ [395, 393, 394] rfl
set_option maxRecDepth 100000 in
theorem mw25 : ∀ w ∈ m_cw mm25 :: m_kw mm25 1, w ∈ lw_tbl := m_in _ [463, 461, 462] rfl
set_option maxRecDepth 100000 in
theorem mw26 : ∀ w ∈ m_cw mm26 :: m_kw mm26 0, w ∈ lw_tbl := m_in _ [466, 465, 76] rfl
set_option maxRecDepth 100000 in
theorem mw27 : ∀ w ∈ m_cw mm27 :: m_kw mm27 1, w ∈ lw_tbl := m_in _ [471, 469, 470] rfl
set_option maxRecDepth 100000 in
theorem mw28 : ∀ w ∈ m_cw mm28 :: m_kw mm28 1, w ∈ lw_tbl := m_in _ [490, 488, 489] rfl
set_option maxRecDepth 100000 in
theorem mw29 : ∀ w ∈ m_cw mm29 :: m_kw mm29 0, w ∈ lw_tbl := m_in _ [493, 492, 99] rfl
set_option maxRecDepth 100000 in
theorem mw30 : ∀ w ∈ m_cw mm30 :: m_kw mm30 0, w ∈ lw_tbl := m_in _ [496, 495, 99] rfl
set_option maxRecDepth 100000 in
theorem mw31 : ∀ w ∈ m_cw mm31 :: m_kw mm31 0, w ∈ lw_tbl := m_in _ [499, 498, 76] rfl
set_option maxRecDepth 100000 in
theorem mw32 : ∀ w ∈ m_cw mm32 :: m_kw mm32 1, w ∈ lw_tbl := m_in _ [504, 502, 503] rfl
set_option maxRecDepth 100000 in
theorem mw33 : ∀ w ∈ m_cw mm33 :: m_kw mm33 0, w ∈ lw_tbl := m_in _ [507, 506, 77] rfl
set_option maxRecDepth 100000 in
theorem mw34 : ∀ w ∈ m_cw mm34 :: m_kw mm34 1, w ∈ lw_tbl := m_in _ [511, 509, 510] rfl
set_option maxRecDepth 100000 in
theorem mw35 : ∀ w ∈ m_cw mm35 :: m_kw mm35 1, w ∈ lw_tbl := m_in _ [515, 513, 514] rfl
set_option maxRecDepth 100000 in
theorem mw36 : ∀ w ∈ m_cw mm36 :: m_kw mm36 1, w ∈ lw_tbl := m_in _ [519, 518, 1] rfl
set_option maxRecDepth 100000 in
theorem mw37 : ∀ w ∈ m_cw mm37 :: m_kw mm37 1, w ∈ lw_tbl := m_in _ [524, 522, 523] rfl
set_option maxRecDepth 100000 in
theorem mw38 : ∀ w ∈ m_cw mm38 :: m_kw mm38 0, w ∈ lw_tbl := m_in _ [527, 526, 100] rfl
set_option maxRecDepth 100000 in
theorem mw39 : ∀ w ∈ m_cw mm39 :: m_kw mm39 1, w ∈ lw_tbl := m_in _ [531, 530, 2] rfl
set_option maxRecDepth 100000 in
theorem mw40 : ∀ w ∈ m_cw mm40 :: m_kw mm40 1, w ∈ lw_tbl := m_in _ [535, 534, 3] rfl
set_option maxRecDepth 100000 in
theorem mw41 : ∀ w ∈ m_cw mm41 :: m_kw mm41 1, w ∈ lw_tbl := m_in _ [539, 538, 4] rfl
set_option maxRecDepth 100000 in
theorem mw42 : ∀ w ∈ m_cw mm42 :: m_kw mm42 1, w ∈ lw_tbl := m_in _ [543, 542, 5] rfl
set_option maxRecDepth 100000 in
theorem mw43 : ∀ w ∈ m_cw mm43 :: m_kw mm43 1, w ∈ lw_tbl := m_in _ [548, 547, 6] rfl
set_option maxRecDepth 100000 in
theorem mw44 : ∀ w ∈ m_cw mm44 :: m_kw mm44 1, w ∈ lw_tbl := m_in _ [552, 551, 7] rfl
set_option maxRecDepth 100000 in
theorem mw45 : ∀ w ∈ m_cw mm45 :: m_kw mm45 1, w ∈ lw_tbl := m_in _ [556, 555, 8] rfl
set_option maxRecDepth 100000 in
theorem mw46 : ∀ w ∈ m_cw mm46 :: m_kw mm46 1, w ∈ lw_tbl := m_in _ [560, 559, 9] rfl
set_option maxRecDepth 100000 in
theorem mw47 : ∀ w ∈ m_cw mm47 :: m_kw mm47 0, w ∈ lw_tbl := m_in _ [563, 562, 100] rfl
set_option maxRecDepth 100000 in
theorem mw48 : ∀ w ∈ m_cw mm48 :: m_kw mm48 0, w ∈ lw_tbl := m_in _ [566, 565, 100] rfl
set_option maxRecDepth 100000 in
theorem mw49 : ∀ w ∈ m_cw mm49 :: m_kw mm49 1, w ∈ lw_tbl := m_in _ [570, 569, 10] rfl
set_option maxRecDepth 100000 in
theorem mw50 : ∀ w ∈ m_cw mm50 :: m_kw mm50 1, w ∈ lw_tbl := m_in _ [574, 572, 573] rfl
set_option maxRecDepth 100000 in
theorem mw51 : ∀ w ∈ m_cw mm51 :: m_kw mm51 0, w ∈ lw_tbl := m_in _ [577, 576, 100] rfl
set_option maxRecDepth 100000 in
theorem mw52 : ∀ w ∈ m_cw mm52 :: m_kw mm52 0, w ∈ lw_tbl := m_in _ [580, 579, 100] rfl
set_option maxRecDepth 100000 in
theorem mw53 : ∀ w ∈ m_cw mm53 :: m_kw mm53 1, w ∈ lw_tbl := m_in _ [584, 583, 11] rfl
set_option maxRecDepth 100000 in
theorem mw54 : ∀ w ∈ m_cw mm54 :: m_kw mm54 1, w ∈ lw_tbl := m_in _ [588, 586, 587] rfl
set_option maxRecDepth 100000 in
theorem mw55 : ∀ w ∈ m_cw mm55 :: m_kw mm55 1, w ∈ lw_tbl := m_in _ [593, 591, 592] rfl
set_option maxRecDepth 100000 in
theorem mw56 : ∀ w ∈ m_cw mm56 :: m_kw mm56 1, w ∈ lw_tbl := m_in _ [597, 596, 12] rfl
set_option maxRecDepth 100000 in
theorem mw57 : ∀ w ∈ m_cw mm57 :: m_kw mm57 1, w ∈ lw_tbl := m_in _ [602, 601, 13] rfl
set_option maxRecDepth 100000 in
theorem mw58 : ∀ w ∈ m_cw mm58 :: m_kw mm58 1, w ∈ lw_tbl := m_in _ [610, 609, 14] rfl
set_option maxRecDepth 100000 in
theorem mw59 : ∀ w ∈ m_cw mm59 :: m_kw mm59 0, w ∈ lw_tbl := m_in _ [613, 612, 100] rfl
set_option maxRecDepth 100000 in
theorem mw60 : ∀ w ∈ m_cw mm60 :: m_kw mm60 1, w ∈ lw_tbl := m_in _ [617, 616, 15] rfl
set_option maxRecDepth 100000 in
theorem mw61 : ∀ w ∈ m_cw mm61 :: m_kw mm61 1, w ∈ lw_tbl := m_in _ [624, 622, 623] rfl
set_option maxRecDepth 100000 in
theorem mw62 : ∀ w ∈ m_cw mm62 :: m_kw mm62 1, w ∈ lw_tbl := m_in _ [647, 646, 16] rfl
set_option maxRecDepth 100000 in
theorem mw63 : ∀ w ∈ m_cw mm63 :: m_kw mm63 1, w ∈ lw_tbl := m_in _ [651, 649, 650] rfl
set_option maxRecDepth 100000 in
theorem mw64 : ∀ w ∈ m_cw mm64 :: m_kw mm64 1, w ∈ lw_tbl := m_in _ [655, 653, 654] rfl
set_option maxRecDepth 100000 in
theorem mw65 : ∀ w ∈ m_cw mm65 :: m_kw mm65 0, w ∈ lw_tbl := m_in _ [658, 657, 76] rfl
set_option maxRecDepth 100000 in
theorem mw66 : ∀ w ∈ m_cw mm66 :: m_kw mm66 1, w ∈ lw_tbl := m_in _ [662, 660, 661] rfl
set_option maxRecDepth 100000 in
theorem mw67 : ∀ w ∈ m_cw mm67 :: m_kw mm67 1, w ∈ lw_tbl := m_in _ [666, 664, 665] rfl
set_option maxRecDepth 100000 in
theorem mw68 : ∀ w ∈ m_cw mm68 :: m_kw mm68 0, w ∈ lw_tbl := m_in _ [671, 670, 76] rfl
set_option maxRecDepth 100000 in
theorem mw69 : ∀ w ∈ m_cw mm69 :: m_kw mm69 1, w ∈ lw_tbl := m_in _ [676, 674, 675] rfl
set_option maxRecDepth 100000 in
theorem mw70 : ∀ w ∈ m_cw mm70 :: m_kw mm70 1, w ∈ lw_tbl := m_in _ [680, 678, 679] rfl
set_option maxRecDepth 100000 in
theorem mw71 : ∀ w ∈ m_cw mm71 :: m_kw mm71 1, w ∈ lw_tbl := m_in _ [684, 683, 17] rfl
set_option maxRecDepth 100000 in
theorem mw72 : ∀ w ∈ m_cw mm72 :: m_kw mm72 1, w ∈ lw_tbl := m_in _ [703, 701, 702] rfl
set_option maxRecDepth 100000 in
theorem mw73 : ∀ w ∈ m_cw mm73 :: m_kw mm73 1, w ∈ lw_tbl := m_in _ [707, 705, 706] rfl
set_option maxRecDepth 100000 in
theorem mw74 : ∀ w ∈ m_cw mm74 :: m_kw mm74 1, w ∈ lw_tbl := m_in _ [711, 709, 710] rfl
set_option maxRecDepth 100000 in
theorem mw75 : ∀ w ∈ m_cw mm75 :: m_kw mm75 1, w ∈ lw_tbl := m_in _ [715, 713, 714] rfl
set_option maxRecDepth 100000 in
theorem mw76 : ∀ w ∈ m_cw mm76 :: m_kw mm76 1, w ∈ lw_tbl := m_in _ [719, 717, 718] rfl
set_option maxRecDepth 100000 in
theorem mw77 : ∀ w ∈ m_cw mm77 :: m_kw mm77 1, w ∈ lw_tbl := m_in _ [724, 723, 18] rfl
set_option maxRecDepth 100000 in
theorem mw78 : ∀ w ∈ m_cw mm78 :: m_kw mm78 1, w ∈ lw_tbl := m_in _ [728, 726, 727] rfl
set_option maxRecDepth 100000 in
theorem mw79 : ∀ w ∈ m_cw mm79 :: m_kw mm79 1, w ∈ lw_tbl := m_in _ [732, 731, 19] rfl
set_option maxRecDepth 100000 in
theorem mw80 : ∀ w ∈ m_cw mm80 :: m_kw mm80 1, w ∈ lw_tbl := m_in _ [736, 734, 735] rfl
set_option maxRecDepth 100000 in
theorem mw81 : ∀ w ∈ m_cw mm81 :: m_kw mm81 1, w ∈ lw_tbl := m_in _ [742, 740, 741] rfl
set_option maxRecDepth 100000 in
theorem mw82 : ∀ w ∈ m_cw mm82 :: m_kw mm82 1, w ∈ lw_tbl := m_in _ [746, 744, 745] rfl
set_option maxRecDepth 100000 in
theorem mw83 : ∀ w ∈ m_cw mm83 :: m_kw mm83 1, w ∈ lw_tbl := m_in _ [750, 748, 749] rfl
set_option maxRecDepth 100000 in
theorem mw84 : ∀ w ∈ m_cw mm84 :: m_kw mm84 1, w ∈ lw_tbl := m_in _ [754, 752, 753] rfl
set_option maxRecDepth 100000 in
theorem mw85 : ∀ w ∈ m_cw mm85 :: m_kw mm85 1, w ∈ lw_tbl := m_in _ [760, 759, 20] rfl
set_option maxRecDepth 100000 in
theorem mw86 : ∀ w ∈ m_cw mm86 :: m_kw mm86 1, w ∈ lw_tbl := m_in _ [764, 762, 763] rfl
set_option maxRecDepth 100000 in
theorem mw87 : ∀ w ∈ m_cw mm87 :: m_kw mm87 0, w ∈ lw_tbl := m_in _ [767, 766, 84] rfl
set_option maxRecDepth 100000 in
theorem mw88 : ∀ w ∈ m_cw mm88 :: m_kw mm88 1, w ∈ lw_tbl := m_in _ [771, 769, 770] rfl
set_option maxRecDepth 100000 in
theorem mw89 : ∀ w ∈ m_cw mm89 :: m_kw mm89 1, w ∈ lw_tbl := m_in _ [775, 774, 21] rfl
set_option maxRecDepth 100000 in
theorem mw90 : ∀ w ∈ m_cw mm90 :: m_kw mm90 1, w ∈ lw_tbl := m_in _ [780, 778, 779] rfl
set_option maxRecDepth 100000 in
theorem mw91 : ∀ w ∈ m_cw mm91 :: m_kw mm91 1, w ∈ lw_tbl := m_in _ [784, 783, 22] rfl
set_option maxRecDepth 100000 in
theorem mw92 : ∀ w ∈ m_cw mm92 :: m_kw mm92 0, w ∈ lw_tbl := m_in _ [788, 787, 84] rfl
set_option maxRecDepth 100000 in
theorem mw93 : ∀ w ∈ m_cw mm93 :: m_kw mm93 1, w ∈ lw_tbl := m_in _ [792, 790, 791] rfl
set_option maxRecDepth 100000 in
theorem mw94 : ∀ w ∈ m_cw mm94 :: m_kw mm94 1, w ∈ lw_tbl := m_in _ [796, 794, 795] rfl
set_option maxRecDepth 100000 in
theorem mw95 : ∀ w ∈ m_cw mm95 :: m_kw mm95 0, w ∈ lw_tbl := m_in _ [799, 798, 84] rfl
set_option maxRecDepth 100000 in
theorem mw96 : ∀ w ∈ m_cw mm96 :: m_kw mm96 0, w ∈ lw_tbl := m_in _ [802, 801, 99] rfl
set_option maxRecDepth 100000 in
theorem mw97 : ∀ w ∈ m_cw mm97 :: m_kw mm97 0, w ∈ lw_tbl := m_in _ [805, 804, 99] rfl
set_option maxRecDepth 100000 in
theorem mw98 : ∀ w ∈ m_cw mm98 :: m_kw mm98 1, w ∈ lw_tbl := m_in _ [811, 809, 810] rfl
set_option maxRecDepth 100000 in
theorem mw99 : ∀ w ∈ m_cw mm99 :: m_kw mm99 1, w ∈ lw_tbl := m_in _ [815, 813, 814] rfl
set_option maxRecDepth 100000 in
theorem mw100 : ∀ w ∈ m_cw mm100 :: m_kw mm100 1, w ∈ lw_tbl := m_in _ [824, 822, 823] rfl
set_option maxRecDepth 100000 in
theorem mw101 : ∀ w ∈ m_cw mm101 :: m_kw mm101 0, w ∈ lw_tbl := m_in _ [828, 827, 76] rfl
set_option maxRecDepth 100000 in
theorem mw102 : ∀ w ∈ m_cw mm102 :: m_kw mm102 1, w ∈ lw_tbl := m_in _ [832, 830, 831] rfl
set_option maxRecDepth 100000 in
theorem mw103 : ∀ w ∈ m_cw mm103 :: m_kw mm103 1, w ∈ lw_tbl := m_in _ [836, 834, 835] rfl
set_option maxRecDepth 100000 in
theorem mw104 : ∀ w ∈ m_cw mm104 :: m_kw mm104 1, w ∈ lw_tbl := m_in _ [842, 841, 23] rfl
set_option maxRecDepth 100000 in
theorem mw105 : ∀ w ∈ m_cw mm105 :: m_kw mm105 1, w ∈ lw_tbl := m_in _ [849, 848, 24] rfl
set_option maxRecDepth 100000 in
theorem mw106 : ∀ w ∈ m_cw mm106 :: m_kw mm106 1, w ∈ lw_tbl := m_in _ [853, 851, 852] rfl
set_option maxRecDepth 100000 in
theorem mw107 : ∀ w ∈ m_cw mm107 :: m_kw mm107 1, w ∈ lw_tbl := m_in _ [858, 857, 25] rfl
set_option maxRecDepth 100000 in
theorem mw108 : ∀ w ∈ m_cw mm108 :: m_kw mm108 1, w ∈ lw_tbl := m_in _ [862, 860, 861] rfl
set_option maxRecDepth 100000 in
theorem mw109 : ∀ w ∈ m_cw mm109 :: m_kw mm109 1, w ∈ lw_tbl := m_in _ [867, 865, 866] rfl
set_option maxRecDepth 100000 in
theorem mw110 : ∀ w ∈ m_cw mm110 :: m_kw mm110 1, w ∈ lw_tbl := m_in _ [871, 870, 26] rfl
set_option maxRecDepth 100000 in
theorem mw111 : ∀ w ∈ m_cw mm111 :: m_kw mm111 1, w ∈ lw_tbl := m_in _ [875, 873, 874] rfl
set_option maxRecDepth 100000 in
theorem mw112 : ∀ w ∈ m_cw mm112 :: m_kw mm112 1, w ∈ lw_tbl := m_in _ [880, 878, 879] rfl
set_option maxRecDepth 100000 in
theorem mw113 : ∀ w ∈ m_cw mm113 :: m_kw mm113 1, w ∈ lw_tbl := m_in _ [885, 884, 27] rfl
set_option maxRecDepth 100000 in
theorem mw114 : ∀ w ∈ m_cw mm114 :: m_kw mm114 1, w ∈ lw_tbl := m_in _ [889, 888, 28] rfl
set_option maxRecDepth 100000 in
theorem mw115 : ∀ w ∈ m_cw mm115 :: m_kw mm115 1, w ∈ lw_tbl := m_in _ [893, 892, 29] rfl
set_option maxRecDepth 100000 in
theorem mw116 : ∀ w ∈ m_cw mm116 :: m_kw mm116 1, w ∈ lw_tbl := m_in _ [899, 898, 30] rfl
set_option maxRecDepth 100000 in
theorem mw117 : ∀ w ∈ m_cw mm117 :: m_kw mm117 0, w ∈ lw_tbl := m_in _ [905, 904, 84] rfl
set_option maxRecDepth 100000 in
theorem mw118 : ∀ w ∈ m_cw mm118 :: m_kw mm118 1, w ∈ lw_tbl := m_in _ [909, 908, 31] rfl
set_option maxRecDepth 100000 in
theorem mw119 : ∀ w ∈ m_cw mm119 :: m_kw mm119 1, w ∈ lw_tbl := m_in _ [914, 912, 913] rfl
set_option maxRecDepth 100000 in
theorem mw120 : ∀ w ∈ m_cw mm120 :: m_kw mm120 1, w ∈ lw_tbl := m_in _ [918, 916, 917] rfl
set_option maxRecDepth 100000 in
theorem mw121 : ∀ w ∈ m_cw mm121 :: m_kw mm121 1, w ∈ lw_tbl := m_in _ [925, 923, 924] rfl
set_option maxRecDepth 100000 in
theorem mw122 : ∀ w ∈ m_cw mm122 :: m_kw mm122 1, w ∈ lw_tbl := m_in _ [935, 934, 32] rfl
set_option maxRecDepth 100000 in
theorem mw123 : ∀ w ∈ m_cw mm123 :: m_kw mm123 1, w ∈ lw_tbl := m_in _ [939, 937, 938] rfl
set_option maxRecDepth 100000 in
theorem mw124 : ∀ w ∈ m_cw mm124 :: m_kw mm124 1, w ∈ lw_tbl := m_in _ [945, 943, 944] rfl
set_option maxRecDepth 100000 in
theorem mw125 : ∀ w ∈ m_cw mm125 :: m_kw mm125 1, w ∈ lw_tbl := m_in _ [951, 950, 33] rfl
set_option maxRecDepth 100000 in
theorem mw126 : ∀ w ∈ m_cw mm126 :: m_kw mm126 1, w ∈ lw_tbl := m_in _ [955, 954, 34] rfl
set_option maxRecDepth 100000 in
theorem mw127 : ∀ w ∈ m_cw mm127 :: m_kw mm127 1, w ∈ lw_tbl := m_in _ [959, 957, 958] rfl
set_option maxRecDepth 100000 in
theorem mw128 : ∀ w ∈ m_cw mm128 :: m_kw mm128 1, w ∈ lw_tbl := m_in _ [963, 961, 962] rfl
set_option maxRecDepth 100000 in
theorem mw129 : ∀ w ∈ m_cw mm129 :: m_kw mm129 0, w ∈ lw_tbl := m_in _ [966, 965, 76] rfl
set_option maxRecDepth 100000 in
theorem mw130 : ∀ w ∈ m_cw mm130 :: m_kw mm130 1, w ∈ lw_tbl := m_in _ [970, 968, 969] rfl
set_option maxRecDepth 100000 in
theorem mw131 : ∀ w ∈ m_cw mm131 :: m_kw mm131 1, w ∈ lw_tbl := m_in _ [974, 972, 973] rfl
set_option maxRecDepth 100000 in
theorem mw132 : ∀ w ∈ m_cw mm132 :: m_kw mm132 1, w ∈ lw_tbl := m_in _ [982, 980, 981] rfl
set_option maxRecDepth 100000 in
theorem mw133 : ∀ w ∈ m_cw mm133 :: m_kw mm133 1, w ∈ lw_tbl := m_in _ [986, 984, 985] rfl
set_option maxRecDepth 100000 in
theorem mw134 : ∀ w ∈ m_cw mm134 :: m_kw mm134 1, w ∈ lw_tbl := m_in _ [990, 988, 989] rfl
set_option maxRecDepth 100000 in
theorem mw135 : ∀ w ∈ m_cw mm135 :: m_kw mm135 1, w ∈ lw_tbl := m_in _ [995, 994, 35] rfl
set_option maxRecDepth 100000 in
theorem mw136 : ∀ w ∈ m_cw mm136 :: m_kw mm136 0, w ∈ lw_tbl := m_in _ [999, 998, 104] rfl
set_option maxRecDepth 100000 in
theorem mw137 : ∀ w ∈ m_cw mm137 :: m_kw mm137 0, w ∈ lw_tbl := m_in _ [1003, 1002, 106] rfl
set_option maxRecDepth 100000 in
theorem mw138 : ∀ w ∈ m_cw mm138 :: m_kw mm138 0, w ∈ lw_tbl := m_in _ [1006, 1005, 79] rfl
set_option maxRecDepth 100000 in
theorem mw139 : ∀ w ∈ m_cw mm139 :: m_kw mm139 1, w ∈ lw_tbl := m_in _ [1010, 1008, 1009] rfl
set_option maxRecDepth 100000 in
theorem mw140 : ∀ w ∈ m_cw mm140 :: m_kw mm140 1, w ∈ lw_tbl := m_in _ [1017, 1016, 36] rfl
set_option maxRecDepth 100000 in
theorem mw141 : ∀ w ∈ m_cw mm141 :: m_kw mm141 1, w ∈ lw_tbl := m_in _ [1024, 1023, 37] rfl
set_option maxRecDepth 100000 in
theorem mw142 : ∀ w ∈ m_cw mm142 :: m_kw mm142 1, w ∈ lw_tbl := m_in _ [1028, 1027, 38] rfl
set_option maxRecDepth 100000 in
theorem mw143 : ∀ w ∈ m_cw mm143 :: m_kw mm143 1, w ∈ lw_tbl := m_in _ [1032, 1031, 39] rfl
set_option maxRecDepth 100000 in
theorem mw144 : ∀ w ∈ m_cw mm144 :: m_kw mm144 1, w ∈ lw_tbl := m_in _ [1039, 1037, 1038] rfl
set_option maxRecDepth 100000 in
theorem mw145 : ∀ w ∈ m_cw mm145 :: m_kw mm145 1, w ∈ lw_tbl := m_in _ [1054, 1052, 1053] rfl
set_option maxRecDepth 100000 in
theorem mw146 : ∀ w ∈ m_cw mm146 :: m_kw mm146 0, w ∈ lw_tbl := m_in _ [1057, 1056, 76] rfl
set_option maxRecDepth 100000 in
theorem mw147 : ∀ w ∈ m_cw mm147 :: m_kw mm147 1, w ∈ lw_tbl := m_in _ [1061, 1059, 1060] rfl
set_option maxRecDepth 100000 in
theorem mw148 : ∀ w ∈ m_cw mm148 :: m_kw mm148 1, w ∈ lw_tbl := m_in _ [1065, 1063, 1064] rfl
set_option maxRecDepth 100000 in
theorem mw149 : ∀ w ∈ m_cw mm149 :: m_kw mm149 1, w ∈ lw_tbl := m_in _ [1071, 1070, 40] rfl
set_option maxRecDepth 100000 in
theorem mw150 : ∀ w ∈ m_cw mm150 :: m_kw mm150 1, w ∈ lw_tbl := m_in _ [1075, 1074, 41] rfl
set_option maxRecDepth 100000 in
theorem mw151 : ∀ w ∈ m_cw mm151 :: m_kw mm151 1, w ∈ lw_tbl := m_in _ [1079, 1077, 1078] rfl
set_option maxRecDepth 100000 in
theorem mw152 : ∀ w ∈ m_cw mm152 :: m_kw mm152 0, w ∈ lw_tbl := m_in _ [1089, 1088, 76] rfl
set_option maxRecDepth 100000 in
theorem mw153 : ∀ w ∈ m_cw mm153 :: m_kw mm153 1, w ∈ lw_tbl := m_in _ [1093, 1091, 1092] rfl
set_option maxRecDepth 100000 in
theorem mw154 : ∀ w ∈ m_cw mm154 :: m_kw mm154 0, w ∈ lw_tbl := m_in _ [1097, 1096, 76] rfl
set_option maxRecDepth 100000 in
theorem mw155 : ∀ w ∈ m_cw mm155 :: m_kw mm155 1, w ∈ lw_tbl := m_in _ [1101, 1099, 1100] rfl
set_option maxRecDepth 100000 in
theorem mw156 : ∀ w ∈ m_cw mm156 :: m_kw mm156 0, w ∈ lw_tbl := m_in _ [1106, 1105, 76] rfl
set_option maxRecDepth 100000 in
theorem mw157 : ∀ w ∈ m_cw mm157 :: m_kw mm157 1, w ∈ lw_tbl := m_in _ [1110, 1108, 1109] rfl
set_option maxRecDepth 100000 in
theorem mw158 : ∀ w ∈ m_cw mm158 :: m_kw mm158 1, w ∈ lw_tbl := m_in _ [1114, 1112, 1113] rfl
set_option maxRecDepth 100000 in
theorem mw159 : ∀ w ∈ m_cw mm159 :: m_kw mm159 1, w ∈ lw_tbl := m_in _ [1118, 1116, 1117] rfl
set_option maxRecDepth 100000 in
theorem mw160 : ∀ w ∈ m_cw mm160 :: m_kw mm160 1, w ∈ lw_tbl := m_in _ [1123, 1121, 42] rfl
set_option maxRecDepth 100000 in
theorem mw161 : ∀ w ∈ m_cw mm161 :: m_kw mm161 1, w ∈ lw_tbl := m_in _ [1127, 1126, 43] rfl
set_option maxRecDepth 100000 in
theorem mw162 : ∀ w ∈ m_cw mm162 :: m_kw mm162 1, w ∈ lw_tbl := m_in _ [1131, 1129, 1130] rfl
set_option maxRecDepth 100000 in
theorem mw163 : ∀ w ∈ m_cw mm163 :: m_kw mm163 1, w ∈ lw_tbl := m_in _ [1135, 1133, 1134] rfl
set_option maxRecDepth 100000 in
theorem mw164 : ∀ w ∈ m_cw mm164 :: m_kw mm164 1, w ∈ lw_tbl := m_in _ [1139, 1138, 44] rfl
set_option maxRecDepth 100000 in
theorem mw165 : ∀ w ∈ m_cw mm165 :: m_kw mm165 1, w ∈ lw_tbl := m_in _ [1143, 1141, 1142] rfl
set_option maxRecDepth 100000 in
theorem mw166 : ∀ w ∈ m_cw mm166 :: m_kw mm166 0, w ∈ lw_tbl := m_in _ [1146, 1145, 90] rfl
set_option maxRecDepth 100000 in
theorem mw167 : ∀ w ∈ m_cw mm167 :: m_kw mm167 1, w ∈ lw_tbl := m_in _ [1150, 1148, 1149] rfl
set_option maxRecDepth 100000 in
theorem mw168 : ∀ w ∈ m_cw mm168 :: m_kw mm168 1, w ∈ lw_tbl := m_in _ [1155, 1153, 45] rfl
set_option maxRecDepth 100000 in
theorem mw169 : ∀ w ∈ m_cw mm169 :: m_kw mm169 1, w ∈ lw_tbl := m_in _ [1159, 1158, 46] rfl
set_option maxRecDepth 100000 in
theorem mw170 : ∀ w ∈ m_cw mm170 :: m_kw mm170 1, w ∈ lw_tbl := m_in _ [1163, 1162, 47] rfl
set_option maxRecDepth 100000 in
theorem mw171 : ∀ w ∈ m_cw mm171 :: m_kw mm171 1, w ∈ lw_tbl := m_in _ [1168, 1167, 48] rfl
set_option maxRecDepth 100000 in
theorem mw172 : ∀ w ∈ m_cw mm172 :: m_kw mm172 1, w ∈ lw_tbl := m_in _ [1174, 1173, 49] rfl
set_option maxRecDepth 100000 in
theorem mw173 : ∀ w ∈ m_cw mm173 :: m_kw mm173 1, w ∈ lw_tbl := m_in _ [1178, 1176, 1177] rfl
set_option maxRecDepth 100000 in
theorem mw174 : ∀ w ∈ m_cw mm174 :: m_kw mm174 1, w ∈ lw_tbl := m_in _ [1182, 1180, 1181] rfl
set_option maxRecDepth 100000 in
theorem mw175 : ∀ w ∈ m_cw mm175 :: m_kw mm175 1, w ∈ lw_tbl := m_in _ [1186, 1184, 1185] rfl
set_option maxRecDepth 100000 in
theorem mw176 : ∀ w ∈ m_cw mm176 :: m_kw mm176 1, w ∈ lw_tbl := m_in _ [1190, 1188, 1189] rfl
set_option maxRecDepth 100000 in
theorem mw177 : ∀ w ∈ m_cw mm177 :: m_kw mm177 1, w ∈ lw_tbl := m_in _ [1196, 1195, 50] rfl
set_option maxRecDepth 100000 in
theorem mw178 : ∀ w ∈ m_cw mm178 :: m_kw mm178 1, w ∈ lw_tbl := m_in _ [1201, 1200, 51] rfl
set_option maxRecDepth 100000 in
theorem mw179 : ∀ w ∈ m_cw mm179 :: m_kw mm179 0, w ∈ lw_tbl := m_in _ [1204, 1203, 93] rfl
set_option maxRecDepth 100000 in
theorem mw180 : ∀ w ∈ m_cw mm180 :: m_kw mm180 1, w ∈ lw_tbl := m_in _ [1210, 1208, 1209] rfl
set_option maxRecDepth 100000 in
theorem mw181 : ∀ w ∈ m_cw mm181 :: m_kw mm181 1, w ∈ lw_tbl := m_in _ [1214, 1212, 1213] rfl
set_option maxRecDepth 100000 in
theorem mw182 : ∀ w ∈ m_cw mm182 :: m_kw mm182 0, w ∈ lw_tbl := m_in _ [1218, 1217, 81] rfl
set_option maxRecDepth 100000 in
theorem mw183 : ∀ w ∈ m_cw mm183 :: m_kw mm183 0, w ∈ lw_tbl := m_in _ [1221, 1220, 81] rfl
set_option maxRecDepth 100000 in
theorem mw184 : ∀ w ∈ m_cw mm184 :: m_kw mm184 0, w ∈ lw_tbl := m_in _ [1226, 1225, 81] rfl
set_option maxRecDepth 100000 in
theorem mw185 : ∀ w ∈ m_cw mm185 :: m_kw mm185 0, w ∈ lw_tbl := m_in _ [1229, 1228, 83] rfl
set_option maxRecDepth 100000 in
theorem mw186 : ∀ w ∈ m_cw mm186 :: m_kw mm186 0, w ∈ lw_tbl := m_in _ [1235, 1234, 83] rfl
set_option maxRecDepth 100000 in
theorem mw187 : ∀ w ∈ m_cw mm187 :: m_kw mm187 0, w ∈ lw_tbl := m_in _ [1238, 1237, 83] rfl
set_option maxRecDepth 100000 in
theorem mw188 : ∀ w ∈ m_cw mm188 :: m_kw mm188 0, w ∈ lw_tbl := m_in _ [1241, 1240, 80] rfl
set_option maxRecDepth 100000 in
theorem mw189 : ∀ w ∈ m_cw mm189 :: m_kw mm189 0, w ∈ lw_tbl := m_in _ [1244, 1243, 82] rfl
set_option maxRecDepth 100000 in
theorem mw190 : ∀ w ∈ m_cw mm190 :: m_kw mm190 0, w ∈ lw_tbl := m_in _ [1247, 1246, 83] rfl
set_option maxRecDepth 100000 in
theorem mw191 : ∀ w ∈ m_cw mm191 :: m_kw mm191 0, w ∈ lw_tbl := m_in _ [1250, 1249, 83] rfl
set_option maxRecDepth 100000 in
theorem mw192 : ∀ w ∈ m_cw mm192 :: m_kw mm192 0, w ∈ lw_tbl := m_in _ [1253, 1252, 103] rfl
set_option maxRecDepth 100000 in
theorem mw193 : ∀ w ∈ m_cw mm193 :: m_kw mm193 0, w ∈ lw_tbl := m_in _ [1256, 1255, 103] rfl
set_option maxRecDepth 100000 in
theorem mw194 : ∀ w ∈ m_cw mm194 :: m_kw mm194 0, w ∈ lw_tbl := m_in _ [1260, 1259, 103] rfl
set_option maxRecDepth 100000 in
theorem mw195 : ∀ w ∈ m_cw mm195 :: m_kw mm195 0, w ∈ lw_tbl := m_in _ [1264, 1263, 93] rfl
set_option maxRecDepth 100000 in
theorem mw196 : ∀ w ∈ m_cw mm196 :: m_kw mm196 1, w ∈ lw_tbl := m_in _ [1269, 1268, 52] rfl
set_option maxRecDepth 100000 in
theorem mw197 : ∀ w ∈ m_cw mm197 :: m_kw mm197 1, w ∈ lw_tbl := m_in _ [1273, 1272, 53] rfl
set_option maxRecDepth 100000 in
theorem mw198 : ∀ w ∈ m_cw mm198 :: m_kw mm198 0, w ∈ lw_tbl := m_in _ [1276, 1275, 90] rfl
set_option maxRecDepth 100000 in
theorem mw199 : ∀ w ∈ m_cw mm199 :: m_kw mm199 0, w ∈ lw_tbl := m_in _ [1280, 1279, 90] rfl
set_option maxRecDepth 100000 in
theorem mw200 : ∀ w ∈ m_cw mm200 :: m_kw mm200 1, w ∈ lw_tbl := m_in _ [1284, 1283, 54] rfl
set_option maxRecDepth 100000 in
theorem mw201 : ∀ w ∈ m_cw mm201 :: m_kw mm201 1, w ∈ lw_tbl := m_in _ [1288, 1287, 55] rfl
set_option maxRecDepth 100000 in
theorem mw202 : ∀ w ∈ m_cw mm202 :: m_kw mm202 1, w ∈ lw_tbl := m_in _ [1295, 1293, 1294] rfl
set_option maxRecDepth 100000 in
theorem mw203 : ∀ w ∈ m_cw mm203 :: m_kw mm203 1, w ∈ lw_tbl := m_in _ [1299, 1298, 56] rfl
set_option maxRecDepth 100000 in
theorem mw204 : ∀ w ∈ m_cw mm204 :: m_kw mm204 1, w ∈ lw_tbl := m_in _ [1304, 1302, 1303] rfl
set_option maxRecDepth 100000 in
theorem mw205 : ∀ w ∈ m_cw mm205 :: m_kw mm205 1, w ∈ lw_tbl := m_in _ [1308, 1306, 1307] rfl
set_option maxRecDepth 100000 in
theorem mw206 : ∀ w ∈ m_cw mm206 :: m_kw mm206 1, w ∈ lw_tbl := m_in _ [1314, 1312, 1313] rfl
set_option maxRecDepth 100000 in
theorem mw207 : ∀ w ∈ m_cw mm207 :: m_kw mm207 1, w ∈ lw_tbl := m_in _ [1320, 1318, 1319] rfl
set_option maxRecDepth 100000 in
theorem mw208 : ∀ w ∈ m_cw mm208 :: m_kw mm208 0, w ∈ lw_tbl := m_in _ [1325, 1324, 90] rfl
set_option maxRecDepth 100000 in
theorem mw209 : ∀ w ∈ m_cw mm209 :: m_kw mm209 1, w ∈ lw_tbl := m_in _ [1330, 1328, 1329] rfl
set_option maxRecDepth 100000 in
theorem mw210 : ∀ w ∈ m_cw mm210 :: m_kw mm210 1, w ∈ lw_tbl := m_in _ [1338, 1336, 57] rfl
set_option maxRecDepth 100000 in
theorem mw211 : ∀ w ∈ m_cw mm211 :: m_kw mm211 1, w ∈ lw_tbl := m_in _ [1346, 1345, 58] rfl
set_option maxRecDepth 100000 in
theorem mw212 : ∀ w ∈ m_cw mm212 :: m_kw mm212 1, w ∈ lw_tbl := m_in _ [1350, 1348, 1349] rfl
set_option maxRecDepth 100000 in
theorem mw213 : ∀ w ∈ m_cw mm213 :: m_kw mm213 1, w ∈ lw_tbl := m_in _ [1354, 1352, 1353] rfl
set_option maxRecDepth 100000 in
theorem mw214 : ∀ w ∈ m_cw mm214 :: m_kw mm214 0, w ∈ lw_tbl := m_in _ [1357, 1356, 90] rfl
set_option maxRecDepth 100000 in
theorem mw215 : ∀ w ∈ m_cw mm215 :: m_kw mm215 0, w ∈ lw_tbl := m_in _ [1360, 1359, 90] rfl
set_option maxRecDepth 100000 in
theorem mw216 : ∀ w ∈ m_cw mm216 :: m_kw mm216 0, w ∈ lw_tbl := m_in _ [1366, 1365, 90] rfl
set_option maxRecDepth 100000 in
theorem mw217 : ∀ w ∈ m_cw mm217 :: m_kw mm217 0, w ∈ lw_tbl := m_in _ [1369, 1368, 90] rfl
set_option maxRecDepth 100000 in
theorem mw218 : ∀ w ∈ m_cw mm218 :: m_kw mm218 0, w ∈ lw_tbl := m_in _ [1372, 1371, 90] rfl
set_option maxRecDepth 100000 in
theorem mw219 : ∀ w ∈ m_cw mm219 :: m_kw mm219 0, w ∈ lw_tbl := m_in _ [1375, 1374, 90] rfl
set_option maxRecDepth 100000 in
theorem mw220 : ∀ w ∈ m_cw mm220 :: m_kw mm220 1, w ∈ lw_tbl := m_in _ [1379, 1377, 1378] rfl
set_option maxRecDepth 100000 in
theorem mw221 : ∀ w ∈ m_cw mm221 :: m_kw mm221 1, w ∈ lw_tbl := m_in _ [1383, 1381, 1382] rfl
set_option maxRecDepth 100000 in
theorem mw222 : ∀ w ∈ m_cw mm222 :: m_kw mm222 2, w ∈ lw_tbl := m_in _ [1387, 1386] rfl
set_option maxRecDepth 100000 in
theorem mw223 : ∀ w ∈ m_cw mm223 :: m_kw mm223 2, w ∈ lw_tbl := m_in _ [1395, 1394] rfl
set_option maxRecDepth 100000 in
theorem mw224 : ∀ w ∈ m_cw mm224 :: m_kw mm224 2, w ∈ lw_tbl := m_in _ [1415, 1414] rfl
set_option maxRecDepth 100000 in
theorem mw225 : ∀ w ∈ m_cw mm225 :: m_kw mm225 2, w ∈ lw_tbl := m_in _ [1433, 1432] rfl
set_option maxRecDepth 100000 in
theorem mw226 : ∀ w ∈ m_cw mm226 :: m_kw mm226 1, w ∈ lw_tbl := m_in _ [1520, 1518, 1519] rfl
set_option maxRecDepth 100000 in
theorem mw227 : ∀ w ∈ m_cw mm227 :: m_kw mm227 1, w ∈ lw_tbl := m_in _ [1524, 1523, 59] rfl
set_option maxRecDepth 100000 in
theorem mw228 : ∀ w ∈ m_cw mm228 :: m_kw mm228 1, w ∈ lw_tbl := m_in _ [1528, 1527, 60] rfl
set_option maxRecDepth 100000 in
theorem mw229 : ∀ w ∈ m_cw mm229 :: m_kw mm229 0, w ∈ lw_tbl := m_in _ [1531, 1530, 90] rfl
set_option maxRecDepth 100000 in
theorem mw230 : ∀ w ∈ m_cw mm230 :: m_kw mm230 0, w ∈ lw_tbl := m_in _ [1536, 1535, 90] rfl
set_option maxRecDepth 100000 in
theorem mw231 : ∀ w ∈ m_cw mm231 :: m_kw mm231 1, w ∈ lw_tbl := m_in _ [1542, 1541, 61] rfl
set_option maxRecDepth 100000 in
theorem mw232 : ∀ w ∈ m_cw mm232 :: m_kw mm232 1, w ∈ lw_tbl := m_in _ [1546, 1545, 62] rfl
set_option maxRecDepth 100000 in
theorem mw233 : ∀ w ∈ m_cw mm233 :: m_kw mm233 0, w ∈ lw_tbl := m_in _ [1549, 1548, 90] rfl
set_option maxRecDepth 100000 in
theorem mw234 : ∀ w ∈ m_cw mm234 :: m_kw mm234 0, w ∈ lw_tbl := m_in _ [1554, 1553, 90] rfl
set_option maxRecDepth 100000 in
theorem mw235 : ∀ w ∈ m_cw mm235 :: m_kw mm235 1, w ∈ lw_tbl := m_in _ [1558, 1557, 63] rfl
set_option maxRecDepth 100000 in
theorem mw236 : ∀ w ∈ m_cw mm236 :: m_kw mm236 1, w ∈ lw_tbl := m_in _ [1564, 1563, 64] rfl
set_option maxRecDepth 100000 in
theorem mw237 : ∀ w ∈ m_cw mm237 :: m_kw mm237 1, w ∈ lw_tbl := m_in _ [1570, 1569, 65] rfl
set_option maxRecDepth 100000 in
theorem mw238 : ∀ w ∈ m_cw mm238 :: m_kw mm238 1, w ∈ lw_tbl := m_in _ [1574, 1572, 1573] rfl
set_option maxRecDepth 100000 in
theorem mw239 : ∀ w ∈ m_cw mm239 :: m_kw mm239 0, w ∈ lw_tbl := m_in _ [1577, 1576, 90] rfl
set_option maxRecDepth 100000 in
theorem mw240 : ∀ w ∈ m_cw mm240 :: m_kw mm240 1, w ∈ lw_tbl := m_in _ [1581, 1580, 66] rfl
set_option maxRecDepth 100000 in
theorem mw241 : ∀ w ∈ m_cw mm241 :: m_kw mm241 1, w ∈ lw_tbl := m_in _ [1585, 1584, 67] rfl
set_option maxRecDepth 100000 in
theorem mw242 : ∀ w ∈ m_cw mm242 :: m_kw mm242 1, w ∈ lw_tbl := m_in _ [1590, 1589, 68] rfl
set_option maxRecDepth 100000 in
theorem mw243 : ∀ w ∈ m_cw mm243 :: m_kw mm243 1, w ∈ lw_tbl := m_in _ [1594, 1592, 1593] rfl
set_option maxRecDepth 100000 in
theorem mw244 : ∀ w ∈ m_cw mm244 :: m_kw mm244 1, w ∈ lw_tbl := m_in _ [1598, 1597, 69] rfl
set_option maxRecDepth 100000 in
theorem mw245 : ∀ w ∈ m_cw mm245 :: m_kw mm245 1, w ∈ lw_tbl := m_in _ [1602, 1601, 70] rfl
set_option maxRecDepth 100000 in
theorem mw246 : ∀ w ∈ m_cw mm246 :: m_kw mm246 1, w ∈ lw_tbl := m_in _ [1606, 1604, 1605] rfl
set_option maxRecDepth 100000 in
theorem mw247 : ∀ w ∈ m_cw mm247 :: m_kw mm247 0, w ∈ lw_tbl := m_in _ [1609, 1608, 90] rfl
set_option maxRecDepth 100000 in
theorem mw248 : ∀ w ∈ m_cw mm248 :: m_kw mm248 1, w ∈ lw_tbl := m_in _ [1613, 1612, 71] rfl
set_option maxRecDepth 100000 in
theorem mw249 : ∀ w ∈ m_cw mm249 :: m_kw mm249 1, w ∈ lw_tbl := m_in _ [1617, 1616, 72] rfl
set_option maxRecDepth 100000 in
theorem mw250 : ∀ w ∈ m_cw mm250 :: m_kw mm250 1, w ∈ lw_tbl := m_in _ [1621, 1620, 73] rfl
set_option maxRecDepth 100000 in
theorem mw251 : ∀ w ∈ m_cw mm251 :: m_kw mm251 1, w ∈ lw_tbl := m_in _ [1625, 1624, 74] rfl
set_option maxRecDepth 100000 in
theorem mw252 : ∀ w ∈ m_cw mm252 :: m_kw mm252 1, w ∈ lw_tbl := m_in _ [1629, 1627, 1628] rfl
set_option maxRecDepth 100000 in
theorem mw253 : ∀ w ∈ m_cw mm253 :: m_kw mm253 1, w ∈ lw_tbl := m_in _ [1633, 1632, 75] rfl

/-! where all lies, once both objects are made -/
def SH : Sh := [(20, 11), (14, 7), (17, 2), (1, 800), (10, 13), (0, 2), (4, 4), (0, 4), (0, 4), (0, 4), (0, 4), (4, 6), (0, 5), (0, 5), (0, 5), (0, 5), (0, 5), (0, 5), (0, 6), (0, 40), (0, 40), (10, 13), (0, 2), (4, 4), (0, 4), (0, 4), (0, 4), (0, 4), (4, 6), (0, 5), (0, 5), (0, 5), (0, 5), (0, 5), (0, 5), (0, 6), (0, 40), (0, 40), (6, 3), (2, 3), (16, 3), (5, 4), (3, 60), (3, 60), (3, 60), (3, 60), (0, 4), (0, 4), (11, 10), (0, 6), (0, 6), (4, 2), (0, 6), (0, 6), (0, 6), (0, 7), (0, 7), (13, 12), (0, 7), (0, 7), (0, 64), (0, 64), (0, 64), (0, 64), (0, 61), (0, 6), (0, 6), (12, 3), (0, 6), (15, 4), (4, 24), (0, 6), (0, 6), (0, 6), (0, 6), (0, 6), (0, 6), (0, 6), (0, 6), (0, 6), (0, 6), (0, 6), (0, 6), (0, 6), (0, 6), (0, 6), (0, 6), (0, 6), (0, 6), (0, 6), (0, 6), (0, 6), (0, 6), (0, 6), (0, 6), (19, 3), (4, 2), (0, 25), (0, 25), (10, 13), (0, 2), (4, 4), (0, 4), (0, 4), (0, 4), (0, 4), (4, 6), (0, 5), (0, 5), (0, 5), (0, 5), (0, 5), (0, 5), (0, 6), (0, 40), (0, 40), (10, 13), (0, 2), (4, 4), (0, 4), (0, 4), (0, 4), (0, 4), (4, 6), (0, 5), (0, 5), (0, 5), (0, 5), (0, 5), (0, 5), (0, 6), (0, 40), (0, 40), (10, 13), (0, 2), (4, 4), (0, 4), (0, 4), (0, 4), (0, 4), (4, 6), (0, 5), (0, 5), (0, 5), (0, 5), (0, 5), (0, 5), (0, 6), (0, 40), (0, 40), (21, 53), (0, 4), (0, 4), (3, 240), (3, 60), (1, 800), (0, 5), (0, 40), (0, 80), (0, 150), (0, 400), (2, 3), (0, 6), (0, 12), (0, 6), (0, 2), (0, 6), (0, 6), (0, 6), (0, 6), (0, 64), (0, 64), (0, 6), (0, 61), (0, 6), (0, 6), (0, 6), (0, 61)]
def rfT : List (List (Option Nat)) := [[some 1, some 4, some 21, some 38, some 39, some 40, some 48, some 57, some 67, some 69, some 95], [none, none, some 2], [some 3], [], [none, none, none, none, none, none, none, some 5, some 6, some 11, some 18, some 19, some 20], [], [some 7, some 8, some 9, some 10], [], [], [], [], [some 12, some 13, some 14, some 15, some 16, some 17], [], [], [], [], [], [], [], [], [], [none, none, none, none, none, none, none, some 22, some 23, some 28, some 35, some 36, some 37], [], [some 24, some 25, some 26, some 27], [], [], [], [], [some 29, some 30, some 31, some 32, some 33, some 34], [], [], [], [], [], [], [], [], [], [some 99, some 116, some 133], [], [some 41, some 46, some 47], [some 42, some 43, some 44, some 45], [], [], [], [], [], [], [some 49, some 50, none, none, none, none, some 51, some 54, some 55, some 56], [], [], [some 52, some 53], [], [], [], [], [], [none, none, none, some 58, some 59, some 60, some 61, some 62, some 63, some 64, some 65, some 66], [], [], [], [], [], [], [], [], [], [none, none, some 68], [], [none, none, none, some 70], [some 71, some 72, some 73, some 74, some 75, some 76, some 77, some 78, some 79, some 80, some 81, some 82, some 83, some 84, some 85, some 86, some 87, some 88, some 89, some 90, some 91, some 92, some 93, some 94], [], [], [], [], [], [], [], [], [], [], [], [], [], [], [], [], [], [], [], [], [], [], [], [], [none, none, some 96], [some 97, some 98], [], [], [none, none, none, none, none, none, none, some 100, some 101, some 106, some 113, some 114, some 115], [], [some 102, some 103, some 104, some 105], [], [], [], [], [some 107, some 108, some 109, some 110, some 111, some 112], [], [], [], [], [], [], [], [], [], [none, none, none, none, none, none, none, some 117, some 118, some 123, some 130, some 131, some 132], [], [some 119, some 120, some 121, some 122], [], [], [], [], [some 124, some 125, some 126, some 127, some 128, some 129], [], [], [], [], [], [], [], [], [], [none, none, none, none, none, none, none, some 134, some 135, some 140, some 147, some 148, some 149], [], [some 136, some 137, some 138, some 139], [], [], [], [], [some 141, some 142, some 143, some 144, some 145, some 146], [], [], [], [], [], [], [], [], [], [none, some 151, some 152, some 153, some 154, some 155, none, none, none, none, none, none, none, none, none, none, some 156, some 157, some 158, some 159, some 160, some 161, some 162, none, none, some 163, some 164, some 165, some 166, some 167, some 168, none, none, none, some 169, some 170, some 171, some 172, some 173, some 174, some 175, none, none, some 176, some 177], [], [], [], [], [], [], [], [], [], [], [], [], [], [], [], [], [], [], [], [], [], [], [], [], [], [], []]
def RF : Rf := fun a k => (rfT.getD a []).getD k none
def kd (a : Nat) : Nat := (SH.getD a (99, 0)).1
def ln (a : Nat) : Nat := (SH.getD a (99, 0)).2
theorem kd_sh {a k : Nat} (h : kd a = k) (hk : k ≠ 99) : SH[a]? = some (k, ln a) := by
  unfold kd at h
  unfold ln
  rw [List.getD_eq_getElem?_getD] at h ⊢
  cases hs : SH[a]? with
  | none => rw [hs] at h; exact absurd h.symm hk
  | some q => rw [hs] at h; simp at h ⊢; rw [← h]
theorem ln_all : ∀ q ∈ SH, q.2 ≤ 1000 := by decide +kernel
theorem ln_le (a : Nat) : ln a ≤ 1000 := by
  unfold ln
  rw [List.getD_eq_getElem?_getD]
  cases hs : SH[a]? with
  | none => simp
  | some q => exact ln_all q (List.mem_of_getElem? hs)
theorem ln_r (a : Nat) : r32 ((ln a : Nat) : Int) := by
  have := ln_le a
  unfold r32
  omega
theorem r32c {n : Int} (h : (decide (-2147483648 ≤ n) && decide (n < 2147483648)) = true) : r32 n := by
  simp only [Bool.and_eq_true, decide_eq_true_eq] at h
  exact h
theorem r64c {n : Int} (h : (decide (-9223372036854775808 ≤ n) && decide (n < 9223372036854775808)) = true) : r64 n := by
  simp only [Bool.and_eq_true, decide_eq_true_eq] at h
  exact h
theorem sh_0 : SH[0]? = some (20, 11) := by decide +kernel
theorem sh_1 : SH[1]? = some (14, 7) := by decide +kernel
theorem sh_2 : SH[2]? = some (17, 2) := by decide +kernel
theorem sh_3 : SH[3]? = some (1, 800) := by decide +kernel
theorem sh_4 : SH[4]? = some (10, 13) := by decide +kernel
theorem sh_5 : SH[5]? = some (0, 2) := by decide +kernel
theorem sh_6 : SH[6]? = some (4, 4) := by decide +kernel
theorem sh_7 : SH[7]? = some (0, 4) := by decide +kernel
theorem sh_8 : SH[8]? = some (0, 4) := by decide +kernel
theorem sh_9 : SH[9]? = some (0, 4) := by decide +kernel
theorem sh_10 : SH[10]? = some (0, 4) := by decide +kernel
theorem sh_11 : SH[11]? = some (4, 6) := by decide +kernel
theorem sh_12 : SH[12]? = some (0, 5) := by decide +kernel
theorem sh_13 : SH[13]? = some (0, 5) := by decide +kernel
theorem sh_14 : SH[14]? = some (0, 5) := by decide +kernel
theorem sh_15 : SH[15]? = some (0, 5) := by decide +kernel
theorem sh_16 : SH[16]? = some (0, 5) := by decide +kernel
theorem sh_17 : SH[17]? = some (0, 5) := by decide +kernel
theorem sh_18 : SH[18]? = some (0, 6) := by decide +kernel
theorem sh_19 : SH[19]? = some (0, 40) := by decide +kernel
theorem sh_20 : SH[20]? = some (0, 40) := by decide +kernel
theorem sh_21 : SH[21]? = some (10, 13) := by decide +kernel
theorem sh_22 : SH[22]? = some (0, 2) := by decide +kernel
theorem sh_23 : SH[23]? = some (4, 4) := by decide +kernel
theorem sh_24 : SH[24]? = some (0, 4) := by decide +kernel
theorem sh_25 : SH[25]? = some (0, 4) := by decide +kernel
theorem sh_26 : SH[26]? = some (0, 4) := by decide +kernel
theorem sh_27 : SH[27]? = some (0, 4) := by decide +kernel
theorem sh_28 : SH[28]? = some (4, 6) := by decide +kernel
theorem sh_29 : SH[29]? = some (0, 5) := by decide +kernel
theorem sh_30 : SH[30]? = some (0, 5) := by decide +kernel
theorem sh_31 : SH[31]? = some (0, 5) := by decide +kernel
theorem sh_32 : SH[32]? = some (0, 5) := by decide +kernel
theorem sh_33 : SH[33]? = some (0, 5) := by decide +kernel
theorem sh_34 : SH[34]? = some (0, 5) := by decide +kernel
theorem sh_35 : SH[35]? = some (0, 6) := by decide +kernel
theorem sh_36 : SH[36]? = some (0, 40) := by decide +kernel
theorem sh_37 : SH[37]? = some (0, 40) := by decide +kernel
theorem sh_38 : SH[38]? = some (6, 3) := by decide +kernel
theorem sh_39 : SH[39]? = some (2, 3) := by decide +kernel
theorem sh_40 : SH[40]? = some (16, 3) := by decide +kernel
theorem sh_41 : SH[41]? = some (5, 4) := by decide +kernel
theorem sh_42 : SH[42]? = some (3, 60) := by decide +kernel
theorem sh_43 : SH[43]? = some (3, 60) := by decide +kernel
theorem sh_44 : SH[44]? = some (3, 60) := by decide +kernel
theorem sh_45 : SH[45]? = some (3, 60) := by decide +kernel
theorem sh_46 : SH[46]? = some (0, 4) := by decide +kernel
theorem sh_47 : SH[47]? = some (0, 4) := by decide +kernel
theorem sh_48 : SH[48]? = some (11, 10) := by decide +kernel
theorem sh_49 : SH[49]? = some (0, 6) := by decide +kernel
theorem sh_50 : SH[50]? = some (0, 6) := by decide +kernel
theorem sh_51 : SH[51]? = some (4, 2) := by decide +kernel
theorem sh_52 : SH[52]? = some (0, 6) := by decide +kernel
theorem sh_53 : SH[53]? = some (0, 6) := by decide +kernel
theorem sh_54 : SH[54]? = some (0, 6) := by decide +kernel
theorem sh_55 : SH[55]? = some (0, 7) := by decide +kernel
theorem sh_56 : SH[56]? = some (0, 7) := by decide +kernel
theorem sh_57 : SH[57]? = some (13, 12) := by decide +kernel
theorem sh_58 : SH[58]? = some (0, 7) := by decide +kernel
theorem sh_59 : SH[59]? = some (0, 7) := by decide +kernel
theorem sh_60 : SH[60]? = some (0, 64) := by decide +kernel
theorem sh_61 : SH[61]? = some (0, 64) := by decide +kernel
theorem sh_62 : SH[62]? = some (0, 64) := by decide +kernel
theorem sh_63 : SH[63]? = some (0, 64) := by decide +kernel
theorem sh_64 : SH[64]? = some (0, 61) := by decide +kernel
theorem sh_65 : SH[65]? = some (0, 6) := by decide +kernel
theorem sh_66 : SH[66]? = some (0, 6) := by decide +kernel
theorem sh_67 : SH[67]? = some (12, 3) := by decide +kernel
theorem sh_68 : SH[68]? = some (0, 6) := by decide +kernel
theorem sh_69 : SH[69]? = some (15, 4) := by decide +kernel
theorem sh_70 : SH[70]? = some (4, 24) := by decide +kernel
theorem sh_71 : SH[71]? = some (0, 6) := by decide +kernel
theorem sh_72 : SH[72]? = some (0, 6) := by decide +kernel
theorem sh_73 : SH[73]? = some (0, 6) := by decide +kernel
theorem sh_74 : SH[74]? = some (0, 6) := by decide +kernel
theorem sh_75 : SH[75]? = some (0, 6) := by decide +kernel
theorem sh_76 : SH[76]? = some (0, 6) := by decide +kernel
theorem sh_77 : SH[77]? = some (0, 6) := by decide +kernel
theorem sh_78 : SH[78]? = some (0, 6) := by decide +kernel
theorem sh_79 : SH[79]? = some (0, 6) := by decide +kernel
theorem sh_80 : SH[80]? = some (0, 6) := by decide +kernel
theorem sh_81 : SH[81]? = some (0, 6) := by decide +kernel
theorem sh_82 : SH[82]? = some (0, 6) := by decide +kernel
theorem sh_83 : SH[83]? = some (0, 6) := by decide +kernel
theorem sh_84 : SH[84]? = some (0, 6) := by decide +kernel
theorem sh_85 : SH[85]? = some (0, 6) := by decide +kernel
theorem sh_86 : SH[86]? = some (0, 6) := by decide +kernel
theorem sh_87 : SH[87]? = some (0, 6) := by decide +kernel
theorem sh_88 : SH[88]? = some (0, 6) := by decide +kernel
theorem sh_89 : SH[89]? = some (0, 6) := by decide +kernel
theorem sh_90 : SH[90]? = some (0, 6) := by decide +kernel
theorem sh_91 : SH[91]? = some (0, 6) := by decide +kernel
theorem sh_92 : SH[92]? = some (0, 6) := by decide +kernel
theorem sh_93 : SH[93]? = some (0, 6) := by decide +kernel
theorem sh_94 : SH[94]? = some (0, 6) := by decide +kernel
theorem sh_95 : SH[95]? = some (19, 3) := by decide +kernel
theorem sh_96 : SH[96]? = some (4, 2) := by decide +kernel
theorem sh_97 : SH[97]? = some (0, 25) := by decide +kernel
theorem sh_98 : SH[98]? = some (0, 25) := by decide +kernel
theorem sh_99 : SH[99]? = some (10, 13) := by decide +kernel
theorem sh_100 : SH[100]? = some (0, 2) := by decide +kernel
theorem sh_101 : SH[101]? = some (4, 4) := by decide +kernel
theorem sh_102 : SH[102]? = some (0, 4) := by decide +kernel
theorem sh_103 : SH[103]? = some (0, 4) := by decide +kernel
theorem sh_104 : SH[104]? = some (0, 4) := by decide +kernel
theorem sh_105 : SH[105]? = some (0, 4) := by decide +kernel
theorem sh_106 : SH[106]? = some (4, 6) := by decide +kernel
theorem sh_107 : SH[107]? = some (0, 5) := by decide +kernel
theorem sh_108 : SH[108]? = some (0, 5) := by decide +kernel
theorem sh_109 : SH[109]? = some (0, 5) := by decide +kernel
theorem sh_110 : SH[110]? = some (0, 5) := by decide +kernel
theorem sh_111 : SH[111]? = some (0, 5) := by decide +kernel
theorem sh_112 : SH[112]? = some (0, 5) := by decide +kernel
theorem sh_113 : SH[113]? = some (0, 6) := by decide +kernel
theorem sh_114 : SH[114]? = some (0, 40) := by decide +kernel
theorem sh_115 : SH[115]? = some (0, 40) := by decide +kernel
theorem sh_116 : SH[116]? = some (10, 13) := by decide +kernel
theorem sh_117 : SH[117]? = some (0, 2) := by decide +kernel
theorem sh_118 : SH[118]? = some (4, 4) := by decide +kernel
theorem sh_119 : SH[119]? = some (0, 4) := by decide +kernel
theorem sh_120 : SH[120]? = some (0, 4) := by decide +kernel
theorem sh_121 : SH[121]? = some (0, 4) := by decide +kernel
theorem sh_122 : SH[122]? = some (0, 4) := by decide +kernel
theorem sh_123 : SH[123]? = some (4, 6) := by decide +kernel
theorem sh_124 : SH[124]? = some (0, 5) := by decide +kernel
theorem sh_125 : SH[125]? = some (0, 5) := by decide +kernel
theorem sh_126 : SH[126]? = some (0, 5) := by decide +kernel
theorem sh_127 : SH[127]? = some (0, 5) := by decide +kernel
theorem sh_128 : SH[128]? = some (0, 5) := by decide +kernel
theorem sh_129 : SH[129]? = some (0, 5) := by decide +kernel
theorem sh_130 : SH[130]? = some (0, 6) := by decide +kernel
theorem sh_131 : SH[131]? = some (0, 40) := by decide +kernel
theorem sh_132 : SH[132]? = some (0, 40) := by decide +kernel
theorem sh_133 : SH[133]? = some (10, 13) := by decide +kernel
theorem sh_134 : SH[134]? = some (0, 2) := by decide +kernel
theorem sh_135 : SH[135]? = some (4, 4) := by decide +kernel
theorem sh_136 : SH[136]? = some (0, 4) := by decide +kernel
theorem sh_137 : SH[137]? = some (0, 4) := by decide +kernel
theorem sh_138 : SH[138]? = some (0, 4) := by decide +kernel
theorem sh_139 : SH[139]? = some (0, 4) := by decide +kernel
theorem sh_140 : SH[140]? = some (4, 6) := by decide +kernel
theorem sh_141 : SH[141]? = some (0, 5) := by decide +kernel
theorem sh_142 : SH[142]? = some (0, 5) := by decide +kernel
theorem sh_143 : SH[143]? = some (0, 5) := by decide +kernel
theorem sh_144 : SH[144]? = some (0, 5) := by decide +kernel
theorem sh_145 : SH[145]? = some (0, 5) := by decide +kernel
theorem sh_146 : SH[146]? = some (0, 5) := by decide +kernel
theorem sh_147 : SH[147]? = some (0, 6) := by decide +kernel
theorem sh_148 : SH[148]? = some (0, 40) := by decide +kernel
theorem sh_149 : SH[149]? = some (0, 40) := by decide +kernel
theorem sh_150 : SH[150]? = some (21, 53) := by decide +kernel
theorem sh_151 : SH[151]? = some (0, 4) := by decide +kernel
theorem sh_152 : SH[152]? = some (0, 4) := by decide +kernel
theorem sh_153 : SH[153]? = some (3, 240) := by decide +kernel
theorem sh_154 : SH[154]? = some (3, 60) := by decide +kernel
theorem sh_155 : SH[155]? = some (1, 800) := by decide +kernel
theorem sh_156 : SH[156]? = some (0, 5) := by decide +kernel
theorem sh_157 : SH[157]? = some (0, 40) := by decide +kernel
theorem sh_158 : SH[158]? = some (0, 80) := by decide +kernel
theorem sh_159 : SH[159]? = some (0, 150) := by decide +kernel
theorem sh_160 : SH[160]? = some (0, 400) := by decide +kernel
theorem sh_161 : SH[161]? = some (2, 3) := by decide +kernel
theorem sh_162 : SH[162]? = some (0, 6) := by decide +kernel
theorem sh_163 : SH[163]? = some (0, 12) := by decide +kernel
theorem sh_164 : SH[164]? = some (0, 6) := by decide +kernel
theorem sh_165 : SH[165]? = some (0, 2) := by decide +kernel
theorem sh_166 : SH[166]? = some (0, 6) := by decide +kernel
theorem sh_167 : SH[167]? = some (0, 6) := by decide +kernel
theorem sh_168 : SH[168]? = some (0, 6) := by decide +kernel
theorem sh_169 : SH[169]? = some (0, 6) := by decide +kernel
theorem sh_170 : SH[170]? = some (0, 64) := by decide +kernel
theorem sh_171 : SH[171]? = some (0, 64) := by decide +kernel
theorem sh_172 : SH[172]? = some (0, 6) := by decide +kernel
theorem sh_173 : SH[173]? = some (0, 61) := by decide +kernel
theorem sh_174 : SH[174]? = some (0, 6) := by decide +kernel
theorem sh_175 : SH[175]? = some (0, 6) := by decide +kernel
theorem sh_176 : SH[176]? = some (0, 6) := by decide +kernel
theorem sh_177 : SH[177]? = some (0, 61) := by decide +kernel
theorem rf_2_0 : RF 2 0 = some 3 := by decide +kernel
theorem rf_1_2 : RF 1 2 = some 2 := by decide +kernel
theorem rf_0_0 : RF 0 0 = some 1 := by decide +kernel
theorem rf_4_7 : RF 4 7 = some 5 := by decide +kernel
theorem rf_4_8 : RF 4 8 = some 6 := by decide +kernel
theorem rf_4_9 : RF 4 9 = some 11 := by decide +kernel
theorem rf_4_10 : RF 4 10 = some 18 := by decide +kernel
theorem rf_4_11 : RF 4 11 = some 19 := by decide +kernel
theorem rf_4_12 : RF 4 12 = some 20 := by decide +kernel
theorem rf_0_1 : RF 0 1 = some 4 := by decide +kernel
theorem rf_21_7 : RF 21 7 = some 22 := by decide +kernel
theorem rf_21_8 : RF 21 8 = some 23 := by decide +kernel
theorem rf_21_9 : RF 21 9 = some 28 := by decide +kernel
theorem rf_21_10 : RF 21 10 = some 35 := by decide +kernel
theorem rf_21_11 : RF 21 11 = some 36 := by decide +kernel
theorem rf_21_12 : RF 21 12 = some 37 := by decide +kernel
theorem rf_0_2 : RF 0 2 = some 21 := by decide +kernel
theorem rf_0_3 : RF 0 3 = some 38 := by decide +kernel
theorem rf_0_4 : RF 0 4 = some 39 := by decide +kernel
theorem rf_40_0 : RF 40 0 = some 41 := by decide +kernel
theorem rf_40_1 : RF 40 1 = some 46 := by decide +kernel
theorem rf_40_2 : RF 40 2 = some 47 := by decide +kernel
theorem rf_0_5 : RF 0 5 = some 40 := by decide +kernel
theorem rf_48_0 : RF 48 0 = some 49 := by decide +kernel
theorem rf_48_1 : RF 48 1 = some 50 := by decide +kernel
theorem rf_48_6 : RF 48 6 = some 51 := by decide +kernel
theorem rf_48_7 : RF 48 7 = some 54 := by decide +kernel
theorem rf_48_8 : RF 48 8 = some 55 := by decide +kernel
theorem rf_48_9 : RF 48 9 = some 56 := by decide +kernel
theorem rf_0_6 : RF 0 6 = some 48 := by decide +kernel
theorem rf_57_3 : RF 57 3 = some 58 := by decide +kernel
theorem rf_57_4 : RF 57 4 = some 59 := by decide +kernel
theorem rf_57_5 : RF 57 5 = some 60 := by decide +kernel
theorem rf_57_6 : RF 57 6 = some 61 := by decide +kernel
theorem rf_57_7 : RF 57 7 = some 62 := by decide +kernel
theorem rf_57_8 : RF 57 8 = some 63 := by decide +kernel
theorem rf_57_9 : RF 57 9 = some 64 := by decide +kernel
theorem rf_57_10 : RF 57 10 = some 65 := by decide +kernel
theorem rf_57_11 : RF 57 11 = some 66 := by decide +kernel
theorem rf_0_7 : RF 0 7 = some 57 := by decide +kernel
theorem rf_67_2 : RF 67 2 = some 68 := by decide +kernel
theorem rf_0_8 : RF 0 8 = some 67 := by decide +kernel
theorem rf_69_3 : RF 69 3 = some 70 := by decide +kernel
theorem rf_0_9 : RF 0 9 = some 69 := by decide +kernel
theorem rf_95_2 : RF 95 2 = some 96 := by decide +kernel
theorem rf_0_10 : RF 0 10 = some 95 := by decide +kernel
theorem rf_99_7 : RF 99 7 = some 100 := by decide +kernel
theorem rf_99_8 : RF 99 8 = some 101 := by decide +kernel
theorem rf_99_9 : RF 99 9 = some 106 := by decide +kernel
theorem rf_99_10 : RF 99 10 = some 113 := by decide +kernel
theorem rf_99_11 : RF 99 11 = some 114 := by decide +kernel
theorem rf_99_12 : RF 99 12 = some 115 := by decide +kernel
theorem rf_116_7 : RF 116 7 = some 117 := by decide +kernel
theorem rf_116_8 : RF 116 8 = some 118 := by decide +kernel
theorem rf_116_9 : RF 116 9 = some 123 := by decide +kernel
theorem rf_116_10 : RF 116 10 = some 130 := by decide +kernel
theorem rf_116_11 : RF 116 11 = some 131 := by decide +kernel
theorem rf_116_12 : RF 116 12 = some 132 := by decide +kernel
theorem rf_133_7 : RF 133 7 = some 134 := by decide +kernel
theorem rf_133_8 : RF 133 8 = some 135 := by decide +kernel
theorem rf_133_9 : RF 133 9 = some 140 := by decide +kernel
theorem rf_133_10 : RF 133 10 = some 147 := by decide +kernel
theorem rf_133_11 : RF 133 11 = some 148 := by decide +kernel
theorem rf_133_12 : RF 133 12 = some 149 := by decide +kernel
theorem rf_150_1 : RF 150 1 = some 151 := by decide +kernel
theorem rf_150_2 : RF 150 2 = some 152 := by decide +kernel
theorem rf_150_3 : RF 150 3 = some 153 := by decide +kernel
theorem rf_150_4 : RF 150 4 = some 154 := by decide +kernel
theorem rf_150_5 : RF 150 5 = some 155 := by decide +kernel
theorem rf_150_16 : RF 150 16 = some 156 := by decide +kernel
theorem rf_150_17 : RF 150 17 = some 157 := by decide +kernel
theorem rf_150_18 : RF 150 18 = some 158 := by decide +kernel
theorem rf_150_19 : RF 150 19 = some 159 := by decide +kernel
theorem rf_150_20 : RF 150 20 = some 160 := by decide +kernel
theorem rf_150_21 : RF 150 21 = some 161 := by decide +kernel
theorem rf_150_22 : RF 150 22 = some 162 := by decide +kernel
theorem rf_150_25 : RF 150 25 = some 163 := by decide +kernel
theorem rf_150_26 : RF 150 26 = some 164 := by decide +kernel
theorem rf_150_27 : RF 150 27 = some 165 := by decide +kernel
theorem rf_150_28 : RF 150 28 = some 166 := by decide +kernel
theorem rf_150_29 : RF 150 29 = some 167 := by decide +kernel
theorem rf_150_30 : RF 150 30 = some 168 := by decide +kernel
theorem rf_150_34 : RF 150 34 = some 169 := by decide +kernel
theorem rf_150_35 : RF 150 35 = some 170 := by decide +kernel
theorem rf_150_36 : RF 150 36 = some 171 := by decide +kernel
theorem rf_150_37 : RF 150 37 = some 172 := by decide +kernel
theorem rf_150_38 : RF 150 38 = some 173 := by decide +kernel
theorem rf_150_39 : RF 150 39 = some 174 := by decide +kernel
theorem rf_150_40 : RF 150 40 = some 175 := by decide +kernel
theorem rf_150_43 : RF 150 43 = some 176 := by decide +kernel
theorem rf_150_44 : RF 150 44 = some 177 := by decide +kernel
theorem rfd_6 : ∀ j, j < 4 → RF 6 j = some (7 + j) := by decide +kernel
theorem shd_6 : ∀ j, j < 4 → SH[7 + j]? = some (0, 4) := by decide +kernel
theorem rfr_6 {i : Int} (h : 0 ≤ i ∧ i < 4) : RF 6 i.toNat = some (7 + i.toNat) := rfd_6 _ (by omega)
theorem shr_6 {i : Int} (h : 0 ≤ i ∧ i < 4) : SH[7 + i.toNat]? = some (0, 4) := shd_6 _ (by omega)
theorem rfd_11 : ∀ j, j < 6 → RF 11 j = some (12 + j) := by decide +kernel
theorem shd_11 : ∀ j, j < 6 → SH[12 + j]? = some (0, 5) := by decide +kernel
theorem rfr_11 {i : Int} (h : 0 ≤ i ∧ i < 6) : RF 11 i.toNat = some (12 + i.toNat) := rfd_11 _ (by omega)
theorem shr_11 {i : Int} (h : 0 ≤ i ∧ i < 6) : SH[12 + i.toNat]? = some (0, 5) := shd_11 _ (by omega)
theorem rfd_23 : ∀ j, j < 4 → RF 23 j = some (24 + j) := by decide +kernel
theorem shd_23 : ∀ j, j < 4 → SH[24 + j]? = some (0, 4) := by decide +kernel
theorem rfr_23 {i : Int} (h : 0 ≤ i ∧ i < 4) : RF 23 i.toNat = some (24 + i.toNat) := rfd_23 _ (by omega)
theorem shr_23 {i : Int} (h : 0 ≤ i ∧ i < 4) : SH[24 + i.toNat]? = some (0, 4) := shd_23 _ (by omega)
theorem rfd_28 : ∀ j, j < 6 → RF 28 j = some (29 + j) := by decide +kernel
theorem shd_28 : ∀ j, j < 6 → SH[29 + j]? = some (0, 5) := by decide +kernel
theorem rfr_28 {i : Int} (h : 0 ≤ i ∧ i < 6) : RF 28 i.toNat = some (29 + i.toNat) := rfd_28 _ (by omega)
theorem shr_28 {i : Int} (h : 0 ≤ i ∧ i < 6) : SH[29 + i.toNat]? = some (0, 5) := shd_28 _ (by omega)
theorem rf_38_0 : RF 38 0 = some 99 := by decide +kernel
theorem rf_38_1 : RF 38 1 = some 116 := by decide +kernel
theorem rf_38_2 : RF 38 2 = some 133 := by decide +kernel
theorem rfd_41 : ∀ j, j < 4 → RF 41 j = some (42 + j) := by decide +kernel
theorem shd_41 : ∀ j, j < 4 → SH[42 + j]? = some (3, 60) := by decide +kernel
theorem rfr_41 {i : Int} (h : 0 ≤ i ∧ i < 4) : RF 41 i.toNat = some (42 + i.toNat) := rfd_41 _ (by omega)
theorem shr_41 {i : Int} (h : 0 ≤ i ∧ i < 4) : SH[42 + i.toNat]? = some (3, 60) := shd_41 _ (by omega)
theorem rfd_51 : ∀ j, j < 2 → RF 51 j = some (52 + j) := by decide +kernel
theorem shd_51 : ∀ j, j < 2 → SH[52 + j]? = some (0, 6) := by decide +kernel
theorem rfr_51 {i : Int} (h : 0 ≤ i ∧ i < 2) : RF 51 i.toNat = some (52 + i.toNat) := rfd_51 _ (by omega)
theorem shr_51 {i : Int} (h : 0 ≤ i ∧ i < 2) : SH[52 + i.toNat]? = some (0, 6) := shd_51 _ (by omega)
theorem rfd_70 : ∀ j, j < 24 → RF 70 j = some (71 + j) := by decide +kernel
theorem shd_70 : ∀ j, j < 24 → SH[71 + j]? = some (0, 6) := by decide +kernel
theorem rfr_70 {i : Int} (h : 0 ≤ i ∧ i < 24) : RF 70 i.toNat = some (71 + i.toNat) := rfd_70 _ (by omega)
theorem shr_70 {i : Int} (h : 0 ≤ i ∧ i < 24) : SH[71 + i.toNat]? = some (0, 6) := shd_70 _ (by omega)
theorem rfd_96 : ∀ j, j < 2 → RF 96 j = some (97 + j) := by decide +kernel
theorem shd_96 : ∀ j, j < 2 → SH[97 + j]? = some (0, 25) := by decide +kernel
theorem rfr_96 {i : Int} (h : 0 ≤ i ∧ i < 2) : RF 96 i.toNat = some (97 + i.toNat) := rfd_96 _ (by omega)
theorem shr_96 {i : Int} (h : 0 ≤ i ∧ i < 2) : SH[97 + i.toNat]? = some (0, 25) := shd_96 _ (by omega)
theorem rfd_101 : ∀ j, j < 4 → RF 101 j = some (102 + j) := by decide +kernel
theorem shd_101 : ∀ j, j < 4 → SH[102 + j]? = some (0, 4) := by decide +kernel
theorem rfr_101 {i : Int} (h : 0 ≤ i ∧ i < 4) : RF 101 i.toNat = some (102 + i.toNat) := rfd_101 _ (by omega)
theorem shr_101 {i : Int} (h : 0 ≤ i ∧ i < 4) : SH[102 + i.toNat]? = some (0, 4) := shd_101 _ (by omega)
theorem rfd_106 : ∀ j, j < 6 → RF 106 j = some (107 + j) := by decide +kernel
theorem shd_106 : ∀ j, j < 6 → SH[107 + j]? = some (0, 5) := by decide +kernel
theorem rfr_106 {i : Int} (h : 0 ≤ i ∧ i < 6) : RF 106 i.toNat = some (107 + i.toNat) := rfd_106 _ (by omega)
theorem shr_106 {i : Int} (h : 0 ≤ i ∧ i < 6) : SH[107 + i.toNat]? = some (0, 5) := shd_106 _ (by omega)
theorem rfd_118 : ∀ j, j < 4 → RF 118 j = some (119 + j) := by decide +kernel
theorem shd_118 : ∀ j, j < 4 → SH[119 + j]? = some (0, 4) := by decide +kernel
theorem rfr_118 {i : Int} (h : 0 ≤ i ∧ i < 4) : RF 118 i.toNat = some (119 + i.toNat) := rfd_118 _ (by omega)
theorem shr_118 {i : Int} (h : 0 ≤ i ∧ i < 4) : SH[119 + i.toNat]? = some (0, 4) := shd_118 _ (by omega)
theorem rfd_123 : ∀ j, j < 6 → RF 123 j = some (124 + j) := by decide +kernel
theorem shd_123 : ∀ j, j < 6 → SH[124 + j]? = some (0, 5) := by decide +kernel
theorem rfr_123 {i : Int} (h : 0 ≤ i ∧ i < 6) : RF 123 i.toNat = some (124 + i.toNat) := rfd_123 _ (by omega)
theorem shr_123 {i : Int} (h : 0 ≤ i ∧ i < 6) : SH[124 + i.toNat]? = some (0, 5) := shd_123 _ (by omega)
theorem rfd_135 : ∀ j, j < 4 → RF 135 j = some (136 + j) := by decide +kernel
theorem shd_135 : ∀ j, j < 4 → SH[136 + j]? = some (0, 4) := by decide +kernel
theorem rfr_135 {i : Int} (h : 0 ≤ i ∧ i < 4) : RF 135 i.toNat = some (136 + i.toNat) := rfd_135 _ (by omega)
theorem shr_135 {i : Int} (h : 0 ≤ i ∧ i < 4) : SH[136 + i.toNat]? = some (0, 4) := shd_135 _ (by omega)
theorem rfd_140 : ∀ j, j < 6 → RF 140 j = some (141 + j) := by decide +kernel
theorem shd_140 : ∀ j, j < 6 → SH[141 + j]? = some (0, 5) := by decide +kernel
theorem rfr_140 {i : Int} (h : 0 ≤ i ∧ i < 6) : RF 140 i.toNat = some (141 + i.toNat) := rfd_140 _ (by omega)
theorem shr_140 {i : Int} (h : 0 ≤ i ∧ i < 6) : SH[141 + i.toNat]? = some (0, 5) := shd_140 _ (by omega)
def b2 {β : Type} (o : Option (Int × Mm)) (K : Int → Mm → Option β) : Option β := match o with
  | none => none
  | some q => K q.1 q.2
def OkV (Q : Option AV → Mem → Prop) : Option Mm → Prop
  | none => False
  | some f => Q none (SH, RF, f)
def OkI (Q : Option AV → Mem → Prop) : Option (Int × Mm) → Prop
  | none => False
  | some q => Q (some (vI q.1)) (SH, RF, q.2)
def OkJ (Q : Option AV → Mem → Prop) : Option (Int × Mm) → Prop
  | none => False
  | some q => Q (some (vJ q.1)) (SH, RF, q.2)
def OkC (c : Nat) (Q : Option AV → Mem → Prop) : Option Mm → Prop
  | none => False
  | some f => Q (some (vR c)) (SH, RF, f)
/-- the callee of a virtual call -/
def KV (M : MT) (n ci N : Nat) : Prop := CO M n ∧ Cond.instanceMethod (mY M) ∈ tblG ∧ Cond.selects (mY M).cls (mY M) (mY M) ∈ tblG ∧ ∃ T : u_T, kls[ci]? = some ((mY M).cls, T, N)
def KS (M : MT) (n : Nat) : Prop := CO M n ∧ Cond.static (mY M) ∈ tblG
/-- room for a call at depth d -/
def RR (R : Room) (Mc : MT) (d : Nat) : Prop := d + 1 ≤ R.frames ∧ 8 + (mL Mc + 11) + 40 * d ≤ R.locals
theorem RRc {D d mc ms : Nat} {Mc : MT} (h : d + 1 ≤ D) (h2 : mL Mc ≤ 21) : RR (Rm D mc ms) Mc d := ⟨h, by show 8 + (mL Mc + 11) + 40 * d ≤ 40 * D; omega⟩
section Calls2
variable {G : GT} {l : Launch} {M Mc : MT} {R : Room} {Z : List Frame → Array Value → State → State → Prop} {cs sl pc : Nat} {L : List (Option AV)} {S : List AV} {f : Mm} {d idx n : Nat} {av : List AV} {β : Type} {P : Option β → Prop}
theorem ev_cVV {b ci N : Nat} {o : Option Mm} {K : Mm → Option β} (hP : P none → False) (h : P (o.bind K)) (hd : decode (mC M) pc = .ok (.invokevirtual idx, 3)) (hret : ∀ Q' : Option AV → Mem → Prop, OkV Q' o → Ret G l Mc d 0 0 (vR b :: av) (SH, RF, f) Q') (hk : KV Mc n ci N) (hlk : Cond.methodLink (mY M).cls idx (mY Mc) ∈ tblG) (hb : SH[b]? = some (10 + ci, N)) (hav : av.length = n) (hR : RR R Mc d) (hst : ((S.map (vO G)).map fun v => v.category).sum ≤ 8) (hcm : cs + 0 ≤ R.cells ∧ sl + 0 ≤ R.slots)
    (kk : ∀ g : Mm, P (K g) → Ev G l M R Z cs sl (pc + 3) L (S) (SH, RF, g)) : Ev G l M R Z cs sl pc L (av.reverse ++ vR b :: S) (SH, RF, f) := by
  cases o with
  | none => exact (hP h).elim
  | some g =>
    skip
    have hq : OkV (fun r μ => r = none ∧ μ = (SH, RF, g)) (some g) := ⟨rfl, rfl⟩
    obtain ⟨h1, h2, h3, T, h4⟩ := hk
    refine ev_callV hd (hret _ hq) h1 hlk h2 h3 hb h4 hav hR hst hcm ?_
    rintro r μ ⟨rfl, rfl⟩
    exact kk g h
theorem ev_cVI {b ci N : Nat} {o : Option (Int × Mm)} {K : Int → Mm → Option β} (hP : P none → False) (h : P (b2 o K)) (hd : decode (mC M) pc = .ok (.invokevirtual idx, 3)) (hret : ∀ Q' : Option AV → Mem → Prop, OkI Q' o → Ret G l Mc d 0 0 (vR b :: av) (SH, RF, f) Q') (hk : KV Mc n ci N) (hlk : Cond.methodLink (mY M).cls idx (mY Mc) ∈ tblG) (hb : SH[b]? = some (10 + ci, N)) (hav : av.length = n) (hR : RR R Mc d) (hst : ((S.map (vO G)).map fun v => v.category).sum ≤ 8) (hcm : cs + 0 ≤ R.cells ∧ sl + 0 ≤ R.slots)
    (kk : ∀ (y : Int) (g : Mm), P (K y g) → Ev G l M R Z cs sl (pc + 3) L (vI y :: S) (SH, RF, g)) : Ev G l M R Z cs sl pc L (av.reverse ++ vR b :: S) (SH, RF, f) := by
  cases o with
  | none => exact (hP h).elim
  | some q =>
    obtain ⟨y, g⟩ := q
    have hq : OkI (fun r μ => r = some (vI y) ∧ μ = (SH, RF, g)) (some (y, g)) := ⟨rfl, rfl⟩
    obtain ⟨h1, h2, h3, T, h4⟩ := hk
    refine ev_callV hd (hret _ hq) h1 hlk h2 h3 hb h4 hav hR hst hcm ?_
    rintro r μ ⟨rfl, rfl⟩
    exact kk y g h
theorem ev_cVJ {b ci N : Nat} {o : Option (Int × Mm)} {K : Int → Mm → Option β} (hP : P none → False) (h : P (b2 o K)) (hd : decode (mC M) pc = .ok (.invokevirtual idx, 3)) (hret : ∀ Q' : Option AV → Mem → Prop, OkJ Q' o → Ret G l Mc d 0 0 (vR b :: av) (SH, RF, f) Q') (hk : KV Mc n ci N) (hlk : Cond.methodLink (mY M).cls idx (mY Mc) ∈ tblG) (hb : SH[b]? = some (10 + ci, N)) (hav : av.length = n) (hR : RR R Mc d) (hst : ((S.map (vO G)).map fun v => v.category).sum ≤ 8) (hcm : cs + 0 ≤ R.cells ∧ sl + 0 ≤ R.slots)
    (kk : ∀ (y : Int) (g : Mm), P (K y g) → Ev G l M R Z cs sl (pc + 3) L (vJ y :: S) (SH, RF, g)) : Ev G l M R Z cs sl pc L (av.reverse ++ vR b :: S) (SH, RF, f) := by
  cases o with
  | none => exact (hP h).elim
  | some q =>
    obtain ⟨y, g⟩ := q
    have hq : OkJ (fun r μ => r = some (vJ y) ∧ μ = (SH, RF, g)) (some (y, g)) := ⟨rfl, rfl⟩
    obtain ⟨h1, h2, h3, T, h4⟩ := hk
    refine ev_callV hd (hret _ hq) h1 hlk h2 h3 hb h4 hav hR hst hcm ?_
    rintro r μ ⟨rfl, rfl⟩
    exact kk y g h
theorem ev_cVC {cc : Nat} {b ci N : Nat} {o : Option Mm} {K : Mm → Option β} (hP : P none → False) (h : P (o.bind K)) (hd : decode (mC M) pc = .ok (.invokevirtual idx, 3)) (hret : ∀ Q' : Option AV → Mem → Prop, OkC cc Q' o → Ret G l Mc d 0 0 (vR b :: av) (SH, RF, f) Q') (hk : KV Mc n ci N) (hlk : Cond.methodLink (mY M).cls idx (mY Mc) ∈ tblG) (hb : SH[b]? = some (10 + ci, N)) (hav : av.length = n) (hR : RR R Mc d) (hst : ((S.map (vO G)).map fun v => v.category).sum ≤ 8) (hcm : cs + 0 ≤ R.cells ∧ sl + 0 ≤ R.slots)
    (kk : ∀ g : Mm, P (K g) → Ev G l M R Z cs sl (pc + 3) L (vR cc :: S) (SH, RF, g)) : Ev G l M R Z cs sl pc L (av.reverse ++ vR b :: S) (SH, RF, f) := by
  cases o with
  | none => exact (hP h).elim
  | some g =>
    skip
    have hq : OkC cc (fun r μ => r = some (vR cc) ∧ μ = (SH, RF, g)) (some g) := ⟨rfl, rfl⟩
    obtain ⟨h1, h2, h3, T, h4⟩ := hk
    refine ev_callV hd (hret _ hq) h1 hlk h2 h3 hb h4 hav hR hst hcm ?_
    rintro r μ ⟨rfl, rfl⟩
    exact kk g h
theorem ev_cSV {o : Option Mm} {K : Mm → Option β} (hP : P none → False) (h : P (o.bind K)) (hd : decode (mC M) pc = .ok (.invokestatic idx, 3)) (hret : ∀ Q' : Option AV → Mem → Prop, OkV Q' o → Ret G l Mc d 0 0 av (SH, RF, f) Q') (hk : KS Mc n) (hlk : Cond.methodLink (mY M).cls idx (mY Mc) ∈ tblG) (hav : av.length = n) (hR : RR R Mc d) (hst : ((S.map (vO G)).map fun v => v.category).sum ≤ 8) (hcm : cs + 0 ≤ R.cells ∧ sl + 0 ≤ R.slots)
    (kk : ∀ g : Mm, P (K g) → Ev G l M R Z cs sl (pc + 3) L (S) (SH, RF, g)) : Ev G l M R Z cs sl pc L (av.reverse ++ S) (SH, RF, f) := by
  cases o with
  | none => exact (hP h).elim
  | some g =>
    skip
    have hq : OkV (fun r μ => r = none ∧ μ = (SH, RF, g)) (some g) := ⟨rfl, rfl⟩
    refine ev_callS hd (hret _ hq) hk.1 hlk hk.2 hav hR hst hcm ?_
    rintro r μ ⟨rfl, rfl⟩
    exact kk g h
theorem ev_cSI {o : Option (Int × Mm)} {K : Int → Mm → Option β} (hP : P none → False) (h : P (b2 o K)) (hd : decode (mC M) pc = .ok (.invokestatic idx, 3)) (hret : ∀ Q' : Option AV → Mem → Prop, OkI Q' o → Ret G l Mc d 0 0 av (SH, RF, f) Q') (hk : KS Mc n) (hlk : Cond.methodLink (mY M).cls idx (mY Mc) ∈ tblG) (hav : av.length = n) (hR : RR R Mc d) (hst : ((S.map (vO G)).map fun v => v.category).sum ≤ 8) (hcm : cs + 0 ≤ R.cells ∧ sl + 0 ≤ R.slots)
    (kk : ∀ (y : Int) (g : Mm), P (K y g) → Ev G l M R Z cs sl (pc + 3) L (vI y :: S) (SH, RF, g)) : Ev G l M R Z cs sl pc L (av.reverse ++ S) (SH, RF, f) := by
  cases o with
  | none => exact (hP h).elim
  | some q =>
    obtain ⟨y, g⟩ := q
    have hq : OkI (fun r μ => r = some (vI y) ∧ μ = (SH, RF, g)) (some (y, g)) := ⟨rfl, rfl⟩
    refine ev_callS hd (hret _ hq) hk.1 hlk hk.2 hav hR hst hcm ?_
    rintro r μ ⟨rfl, rfl⟩
    exact kk y g h
theorem ev_cSJ {o : Option (Int × Mm)} {K : Int → Mm → Option β} (hP : P none → False) (h : P (b2 o K)) (hd : decode (mC M) pc = .ok (.invokestatic idx, 3)) (hret : ∀ Q' : Option AV → Mem → Prop, OkJ Q' o → Ret G l Mc d 0 0 av (SH, RF, f) Q') (hk : KS Mc n) (hlk : Cond.methodLink (mY M).cls idx (mY Mc) ∈ tblG) (hav : av.length = n) (hR : RR R Mc d) (hst : ((S.map (vO G)).map fun v => v.category).sum ≤ 8) (hcm : cs + 0 ≤ R.cells ∧ sl + 0 ≤ R.slots)
    (kk : ∀ (y : Int) (g : Mm), P (K y g) → Ev G l M R Z cs sl (pc + 3) L (vJ y :: S) (SH, RF, g)) : Ev G l M R Z cs sl pc L (av.reverse ++ S) (SH, RF, f) := by
  cases o with
  | none => exact (hP h).elim
  | some q =>
    obtain ⟨y, g⟩ := q
    have hq : OkJ (fun r μ => r = some (vJ y) ∧ μ = (SH, RF, g)) (some (y, g)) := ⟨rfl, rfl⟩
    refine ev_callS hd (hret _ hq) hk.1 hlk hk.2 hav hR hst hcm ?_
    rintro r μ ⟨rfl, rfl⟩
    exact kk y g h
theorem ev_cSC {cc : Nat} {o : Option Mm} {K : Mm → Option β} (hP : P none → False) (h : P (o.bind K)) (hd : decode (mC M) pc = .ok (.invokestatic idx, 3)) (hret : ∀ Q' : Option AV → Mem → Prop, OkC cc Q' o → Ret G l Mc d 0 0 av (SH, RF, f) Q') (hk : KS Mc n) (hlk : Cond.methodLink (mY M).cls idx (mY Mc) ∈ tblG) (hav : av.length = n) (hR : RR R Mc d) (hst : ((S.map (vO G)).map fun v => v.category).sum ≤ 8) (hcm : cs + 0 ≤ R.cells ∧ sl + 0 ≤ R.slots)
    (kk : ∀ g : Mm, P (K g) → Ev G l M R Z cs sl (pc + 3) L (vR cc :: S) (SH, RF, g)) : Ev G l M R Z cs sl pc L (av.reverse ++ S) (SH, RF, f) := by
  cases o with
  | none => exact (hP h).elim
  | some g =>
    skip
    have hq : OkC cc (fun r μ => r = some (vR cc) ∧ μ = (SH, RF, g)) (some g) := ⟨rfl, rfl⟩
    refine ev_callS hd (hret _ hq) hk.1 hlk hk.2 hav hR hst hcm ?_
    rintro r μ ⟨rfl, rfl⟩
    exact kk g h
theorem ev_cNV {o : Option Mm} {K : Mm → Option β} (hP : P none → False) (h : P (o.bind K)) (hd : decode (mC M) pc = .ok (.invokestatic idx, 3)) (hret : ∀ Q' : Option AV → Mem → Prop, OkV Q' o → Ret G l Mc d 0 0 av (SH, RF, f) Q') (hk : KS Mc n) (hlk : Cond.methodLinkNest (mY M).cls idx (mY Mc) RX10 ∈ nstW) (hav : av.length = n) (hR : RR R Mc d) (hst : ((S.map (vO G)).map fun v => v.category).sum ≤ 8) (hcm : cs + 0 ≤ R.cells ∧ sl + 0 ≤ R.slots)
    (kk : ∀ g : Mm, P (K g) → Ev G l M R Z cs sl (pc + 3) L (S) (SH, RF, g)) : Ev G l M R Z cs sl pc L (av.reverse ++ S) (SH, RF, f) := by
  cases o with
  | none => exact (hP h).elim
  | some g =>
    skip
    have hq : OkV (fun r μ => r = none ∧ μ = (SH, RF, g)) (some g) := ⟨rfl, rfl⟩
    refine ev_callSN hd (hret _ hq) hk.1 hlk hk.2 hav hR hst hcm ?_
    rintro r μ ⟨rfl, rfl⟩
    exact kk g h
theorem ev_cNI {o : Option (Int × Mm)} {K : Int → Mm → Option β} (hP : P none → False) (h : P (b2 o K)) (hd : decode (mC M) pc = .ok (.invokestatic idx, 3)) (hret : ∀ Q' : Option AV → Mem → Prop, OkI Q' o → Ret G l Mc d 0 0 av (SH, RF, f) Q') (hk : KS Mc n) (hlk : Cond.methodLinkNest (mY M).cls idx (mY Mc) RX10 ∈ nstW) (hav : av.length = n) (hR : RR R Mc d) (hst : ((S.map (vO G)).map fun v => v.category).sum ≤ 8) (hcm : cs + 0 ≤ R.cells ∧ sl + 0 ≤ R.slots)
    (kk : ∀ (y : Int) (g : Mm), P (K y g) → Ev G l M R Z cs sl (pc + 3) L (vI y :: S) (SH, RF, g)) : Ev G l M R Z cs sl pc L (av.reverse ++ S) (SH, RF, f) := by
  cases o with
  | none => exact (hP h).elim
  | some q =>
    obtain ⟨y, g⟩ := q
    have hq : OkI (fun r μ => r = some (vI y) ∧ μ = (SH, RF, g)) (some (y, g)) := ⟨rfl, rfl⟩
    refine ev_callSN hd (hret _ hq) hk.1 hlk hk.2 hav hR hst hcm ?_
    rintro r μ ⟨rfl, rfl⟩
    exact kk y g h
theorem ev_cNJ {o : Option (Int × Mm)} {K : Int → Mm → Option β} (hP : P none → False) (h : P (b2 o K)) (hd : decode (mC M) pc = .ok (.invokestatic idx, 3)) (hret : ∀ Q' : Option AV → Mem → Prop, OkJ Q' o → Ret G l Mc d 0 0 av (SH, RF, f) Q') (hk : KS Mc n) (hlk : Cond.methodLinkNest (mY M).cls idx (mY Mc) RX10 ∈ nstW) (hav : av.length = n) (hR : RR R Mc d) (hst : ((S.map (vO G)).map fun v => v.category).sum ≤ 8) (hcm : cs + 0 ≤ R.cells ∧ sl + 0 ≤ R.slots)
    (kk : ∀ (y : Int) (g : Mm), P (K y g) → Ev G l M R Z cs sl (pc + 3) L (vJ y :: S) (SH, RF, g)) : Ev G l M R Z cs sl pc L (av.reverse ++ S) (SH, RF, f) := by
  cases o with
  | none => exact (hP h).elim
  | some q =>
    obtain ⟨y, g⟩ := q
    have hq : OkJ (fun r μ => r = some (vJ y) ∧ μ = (SH, RF, g)) (some (y, g)) := ⟨rfl, rfl⟩
    refine ev_callSN hd (hret _ hq) hk.1 hlk hk.2 hav hR hst hcm ?_
    rintro r μ ⟨rfl, rfl⟩
    exact kk y g h
theorem ev_cNC {cc : Nat} {o : Option Mm} {K : Mm → Option β} (hP : P none → False) (h : P (o.bind K)) (hd : decode (mC M) pc = .ok (.invokestatic idx, 3)) (hret : ∀ Q' : Option AV → Mem → Prop, OkC cc Q' o → Ret G l Mc d 0 0 av (SH, RF, f) Q') (hk : KS Mc n) (hlk : Cond.methodLinkNest (mY M).cls idx (mY Mc) RX10 ∈ nstW) (hav : av.length = n) (hR : RR R Mc d) (hst : ((S.map (vO G)).map fun v => v.category).sum ≤ 8) (hcm : cs + 0 ≤ R.cells ∧ sl + 0 ≤ R.slots)
    (kk : ∀ g : Mm, P (K g) → Ev G l M R Z cs sl (pc + 3) L (vR cc :: S) (SH, RF, g)) : Ev G l M R Z cs sl pc L (av.reverse ++ S) (SH, RF, f) := by
  cases o with
  | none => exact (hP h).elim
  | some g =>
    skip
    have hq : OkC cc (fun r μ => r = some (vR cc) ∧ μ = (SH, RF, g)) (some g) := ⟨rfl, rfl⟩
    refine ev_callSN hd (hret _ hq) hk.1 hlk hk.2 hav hR hst hcm ?_
    rintro r μ ⟨rfl, rfl⟩
    exact kk g h
end Calls2

set_option maxRecDepth 100000 in
theorem cw_1 : lw_tbl[907]? = some (wCode 1) := rfl
set_option maxRecDepth 100000 in
theorem cw_2 : lw_tbl[911]? = some (wCode 2) := rfl
set_option maxRecDepth 100000 in
theorem cw_3 : lw_tbl[392]? = some (wCode 3) := rfl
set_option maxRecDepth 100000 in
theorem cw_4 : lw_tbl[896]? = some (wCode 4) := rfl
set_option maxRecDepth 100000 in
theorem cw_5 : lw_tbl[916]? = some (wCode 5) := rfl
set_option maxRecDepth 100000 in
theorem cw_6 : lw_tbl[303]? = some (wCode 6) := rfl
set_option maxRecDepth 100000 in
theorem cw_7 : lw_tbl[307]? = some (wCode 7) := rfl
set_option maxRecDepth 100000 in
theorem cw_8 : lw_tbl[311]? = some (wCode 8) := rfl
set_option maxRecDepth 100000 in
theorem cw_9 : lw_tbl[318]? = some (wCode 9) := rfl
set_option maxRecDepth 100000 in
theorem cw_10 : lw_tbl[314]? = some (wCode 10) := rfl
set_option maxRecDepth 100000 in
theorem cw_11 : lw_tbl[326]? = some (wCode 11) := rfl
set_option maxRecDepth 100000 in
theorem cw_12 : lw_tbl[331]? = some (wCode 12) := rfl
set_option maxRecDepth 100000 in
theorem cw_13 : lw_tbl[335]? = some (wCode 13) := rfl
set_option maxRecDepth 100000 in
theorem cw_14 : lw_tbl[339]? = some (wCode 14) := rfl
set_option maxRecDepth 100000 in
theorem cw_15 : lw_tbl[342]? = some (wCode 15) := rfl
set_option maxRecDepth 100000 in
theorem cw_17 : lw_tbl[388]? = some (wCode 17) := rfl
set_option maxRecDepth 100000 in
theorem cw_18 : lw_tbl[291]? = some (wCode 18) := rfl
set_option maxRecDepth 100000 in
theorem cw_19 : lw_tbl[659]? = some (wCode 19) := rfl
set_option maxRecDepth 100000 in
theorem cw_20 : lw_tbl[650]? = some (wCode 20) := rfl
set_option maxRecDepth 100000 in
theorem cw_22 : lw_tbl[765]? = some (wCode 22) := rfl
set_option maxRecDepth 100000 in
theorem cw_23 : lw_tbl[711]? = some (wCode 23) := rfl
set_option maxRecDepth 100000 in
theorem cw_24 : lw_tbl[716]? = some (wCode 24) := rfl
set_option maxRecDepth 100000 in
theorem cw_25 : lw_tbl[737]? = some (wCode 25) := rfl
set_option maxRecDepth 100000 in
theorem cw_26 : lw_tbl[741]? = some (wCode 26) := rfl
set_option maxRecDepth 100000 in
theorem cw_27 : lw_tbl[745]? = some (wCode 27) := rfl
set_option maxRecDepth 100000 in
theorem cw_28 : lw_tbl[749]? = some (wCode 28) := rfl
set_option maxRecDepth 100000 in
theorem cw_29 : lw_tbl[753]? = some (wCode 29) := rfl
set_option maxRecDepth 100000 in
theorem cw_30 : lw_tbl[757]? = some (wCode 30) := rfl
set_option maxRecDepth 100000 in
theorem cw_31 : lw_tbl[761]? = some (wCode 31) := rfl
set_option maxRecDepth 100000 in
theorem cw_33 : lw_tbl[356]? = some (wCode 33) := rfl
set_option maxRecDepth 100000 in
theorem cw_34 : lw_tbl[360]? = some (wCode 34) := rfl
set_option maxRecDepth 100000 in
theorem cw_35 : lw_tbl[479]? = some (wCode 35) := rfl
set_option maxRecDepth 100000 in
theorem cw_36 : lw_tbl[542]? = some (wCode 36) := rfl
set_option maxRecDepth 100000 in
theorem cw_37 : lw_tbl[499]? = some (wCode 37) := rfl
set_option maxRecDepth 100000 in
theorem cw_38 : lw_tbl[531]? = some (wCode 38) := rfl
set_option maxRecDepth 100000 in
theorem cw_39 : lw_tbl[547]? = some (wCode 39) := rfl
set_option maxRecDepth 100000 in
theorem cw_40 : lw_tbl[551]? = some (wCode 40) := rfl
set_option maxRecDepth 100000 in
theorem cw_41 : lw_tbl[555]? = some (wCode 41) := rfl
set_option maxRecDepth 100000 in
theorem cw_42 : lw_tbl[575]? = some (wCode 42) := rfl
set_option maxRecDepth 100000 in
theorem cw_43 : lw_tbl[571]? = some (wCode 43) := rfl
set_option maxRecDepth 100000 in
theorem cw_45 : lw_tbl[372]? = some (wCode 45) := rfl
set_option maxRecDepth 100000 in
theorem cw_46 : lw_tbl[591]? = some (wCode 46) := rfl
set_option maxRecDepth 100000 in
theorem cw_47 : lw_tbl[631]? = some (wCode 47) := rfl
set_option maxRecDepth 100000 in
theorem cw_48 : lw_tbl[646]? = some (wCode 48) := rfl
set_option maxRecDepth 100000 in
theorem cw_49 : lw_tbl[619]? = some (wCode 49) := rfl
set_option maxRecDepth 100000 in
theorem cw_50 : lw_tbl[655]? = some (wCode 50) := rfl
set_option maxRecDepth 100000 in
theorem cw_51 : lw_tbl[782]? = some (wCode 51) := rfl
set_option maxRecDepth 100000 in
theorem cw_53 : lw_tbl[364]? = some (wCode 53) := rfl
set_option maxRecDepth 100000 in
theorem cw_54 : lw_tbl[384]? = some (wCode 54) := rfl
set_option maxRecDepth 100000 in
theorem cw_55 : lw_tbl[820]? = some (wCode 55) := rfl
set_option maxRecDepth 100000 in
theorem cw_56 : lw_tbl[824]? = some (wCode 56) := rfl
set_option maxRecDepth 100000 in
theorem cw_57 : lw_tbl[829]? = some (wCode 57) := rfl
set_option maxRecDepth 100000 in
theorem cw_58 : lw_tbl[847]? = some (wCode 58) := rfl
set_option maxRecDepth 100000 in
theorem cw_59 : lw_tbl[733]? = some (wCode 59) := rfl
set_option maxRecDepth 100000 in
theorem cw_60 : lw_tbl[721]? = some (wCode 60) := rfl
set_option maxRecDepth 100000 in
theorem cw_61 : lw_tbl[725]? = some (wCode 61) := rfl
set_option maxRecDepth 100000 in
theorem cw_62 : lw_tbl[860]? = some (wCode 62) := rfl
set_option maxRecDepth 100000 in
theorem cw_63 : lw_tbl[729]? = some (wCode 63) := rfl
set_option maxRecDepth 100000 in
theorem cw_64 : lw_tbl[769]? = some (wCode 64) := rfl
set_option maxRecDepth 100000 in
theorem cw_65 : lw_tbl[881]? = some (wCode 65) := rfl
set_option maxRecDepth 100000 in
theorem cw_67 : lw_tbl[587]? = some (wCode 67) := rfl
set_option maxRecDepth 100000 in
theorem cw_68 : lw_tbl[606]? = some (wCode 68) := rfl
set_option maxRecDepth 100000 in
theorem cw_69 : lw_tbl[610]? = some (wCode 69) := rfl
set_option maxRecDepth 100000 in
theorem cw_70 : lw_tbl[623]? = some (wCode 70) := rfl
set_option maxRecDepth 100000 in
theorem cw_71 : lw_tbl[689]? = some (wCode 71) := rfl
set_option maxRecDepth 100000 in
theorem cw_72 : lw_tbl[368]? = some (wCode 72) := rfl
set_option maxRecDepth 100000 in
theorem cw_73 : lw_tbl[376]? = some (wCode 73) := rfl
set_option maxRecDepth 100000 in
theorem cw_74 : lw_tbl[380]? = some (wCode 74) := rfl
set_option maxRecDepth 100000 in
theorem cw_75 : lw_tbl[615]? = some (wCode 75) := rfl
set_option maxRecDepth 100000 in
theorem cw_76 : lw_tbl[627]? = some (wCode 76) := rfl
set_option maxRecDepth 100000 in
theorem cw_77 : lw_tbl[642]? = some (wCode 77) := rfl
set_option maxRecDepth 100000 in
theorem cw_78 : lw_tbl[674]? = some (wCode 78) := rfl
set_option maxRecDepth 100000 in
theorem cw_79 : lw_tbl[773]? = some (wCode 79) := rfl
set_option maxRecDepth 100000 in
theorem cw_80 : lw_tbl[778]? = some (wCode 80) := rfl
set_option maxRecDepth 100000 in
theorem cw_81 : lw_tbl[787]? = some (wCode 81) := rfl
set_option maxRecDepth 100000 in
theorem cw_82 : lw_tbl[798]? = some (wCode 82) := rfl
set_option maxRecDepth 100000 in
theorem cw_83 : lw_tbl[809]? = some (wCode 83) := rfl
set_option maxRecDepth 100000 in
theorem cw_85 : lw_tbl[401]? = some (wCode 85) := rfl
set_option maxRecDepth 100000 in
theorem cw_86 : lw_tbl[507]? = some (wCode 86) := rfl
set_option maxRecDepth 100000 in
theorem cw_87 : lw_tbl[538]? = some (wCode 87) := rfl
set_option maxRecDepth 100000 in
theorem cw_88 : lw_tbl[562]? = some (wCode 88) := rfl
set_option maxRecDepth 100000 in
theorem cw_89 : lw_tbl[582]? = some (wCode 89) := rfl
set_option maxRecDepth 100000 in
theorem cw_90 : lw_tbl[598]? = some (wCode 90) := rfl
set_option maxRecDepth 100000 in
theorem cw_91 : lw_tbl[287]? = some (wCode 91) := rfl
set_option maxRecDepth 100000 in
theorem cw_92 : lw_tbl[638]? = some (wCode 92) := rfl
set_option maxRecDepth 100000 in
theorem cw_93 : lw_tbl[666]? = some (wCode 93) := rfl
set_option maxRecDepth 100000 in
theorem cw_94 : lw_tbl[681]? = some (wCode 94) := rfl
set_option maxRecDepth 100000 in
theorem cw_95 : lw_tbl[696]? = some (wCode 95) := rfl
set_option maxRecDepth 100000 in
theorem cw_96 : lw_tbl[794]? = some (wCode 96) := rfl
set_option maxRecDepth 100000 in
theorem cw_97 : lw_tbl[805]? = some (wCode 97) := rfl
set_option maxRecDepth 100000 in
theorem cw_98 : lw_tbl[816]? = some (wCode 98) := rfl
set_option maxRecDepth 100000 in
theorem cw_99 : lw_tbl[836]? = some (wCode 99) := rfl
set_option maxRecDepth 100000 in
theorem cw_100 : lw_tbl[854]? = some (wCode 100) := rfl
set_option maxRecDepth 100000 in
theorem cw_101 : lw_tbl[868]? = some (wCode 101) := rfl
set_option maxRecDepth 100000 in
theorem cw_102 : lw_tbl[295]? = some (wCode 102) := rfl
set_option maxRecDepth 100000 in
theorem cw_103 : lw_tbl[876]? = some (wCode 103) := rfl
set_option maxRecDepth 100000 in
theorem cw_104 : lw_tbl[888]? = some (wCode 104) := rfl
set_option maxRecDepth 100000 in
theorem cw_105 : lw_tbl[903]? = some (wCode 105) := rfl
set_option maxRecDepth 100000 in
theorem cw_106 : lw_tbl[299]? = some (wCode 106) := rfl
set_option maxRecDepth 100000 in
theorem cw_107 : lw_tbl[322]? = some (wCode 107) := rfl
set_option maxRecDepth 100000 in
theorem cw_108 : lw_tbl[352]? = some (wCode 108) := rfl
set_option maxRecDepth 100000 in
theorem cw_109 : lw_tbl[407]? = some (wCode 109) := rfl
set_option maxRecDepth 100000 in
theorem cw_110 : lw_tbl[404]? = some (wCode 110) := rfl
set_option maxRecDepth 100000 in
theorem cw_111 : lw_tbl[669]? = some (wCode 111) := rfl
set_option maxRecDepth 100000 in
theorem cw_112 : lw_tbl[891]? = some (wCode 112) := rfl
set_option maxRecDepth 100000 in
theorem cw_113 : lw_tbl[511]? = some (wCode 113) := rfl
set_option maxRecDepth 100000 in
theorem cw_114 : lw_tbl[566]? = some (wCode 114) := rfl
set_option maxRecDepth 100000 in
theorem cw_115 : lw_tbl[840]? = some (wCode 115) := rfl
set_option maxRecDepth 100000 in
theorem cw_116 : lw_tbl[602]? = some (wCode 116) := rfl
set_option maxRecDepth 100000 in
theorem cw_117 : lw_tbl[685]? = some (wCode 117) := rfl
set_option maxRecDepth 100000 in
theorem cw_118 : lw_tbl[702]? = some (wCode 118) := rfl
set_option maxRecDepth 100000 in
theorem cw_119 : lw_tbl[707]? = some (wCode 119) := rfl
set_option maxRecDepth 100000 in
theorem cw_121 : lw_tbl[1093]? = some (wCode 121) := rfl
set_option maxRecDepth 100000 in
theorem cw_122 : lw_tbl[1104]? = some (wCode 122) := rfl
set_option maxRecDepth 100000 in
theorem cw_123 : lw_tbl[1100]? = some (wCode 123) := rfl
set_option maxRecDepth 100000 in
theorem cw_124 : lw_tbl[1112]? = some (wCode 124) := rfl
set_option maxRecDepth 100000 in
theorem cw_125 : lw_tbl[1097]? = some (wCode 125) := rfl
set_option maxRecDepth 100000 in
theorem cw_126 : lw_tbl[1108]? = some (wCode 126) := rfl
set_option maxRecDepth 100000 in
theorem cw_127 : lw_tbl[1116]? = some (wCode 127) := rfl
set_option maxRecDepth 100000 in
theorem cw_128 : lw_tbl[1124]? = some (wCode 128) := rfl
set_option maxRecDepth 100000 in
theorem cw_129 : lw_tbl[1128]? = some (wCode 129) := rfl
set_option maxRecDepth 100000 in
theorem cw_130 : lw_tbl[1120]? = some (wCode 130) := rfl
set_option maxRecDepth 100000 in
theorem cw_131 : lw_tbl[1132]? = some (wCode 131) := rfl
set_option maxRecDepth 100000 in
theorem cw_132 : lw_tbl[1136]? = some (wCode 132) := rfl
set_option maxRecDepth 100000 in
theorem cw_133 : lw_tbl[1140]? = some (wCode 133) := rfl
set_option maxRecDepth 100000 in
theorem cw_134 : lw_tbl[1144]? = some (wCode 134) := rfl
set_option maxRecDepth 100000 in
theorem cw_135 : lw_tbl[1149]? = some (wCode 135) := rfl
set_option maxRecDepth 100000 in
theorem cw_136 : lw_tbl[1153]? = some (wCode 136) := rfl
set_option maxRecDepth 100000 in
theorem cw_137 : lw_tbl[1216]? = some (wCode 137) := rfl
set_option maxRecDepth 100000 in
theorem cw_138 : lw_tbl[1212]? = some (wCode 138) := rfl
set_option maxRecDepth 100000 in
theorem cw_139 : lw_tbl[1160]? = some (wCode 139) := rfl
set_option maxRecDepth 100000 in
theorem cw_140 : lw_tbl[1157]? = some (wCode 140) := rfl
set_option maxRecDepth 100000 in
theorem cw_141 : lw_tbl[1168]? = some (wCode 141) := rfl
set_option maxRecDepth 100000 in
theorem cw_142 : lw_tbl[1164]? = some (wCode 142) := rfl
set_option maxRecDepth 100000 in
theorem cw_143 : lw_tbl[1172]? = some (wCode 143) := rfl
set_option maxRecDepth 100000 in
theorem cw_144 : lw_tbl[1220]? = some (wCode 144) := rfl
set_option maxRecDepth 100000 in
theorem cw_145 : lw_tbl[1224]? = some (wCode 145) := rfl
set_option maxRecDepth 100000 in
theorem cw_146 : lw_tbl[1228]? = some (wCode 146) := rfl
set_option maxRecDepth 100000 in
theorem cw_147 : lw_tbl[1236]? = some (wCode 147) := rfl
set_option maxRecDepth 100000 in
theorem cw_148 : lw_tbl[1232]? = some (wCode 148) := rfl
set_option maxRecDepth 100000 in
theorem cw_149 : lw_tbl[1241]? = some (wCode 149) := rfl
set_option maxRecDepth 100000 in
theorem cw_150 : lw_tbl[1245]? = some (wCode 150) := rfl
set_option maxRecDepth 100000 in
theorem cw_151 : lw_tbl[1188]? = some (wCode 151) := rfl
set_option maxRecDepth 100000 in
theorem cw_152 : lw_tbl[1192]? = some (wCode 152) := rfl
set_option maxRecDepth 100000 in
theorem cw_153 : lw_tbl[1196]? = some (wCode 153) := rfl
set_option maxRecDepth 100000 in
theorem cw_154 : lw_tbl[1200]? = some (wCode 154) := rfl
set_option maxRecDepth 100000 in
theorem cw_155 : lw_tbl[1184]? = some (wCode 155) := rfl
set_option maxRecDepth 100000 in
theorem cw_156 : lw_tbl[1208]? = some (wCode 156) := rfl
set_option maxRecDepth 100000 in
theorem cw_157 : lw_tbl[1204]? = some (wCode 157) := rfl
set_option maxRecDepth 100000 in
theorem cw_158 : lw_tbl[1180]? = some (wCode 158) := rfl
set_option maxRecDepth 100000 in
theorem cw_159 : lw_tbl[1176]? = some (wCode 159) := rfl
set_option maxRecDepth 100000 in
theorem cw_160 : lw_tbl[1249]? = some (wCode 160) := rfl
set_option maxRecDepth 100000 in
theorem cw_161 : lw_tbl[1253]? = some (wCode 161) := rfl
set_option maxRecDepth 100000 in
theorem cw_162 : lw_tbl[1263]? = some (wCode 162) := rfl
set_option maxRecDepth 100000 in
theorem cw_163 : lw_tbl[1260]? = some (wCode 163) := rfl
set_option maxRecDepth 100000 in
theorem cw_164 : lw_tbl[1257]? = some (wCode 164) := rfl
set_option maxRecDepth 100000 in
theorem cw_165 : lw_tbl[1267]? = some (wCode 165) := rfl
set_option maxRecDepth 100000 in
theorem cw_166 : lw_tbl[1279]? = some (wCode 166) := rfl
set_option maxRecDepth 100000 in
theorem cw_167 : lw_tbl[1287]? = some (wCode 167) := rfl
set_option maxRecDepth 100000 in
theorem cw_168 : lw_tbl[1291]? = some (wCode 168) := rfl
set_option maxRecDepth 100000 in
theorem cw_169 : lw_tbl[1283]? = some (wCode 169) := rfl
set_option maxRecDepth 100000 in
theorem cw_170 : lw_tbl[1275]? = some (wCode 170) := rfl
set_option maxRecDepth 100000 in
theorem cw_171 : lw_tbl[1271]? = some (wCode 171) := rfl
set_option maxRecDepth 100000 in
theorem cw_172 : lw_tbl[1302]? = some (wCode 172) := rfl
set_option maxRecDepth 100000 in
theorem cw_173 : lw_tbl[1305]? = some (wCode 173) := rfl
set_option maxRecDepth 100000 in
theorem cw_174 : lw_tbl[1299]? = some (wCode 174) := rfl
set_option maxRecDepth 100000 in
theorem cw_175 : lw_tbl[1295]? = some (wCode 175) := rfl
set_option maxRecDepth 100000 in
theorem cw_176 : lw_tbl[1309]? = some (wCode 176) := rfl
set_option maxRecDepth 100000 in
theorem cw_179 : lw_tbl[395]? = some (wCode 179) := rfl
set_option maxRecDepth 100000 in
theorem cw_180 : lw_tbl[502]? = some (wCode 180) := rfl
set_option maxRecDepth 100000 in
theorem cw_181 : lw_tbl[534]? = some (wCode 181) := rfl
set_option maxRecDepth 100000 in
theorem cw_182 : lw_tbl[558]? = some (wCode 182) := rfl
set_option maxRecDepth 100000 in
theorem cw_183 : lw_tbl[578]? = some (wCode 183) := rfl
set_option maxRecDepth 100000 in
theorem cw_184 : lw_tbl[594]? = some (wCode 184) := rfl
set_option maxRecDepth 100000 in
theorem cw_185 : lw_tbl[634]? = some (wCode 185) := rfl
set_option maxRecDepth 100000 in
theorem cw_186 : lw_tbl[662]? = some (wCode 186) := rfl
set_option maxRecDepth 100000 in
theorem cw_187 : lw_tbl[677]? = some (wCode 187) := rfl
set_option maxRecDepth 100000 in
theorem cw_188 : lw_tbl[692]? = some (wCode 188) := rfl
set_option maxRecDepth 100000 in
theorem cw_189 : lw_tbl[790]? = some (wCode 189) := rfl
set_option maxRecDepth 100000 in
theorem cw_190 : lw_tbl[801]? = some (wCode 190) := rfl
set_option maxRecDepth 100000 in
theorem cw_191 : lw_tbl[812]? = some (wCode 191) := rfl
set_option maxRecDepth 100000 in
theorem cw_192 : lw_tbl[832]? = some (wCode 192) := rfl
set_option maxRecDepth 100000 in
theorem cw_193 : lw_tbl[850]? = some (wCode 193) := rfl
set_option maxRecDepth 100000 in
theorem cw_194 : lw_tbl[864]? = some (wCode 194) := rfl
set_option maxRecDepth 100000 in
theorem cw_195 : lw_tbl[872]? = some (wCode 195) := rfl
set_option maxRecDepth 100000 in
theorem cw_196 : lw_tbl[884]? = some (wCode 196) := rfl
set_option maxRecDepth 100000 in
theorem cw_197 : lw_tbl[899]? = some (wCode 197) := rfl
set_option maxRecDepth 100000 in
theorem cw_ok : ∀ i, i < NMT → kdT i ≠ 0 → wCode i ∈ GW := by
  intro i hi hk
  match i, hi, hk with
  | 0, _, hk => exact absurd rfl hk
  | 1, _, _ => exact gw_of cw_1 (wCode_good _)
  | 2, _, _ => exact gw_of cw_2 (wCode_good _)
  | 3, _, _ => exact gw_of cw_3 (wCode_good _)
  | 4, _, _ => exact gw_of cw_4 (wCode_good _)
  | 5, _, _ => exact gw_of cw_5 (wCode_good _)
  | 6, _, _ => exact gw_of cw_6 (wCode_good _)
  | 7, _, _ => exact gw_of cw_7 (wCode_good _)
  | 8, _, _ => exact gw_of cw_8 (wCode_good _)
  | 9, _, _ => exact gw_of cw_9 (wCode_good _)
  | 10, _, _ => exact gw_of cw_10 (wCode_good _)
  | 11, _, _ => exact gw_of cw_11 (wCode_good _)
  | 12, _, _ => exact gw_of cw_12 (wCode_good _)
  | 13, _, _ => exact gw_of cw_13 (wCode_good _)
  | 14, _, _ => exact gw_of cw_14 (wCode_good _)
  | 15, _, _ => exact gw_of cw_15 (wCode_good _)
  | 16, _, hk => exact absurd rfl hk
  | 17, _, _ => exact gw_of cw_17 (wCode_good _)
  | 18, _, _ => exact gw_of cw_18 (wCode_good _)
  | 19, _, _ => exact gw_of cw_19 (wCode_good _)
  | 20, _, _ => exact gw_of cw_20 (wCode_good _)
  | 21, _, hk => exact absurd rfl hk
  | 22, _, _ => exact gw_of cw_22 (wCode_good _)
  | 23, _, _ => exact gw_of cw_23 (wCode_good _)
  | 24, _, _ => exact gw_of cw_24 (wCode_good _)
  | 25, _, _ => exact gw_of cw_25 (wCode_good _)
  | 26, _, _ => exact gw_of cw_26 (wCode_good _)
  | 27, _, _ => exact gw_of cw_27 (wCode_good _)
  | 28, _, _ => exact gw_of cw_28 (wCode_good _)
  | 29, _, _ => exact gw_of cw_29 (wCode_good _)
  | 30, _, _ => exact gw_of cw_30 (wCode_good _)
  | 31, _, _ => exact gw_of cw_31 (wCode_good _)
  | 32, _, hk => exact absurd rfl hk
  | 33, _, _ => exact gw_of cw_33 (wCode_good _)
  | 34, _, _ => exact gw_of cw_34 (wCode_good _)
  | 35, _, _ => exact gw_of cw_35 (wCode_good _)
  | 36, _, _ => exact gw_of cw_36 (wCode_good _)
  | 37, _, _ => exact gw_of cw_37 (wCode_good _)
  | 38, _, _ => exact gw_of cw_38 (wCode_good _)
  | 39, _, _ => exact gw_of cw_39 (wCode_good _)
  | 40, _, _ => exact gw_of cw_40 (wCode_good _)
  | 41, _, _ => exact gw_of cw_41 (wCode_good _)
  | 42, _, _ => exact gw_of cw_42 (wCode_good _)
  | 43, _, _ => exact gw_of cw_43 (wCode_good _)
  | 44, _, hk => exact absurd rfl hk
  | 45, _, _ => exact gw_of cw_45 (wCode_good _)
  | 46, _, _ => exact gw_of cw_46 (wCode_good _)
  | 47, _, _ => exact gw_of cw_47 (wCode_good _)
  | 48, _, _ => exact gw_of cw_48 (wCode_good _)
  | 49, _, _ => exact gw_of cw_49 (wCode_good _)
  | 50, _, _ => exact gw_of cw_50 (wCode_good _)
  | 51, _, _ => exact gw_of cw_51 (wCode_good _)
  | 52, _, hk => exact absurd rfl hk
  | 53, _, _ => exact gw_of cw_53 (wCode_good _)
  | 54, _, _ => exact gw_of cw_54 (wCode_good _)
  | 55, _, _ => exact gw_of cw_55 (wCode_good _)
  | 56, _, _ => exact gw_of cw_56 (wCode_good _)
  | 57, _, _ => exact gw_of cw_57 (wCode_good _)
  | 58, _, _ => exact gw_of cw_58 (wCode_good _)
  | 59, _, _ => exact gw_of cw_59 (wCode_good _)
  | 60, _, _ => exact gw_of cw_60 (wCode_good _)
  | 61, _, _ => exact gw_of cw_61 (wCode_good _)
  | 62, _, _ => exact gw_of cw_62 (wCode_good _)
  | 63, _, _ => exact gw_of cw_63 (wCode_good _)
  | 64, _, _ => exact gw_of cw_64 (wCode_good _)
  | 65, _, _ => exact gw_of cw_65 (wCode_good _)
  | 66, _, hk => exact absurd rfl hk
  | 67, _, _ => exact gw_of cw_67 (wCode_good _)
  | 68, _, _ => exact gw_of cw_68 (wCode_good _)
  | 69, _, _ => exact gw_of cw_69 (wCode_good _)
  | 70, _, _ => exact gw_of cw_70 (wCode_good _)
  | 71, _, _ => exact gw_of cw_71 (wCode_good _)
  | 72, _, _ => exact gw_of cw_72 (wCode_good _)
  | 73, _, _ => exact gw_of cw_73 (wCode_good _)
  | 74, _, _ => exact gw_of cw_74 (wCode_good _)
  | 75, _, _ => exact gw_of cw_75 (wCode_good _)
  | 76, _, _ => exact gw_of cw_76 (wCode_good _)
  | 77, _, _ => exact gw_of cw_77 (wCode_good _)
  | 78, _, _ => exact gw_of cw_78 (wCode_good _)
  | 79, _, _ => exact gw_of cw_79 (wCode_good _)
  | 80, _, _ => exact gw_of cw_80 (wCode_good _)
  | 81, _, _ => exact gw_of cw_81 (wCode_good _)
  | 82, _, _ => exact gw_of cw_82 (wCode_good _)
  | 83, _, _ => exact gw_of cw_83 (wCode_good _)
  | 84, _, hk => exact absurd rfl hk
  | 85, _, _ => exact gw_of cw_85 (wCode_good _)
  | 86, _, _ => exact gw_of cw_86 (wCode_good _)
  | 87, _, _ => exact gw_of cw_87 (wCode_good _)
  | 88, _, _ => exact gw_of cw_88 (wCode_good _)
  | 89, _, _ => exact gw_of cw_89 (wCode_good _)
  | 90, _, _ => exact gw_of cw_90 (wCode_good _)
  | 91, _, _ => exact gw_of cw_91 (wCode_good _)
  | 92, _, _ => exact gw_of cw_92 (wCode_good _)
  | 93, _, _ => exact gw_of cw_93 (wCode_good _)
  | 94, _, _ => exact gw_of cw_94 (wCode_good _)
  | 95, _, _ => exact gw_of cw_95 (wCode_good _)
  | 96, _, _ => exact gw_of cw_96 (wCode_good _)
  | 97, _, _ => exact gw_of cw_97 (wCode_good _)
  | 98, _, _ => exact gw_of cw_98 (wCode_good _)
  | 99, _, _ => exact gw_of cw_99 (wCode_good _)
  | 100, _, _ => exact gw_of cw_100 (wCode_good _)
  | 101, _, _ => exact gw_of cw_101 (wCode_good _)
  | 102, _, _ => exact gw_of cw_102 (wCode_good _)
  | 103, _, _ => exact gw_of cw_103 (wCode_good _)
  | 104, _, _ => exact gw_of cw_104 (wCode_good _)
  | 105, _, _ => exact gw_of cw_105 (wCode_good _)
  | 106, _, _ => exact gw_of cw_106 (wCode_good _)
  | 107, _, _ => exact gw_of cw_107 (wCode_good _)
  | 108, _, _ => exact gw_of cw_108 (wCode_good _)
  | 109, _, _ => exact gw_of cw_109 (wCode_good _)
  | 110, _, _ => exact gw_of cw_110 (wCode_good _)
  | 111, _, _ => exact gw_of cw_111 (wCode_good _)
  | 112, _, _ => exact gw_of cw_112 (wCode_good _)
  | 113, _, _ => exact gw_of cw_113 (wCode_good _)
  | 114, _, _ => exact gw_of cw_114 (wCode_good _)
  | 115, _, _ => exact gw_of cw_115 (wCode_good _)
  | 116, _, _ => exact gw_of cw_116 (wCode_good _)
  | 117, _, _ => exact gw_of cw_117 (wCode_good _)
  | 118, _, _ => exact gw_of cw_118 (wCode_good _)
  | 119, _, _ => exact gw_of cw_119 (wCode_good _)
  | 120, _, hk => exact absurd rfl hk
  | 121, _, _ => exact gw_of cw_121 (wCode_good _)
  | 122, _, _ => exact gw_of cw_122 (wCode_good _)
  | 123, _, _ => exact gw_of cw_123 (wCode_good _)
  | 124, _, _ => exact gw_of cw_124 (wCode_good _)
  | 125, _, _ => exact gw_of cw_125 (wCode_good _)
  | 126, _, _ => exact gw_of cw_126 (wCode_good _)
  | 127, _, _ => exact gw_of cw_127 (wCode_good _)
  | 128, _, _ => exact gw_of cw_128 (wCode_good _)
  | 129, _, _ => exact gw_of cw_129 (wCode_good _)
  | 130, _, _ => exact gw_of cw_130 (wCode_good _)
  | 131, _, _ => exact gw_of cw_131 (wCode_good _)
  | 132, _, _ => exact gw_of cw_132 (wCode_good _)
  | 133, _, _ => exact gw_of cw_133 (wCode_good _)
  | 134, _, _ => exact gw_of cw_134 (wCode_good _)
  | 135, _, _ => exact gw_of cw_135 (wCode_good _)
  | 136, _, _ => exact gw_of cw_136 (wCode_good _)
  | 137, _, _ => exact gw_of cw_137 (wCode_good _)
  | 138, _, _ => exact gw_of cw_138 (wCode_good _)
  | 139, _, _ => exact gw_of cw_139 (wCode_good _)
  | 140, _, _ => exact gw_of cw_140 (wCode_good _)
  | 141, _, _ => exact gw_of cw_141 (wCode_good _)
  | 142, _, _ => exact gw_of cw_142 (wCode_good _)
  | 143, _, _ => exact gw_of cw_143 (wCode_good _)
  | 144, _, _ => exact gw_of cw_144 (wCode_good _)
  | 145, _, _ => exact gw_of cw_145 (wCode_good _)
  | 146, _, _ => exact gw_of cw_146 (wCode_good _)
  | 147, _, _ => exact gw_of cw_147 (wCode_good _)
  | 148, _, _ => exact gw_of cw_148 (wCode_good _)
  | 149, _, _ => exact gw_of cw_149 (wCode_good _)
  | 150, _, _ => exact gw_of cw_150 (wCode_good _)
  | 151, _, _ => exact gw_of cw_151 (wCode_good _)
  | 152, _, _ => exact gw_of cw_152 (wCode_good _)
  | 153, _, _ => exact gw_of cw_153 (wCode_good _)
  | 154, _, _ => exact gw_of cw_154 (wCode_good _)
  | 155, _, _ => exact gw_of cw_155 (wCode_good _)
  | 156, _, _ => exact gw_of cw_156 (wCode_good _)
  | 157, _, _ => exact gw_of cw_157 (wCode_good _)
  | 158, _, _ => exact gw_of cw_158 (wCode_good _)
  | 159, _, _ => exact gw_of cw_159 (wCode_good _)
  | 160, _, _ => exact gw_of cw_160 (wCode_good _)
  | 161, _, _ => exact gw_of cw_161 (wCode_good _)
  | 162, _, _ => exact gw_of cw_162 (wCode_good _)
  | 163, _, _ => exact gw_of cw_163 (wCode_good _)
  | 164, _, _ => exact gw_of cw_164 (wCode_good _)
  | 165, _, _ => exact gw_of cw_165 (wCode_good _)
  | 166, _, _ => exact gw_of cw_166 (wCode_good _)
  | 167, _, _ => exact gw_of cw_167 (wCode_good _)
  | 168, _, _ => exact gw_of cw_168 (wCode_good _)
  | 169, _, _ => exact gw_of cw_169 (wCode_good _)
  | 170, _, _ => exact gw_of cw_170 (wCode_good _)
  | 171, _, _ => exact gw_of cw_171 (wCode_good _)
  | 172, _, _ => exact gw_of cw_172 (wCode_good _)
  | 173, _, _ => exact gw_of cw_173 (wCode_good _)
  | 174, _, _ => exact gw_of cw_174 (wCode_good _)
  | 175, _, _ => exact gw_of cw_175 (wCode_good _)
  | 176, _, _ => exact gw_of cw_176 (wCode_good _)
  | 177, _, hk => exact absurd rfl hk
  | 178, _, hk => exact absurd rfl hk
  | 179, _, _ => exact gw_of cw_179 (wCode_good _)
  | 180, _, _ => exact gw_of cw_180 (wCode_good _)
  | 181, _, _ => exact gw_of cw_181 (wCode_good _)
  | 182, _, _ => exact gw_of cw_182 (wCode_good _)
  | 183, _, _ => exact gw_of cw_183 (wCode_good _)
  | 184, _, _ => exact gw_of cw_184 (wCode_good _)
  | 185, _, _ => exact gw_of cw_185 (wCode_good _)
  | 186, _, _ => exact gw_of cw_186 (wCode_good _)
  | 187, _, _ => exact gw_of cw_187 (wCode_good _)
  | 188, _, _ => exact gw_of cw_188 (wCode_good _)
  | 189, _, _ => exact gw_of cw_189 (wCode_good _)
  | 190, _, _ => exact gw_of cw_190 (wCode_good _)
  | 191, _, _ => exact gw_of cw_191 (wCode_good _)
  | 192, _, _ => exact gw_of cw_192 (wCode_good _)
  | 193, _, _ => exact gw_of cw_193 (wCode_good _)
  | 194, _, _ => exact gw_of cw_194 (wCode_good _)
  | 195, _, _ => exact gw_of cw_195 (wCode_good _)
  | 196, _, _ => exact gw_of cw_196 (wCode_good _)
  | 197, _, _ => exact gw_of cw_197 (wCode_good _)
  | 198, _, hk => exact absurd rfl hk

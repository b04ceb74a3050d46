set_option maxRecDepth 100000 in
theorem ck_0 : pm_chk 0 0 (pm_code 0) = true := by decide +kernel
set_option maxRecDepth 100000 in
theorem ck_1 : pm_chk 1 0 (pm_code 1) = true := by decide +kernel
set_option maxRecDepth 100000 in
theorem ck_2 : pm_chk 2 0 (pm_code 2) = true := by decide +kernel
set_option maxRecDepth 100000 in
theorem ck_3 : pm_chk 3 0 (pm_code 3) = true := by decide +kernel
set_option maxRecDepth 100000 in
theorem ck_4 : pm_chk 4 0 (pm_code 4) = true := by decide +kernel
set_option maxRecDepth 100000 in
theorem ck_5 : pm_chk 5 0 (pm_code 5) = true := by decide +kernel
set_option maxRecDepth 100000 in
theorem ck_6 : pm_chk 6 0 (pm_code 6) = true := by decide +kernel
set_option maxRecDepth 100000 in
theorem ck_7 : pm_chk 7 0 (pm_code 7) = true := by decide +kernel
set_option maxRecDepth 100000 in
theorem ck_8 : pm_chk 8 0 (pm_code 8) = true := by decide +kernel
set_option maxRecDepth 100000 in
theorem ck_9 : pm_chk 9 0 (pm_code 9) = true := by decide +kernel
set_option maxRecDepth 100000 in
theorem ck_10 : pm_chk 10 0 (pm_code 10) = true := by decide +kernel
set_option maxRecDepth 100000 in
theorem ck_11 : pm_chk 11 0 (pm_code 11) = true := by decide +kernel
set_option maxRecDepth 100000 in
theorem ck_12 : pm_chk 12 0 (pm_code 12) = true := by decide +kernel
set_option maxRecDepth 100000 in
theorem ck_13 : pm_chk 13 0 (pm_code 13) = true := by decide +kernel
set_option maxRecDepth 100000 in
theorem ck_14 : pm_chk 14 0 (pm_code 14) = true := by decide +kernel
set_option maxRecDepth 100000 in
theorem ck_15 : pm_chk 15 0 (pm_code 15) = true := by decide +kernel
set_option maxRecDepth 100000 in
theorem ck_16 : pm_chk 16 0 (pm_code 16) = true := by decide +kernel
set_option maxRecDepth 100000 in
theorem ck_17 : pm_chk 17 0 (pm_code 17) = true := by decide +kernel
set_option maxRecDepth 100000 in
theorem ck_18 : pm_chk 18 0 (pm_code 18) = true := by decide +kernel
set_option maxRecDepth 100000 in
theorem ck_19 : pm_chk 19 0 (pm_code 19) = true := by decide +kernel
set_option maxRecDepth 100000 in
theorem ck_20 : pm_chk 20 0 (pm_code 20) = true := by decide +kernel
set_option maxRecDepth 100000 in
theorem ck_21 : pm_chk 21 0 (pm_code 21) = true := by decide +kernel
set_option maxRecDepth 100000 in
theorem ck_22 : pm_chk 22 0 (pm_code 22) = true := by decide +kernel
set_option maxRecDepth 100000 in
theorem ck_23 : pm_chk 23 0 (pm_code 23) = true := by decide +kernel
set_option maxRecDepth 100000 in
theorem ck_24 : pm_chk 24 0 (pm_code 24) = true := by decide +kernel
set_option maxRecDepth 100000 in
theorem ck_25 : pm_chk 25 0 (pm_code 25) = true := by decide +kernel
set_option maxRecDepth 100000 in
theorem ck_26 : pm_chk 26 0 (pm_code 26) = true := by decide +kernel
set_option maxRecDepth 100000 in
theorem ck_27 : pm_chk 27 0 (pm_code 27) = true := by decide +kernel
set_option maxRecDepth 100000 in
theorem ck_28 : pm_chk 28 0 (pm_code 28) = true := by decide +kernel
set_option maxRecDepth 100000 in
theorem ck_29 : pm_chk 29 0 (pm_code 29) = true := by decide +kernel
set_option maxRecDepth 100000 in
theorem ck_30 : pm_chk 30 0 (pm_code 30) = true := by decide +kernel
set_option maxRecDepth 100000 in
theorem ck_31 : pm_chk 31 0 (pm_code 31) = true := by decide +kernel
set_option maxRecDepth 100000 in
theorem ck_32 : pm_chk 32 0 (pm_code 32) = true := by decide +kernel
set_option maxRecDepth 100000 in
theorem ck_33 : pm_chk 33 0 (pm_code 33) = true := by decide +kernel
set_option maxRecDepth 100000 in
theorem ck_34 : pm_chk 34 0 (pm_code 34) = true := by decide +kernel
set_option maxRecDepth 100000 in
theorem ck_35 : pm_chk 35 0 (pm_code 35) = true := by decide +kernel
set_option maxRecDepth 100000 in
theorem ck_36 : pm_chk 36 0 (pm_code 36) = true := by decide +kernel
set_option maxRecDepth 100000 in
theorem ck_37 : pm_chk 37 0 (pm_code 37) = true := by decide +kernel
set_option maxRecDepth 100000 in
theorem ck_38 : pm_chk 38 0 (pm_code 38) = true := by decide +kernel
set_option maxRecDepth 100000 in
theorem ck_39 : pm_chk 39 0 (pm_code 39) = true := by decide +kernel
set_option maxRecDepth 100000 in
theorem ck_40 : pm_chk 40 0 (pm_code 40) = true := by decide +kernel
set_option maxRecDepth 100000 in
theorem ck_41 : pm_chk 41 0 (pm_code 41) = true := by decide +kernel
set_option maxRecDepth 100000 in
theorem ck_42 : pm_chk 42 0 (pm_code 42) = true := by decide +kernel
set_option maxRecDepth 100000 in
theorem ck_43 : pm_chk 43 0 (pm_code 43) = true := by decide +kernel
set_option maxRecDepth 100000 in
theorem ck_44 : pm_chk 44 0 (pm_code 44) = true := by decide +kernel
set_option maxRecDepth 100000 in
theorem ck_45 : pm_chk 45 0 (pm_code 45) = true := by decide +kernel
set_option maxRecDepth 100000 in
theorem ck_46 : pm_chk 46 0 (pm_code 46) = true := by decide +kernel
set_option maxRecDepth 100000 in
theorem ck_47 : pm_chk 47 0 (pm_code 47) = true := by decide +kernel
set_option maxRecDepth 100000 in
theorem ck_48 : pm_chk 48 0 (pm_code 48) = true := by decide +kernel
set_option maxRecDepth 100000 in
theorem ck_49 : pm_chk 49 0 (pm_code 49) = true := by decide +kernel
set_option maxRecDepth 100000 in
theorem ck_50 : pm_chk 50 0 (pm_code 50) = true := by decide +kernel
set_option maxRecDepth 100000 in
theorem ck_51 : pm_chk 51 0 (pm_code 51) = true := by decide +kernel
set_option maxRecDepth 100000 in
theorem ck_52 : pm_chk 52 0 (pm_code 52) = true := by decide +kernel
set_option maxRecDepth 100000 in
theorem ck_53 : pm_chk 53 0 (pm_code 53) = true := by decide +kernel
set_option maxRecDepth 100000 in
theorem ck_54 : pm_chk 54 0 (pm_code 54) = true := by decide +kernel
set_option maxRecDepth 100000 in
theorem ck_55 : pm_chk 55 0 (pm_code 55) = true := by decide +kernel
set_option maxRecDepth 100000 in
theorem ck_56 : pm_chk 56 0 (pm_code 56) = true := by decide +kernel
set_option maxRecDepth 100000 in
theorem ck_57 : pm_chk 57 0 (pm_code 57) = true := by decide +kernel
set_option maxRecDepth 100000 in
theorem ck_58 : pm_chk 58 0 (pm_code 58) = true := by decide +kernel
set_option maxRecDepth 100000 in
theorem ck_59 : pm_chk 59 0 (pm_code 59) = true := by decide +kernel
set_option maxRecDepth 100000 in
theorem ck_60 : pm_chk 60 0 (pm_code 60) = true := by decide +kernel
set_option maxRecDepth 100000 in
theorem ck_61 : pm_chk 61 0 (pm_code 61) = true := by decide +kernel
set_option maxRecDepth 100000 in
theorem ck_62 : pm_chk 62 0 (pm_code 62) = true := by decide +kernel
set_option maxRecDepth 100000 in
theorem ck_63 : pm_chk 63 0 (pm_code 63) = true := by decide +kernel
set_option maxRecDepth 100000 in
theorem ck_64 : pm_chk 64 0 (pm_code 64) = true := by decide +kernel
set_option maxRecDepth 100000 in
theorem ck_65 : pm_chk 65 0 (pm_code 65) = true := by decide +kernel
set_option maxRecDepth 100000 in
theorem ck_66 : pm_chk 66 0 (pm_code 66) = true := by decide +kernel
set_option maxRecDepth 100000 in
theorem ck_67 : pm_chk 67 0 (pm_code 67) = true := by decide +kernel
set_option maxRecDepth 100000 in
theorem ck_68 : pm_chk 68 0 (pm_code 68) = true := by decide +kernel
set_option maxRecDepth 100000 in
theorem ck_69 : pm_chk 69 0 (pm_code 69) = true := by decide +kernel
set_option maxRecDepth 100000 in
theorem ck_70 : pm_chk 70 0 (pm_code 70) = true := by decide +kernel
set_option maxRecDepth 100000 in
theorem ck_71 : pm_chk 71 0 (pm_code 71) = true := by decide +kernel
set_option maxRecDepth 100000 in
theorem ck_72 : pm_chk 72 0 (pm_code 72) = true := by decide +kernel
set_option maxRecDepth 100000 in
theorem ck_73 : pm_chk 73 0 (pm_code 73) = true := by decide +kernel
set_option maxRecDepth 100000 in
theorem ck_74 : pm_chk 74 0 (pm_code 74) = true := by decide +kernel
set_option maxRecDepth 100000 in
theorem ck_75 : pm_chk 75 0 (pm_code 75) = true := by decide +kernel
set_option maxRecDepth 100000 in
theorem ck_76 : pm_chk 76 0 (pm_code 76) = true := by decide +kernel
set_option maxRecDepth 100000 in
theorem ck_77 : pm_chk 77 0 (pm_code 77) = true := by decide +kernel
set_option maxRecDepth 100000 in
theorem ck_78 : pm_chk 78 0 (pm_code 78) = true := by decide +kernel
set_option maxRecDepth 100000 in
theorem ck_79 : pm_chk 79 0 (pm_code 79) = true := by decide +kernel
set_option maxRecDepth 100000 in
theorem ck_80 : pm_chk 80 0 (pm_code 80) = true := by decide +kernel
set_option maxRecDepth 100000 in
theorem ck_81 : pm_chk 81 0 (pm_code 81) = true := by decide +kernel
set_option maxRecDepth 100000 in
theorem ck_82 : pm_chk 82 0 (pm_code 82) = true := by decide +kernel
set_option maxRecDepth 100000 in
theorem ck_83 : pm_chk 83 0 (pm_code 83) = true := by decide +kernel
set_option maxRecDepth 100000 in
theorem ck_84 : pm_chk 84 0 (pm_code 84) = true := by decide +kernel
set_option maxRecDepth 100000 in
theorem ck_85 : pm_chk 85 0 (pm_code 85) = true := by decide +kernel
set_option maxRecDepth 100000 in
theorem ck_86 : pm_chk 86 0 (pm_code 86) = true := by decide +kernel
set_option maxRecDepth 100000 in
theorem ck_87 : pm_chk 87 0 (pm_code 87) = true := by decide +kernel
set_option maxRecDepth 100000 in
theorem ck_88 : pm_chk 88 0 (pm_code 88) = true := by decide +kernel
set_option maxRecDepth 100000 in
theorem ck_89 : pm_chk 89 0 (pm_code 89) = true := by decide +kernel
set_option maxRecDepth 100000 in
theorem ck_90 : pm_chk 90 0 (pm_code 90) = true := by decide +kernel
set_option maxRecDepth 100000 in
theorem ck_91 : pm_chk 91 0 (pm_code 91) = true := by decide +kernel
set_option maxRecDepth 100000 in
theorem ck_92 : pm_chk 92 0 (pm_code 92) = true := by decide +kernel
set_option maxRecDepth 100000 in
theorem ck_93 : pm_chk 93 0 (pm_code 93) = true := by decide +kernel
set_option maxRecDepth 100000 in
theorem ck_94 : pm_chk 94 0 (pm_code 94) = true := by decide +kernel
set_option maxRecDepth 100000 in
theorem ck_95 : pm_chk 95 0 (pm_code 95) = true := by decide +kernel
set_option maxRecDepth 100000 in
theorem ck_96 : pm_chk 96 0 (pm_code 96) = true := by decide +kernel
set_option maxRecDepth 100000 in
theorem ck_97 : pm_chk 97 0 (pm_code 97) = true := by decide +kernel
set_option maxRecDepth 100000 in
theorem ck_98 : pm_chk 98 0 (pm_code 98) = true := by decide +kernel
set_option maxRecDepth 100000 in
theorem ck_99 : pm_chk 99 0 (pm_code 99) = true := by decide +kernel
set_option maxRecDepth 100000 in
theorem ck_100 : pm_chk 100 0 (pm_code 100) = true := by decide +kernel
set_option maxRecDepth 100000 in
theorem ck_101 : pm_chk 101 0 (pm_code 101) = true := by decide +kernel
set_option maxRecDepth 100000 in
theorem ck_102 : pm_chk 102 0 (pm_code 102) = true := by decide +kernel
set_option maxRecDepth 100000 in
theorem ck_103 : pm_chk 103 0 (pm_code 103) = true := by decide +kernel
set_option maxRecDepth 100000 in
theorem ck_104 : pm_chk 104 0 (pm_code 104) = true := by decide +kernel
set_option maxRecDepth 100000 in
theorem ck_105 : pm_chk 105 0 (pm_code 105) = true := by decide +kernel
set_option maxRecDepth 100000 in
theorem ck_106 : pm_chk 106 0 (pm_code 106) = true := by decide +kernel
set_option maxRecDepth 100000 in
theorem ck_107 : pm_chk 107 0 (pm_code 107) = true := by decide +kernel
set_option maxRecDepth 100000 in
theorem ck_108 : pm_chk 108 0 (pm_code 108) = true := by decide +kernel
set_option maxRecDepth 100000 in
theorem ck_109 : pm_chk 109 0 (pm_code 109) = true := by decide +kernel
set_option maxRecDepth 100000 in
theorem ck_110 : pm_chk 110 0 (pm_code 110) = true := by decide +kernel
set_option maxRecDepth 100000 in
theorem ck_111 : pm_chk 111 0 (pm_code 111) = true := by decide +kernel
set_option maxRecDepth 100000 in
theorem ck_112 : pm_chk 112 0 (pm_code 112) = true := by decide +kernel
set_option maxRecDepth 100000 in
theorem ck_113 : pm_chk 113 0 (pm_code 113) = true := by decide +kernel
set_option maxRecDepth 100000 in
theorem ck_114 : pm_chk 114 0 (pm_code 114) = true := by decide +kernel
set_option maxRecDepth 100000 in
theorem ck_115 : pm_chk 115 0 (pm_code 115) = true := by decide +kernel
set_option maxRecDepth 100000 in
theorem ck_116 : pm_chk 116 0 (pm_code 116) = true := by decide +kernel
set_option maxRecDepth 100000 in
theorem ck_117 : pm_chk 117 0 (pm_code 117) = true := by decide +kernel
set_option maxRecDepth 100000 in
theorem ck_118 : pm_chk 118 0 (pm_code 118) = true := by decide +kernel
set_option maxRecDepth 100000 in
theorem ck_119 : pm_chk 119 0 (pm_code 119) = true := by decide +kernel
set_option maxRecDepth 100000 in
theorem ck_120 : pm_chk 120 0 (pm_code 120) = true := by decide +kernel
set_option maxRecDepth 100000 in
theorem ck_121 : pm_chk 121 0 (pm_code 121) = true := by decide +kernel
set_option maxRecDepth 100000 in
theorem ck_122 : pm_chk 122 0 (pm_code 122) = true := by decide +kernel
set_option maxRecDepth 100000 in
theorem ck_123 : pm_chk 123 0 (pm_code 123) = true := by decide +kernel
set_option maxRecDepth 100000 in
theorem ck_124 : pm_chk 124 0 (pm_code 124) = true := by decide +kernel
set_option maxRecDepth 100000 in
theorem ck_125 : pm_chk 125 0 (pm_code 125) = true := by decide +kernel
set_option maxRecDepth 100000 in
theorem ck_126 : pm_chk 126 0 (pm_code 126) = true := by decide +kernel
set_option maxRecDepth 100000 in
theorem ck_127 : pm_chk 127 0 (pm_code 127) = true := by decide +kernel
set_option maxRecDepth 100000 in
theorem ck_128 : pm_chk 128 0 (pm_code 128) = true := by decide +kernel
set_option maxRecDepth 100000 in
theorem ck_129 : pm_chk 129 0 (pm_code 129) = true := by decide +kernel
set_option maxRecDepth 100000 in
theorem ck_130 : pm_chk 130 0 (pm_code 130) = true := by decide +kernel
set_option maxRecDepth 100000 in
theorem ck_131 : pm_chk 131 0 (pm_code 131) = true := by decide +kernel
set_option maxRecDepth 100000 in
theorem ck_132 : pm_chk 132 0 (pm_code 132) = true := by decide +kernel
set_option maxRecDepth 100000 in
theorem ck_133 : pm_chk 133 0 (pm_code 133) = true := by decide +kernel
set_option maxRecDepth 100000 in
theorem ck_134 : pm_chk 134 0 (pm_code 134) = true := by decide +kernel
set_option maxRecDepth 100000 in
theorem ck_135 : pm_chk 135 0 (pm_code 135) = true := by decide +kernel
set_option maxRecDepth 100000 in
theorem ck_136 : pm_chk 136 0 (pm_code 136) = true := by decide +kernel
set_option maxRecDepth 100000 in
theorem ck_137 : pm_chk 137 0 (pm_code 137) = true := by decide +kernel
set_option maxRecDepth 100000 in
theorem ck_138 : pm_chk 138 0 (pm_code 138) = true := by decide +kernel
set_option maxRecDepth 100000 in
theorem ck_139 : pm_chk 139 0 (pm_code 139) = true := by decide +kernel
set_option maxRecDepth 100000 in
theorem ck_140 : pm_chk 140 0 (pm_code 140) = true := by decide +kernel
set_option maxRecDepth 100000 in
theorem ck_141 : pm_chk 141 0 (pm_code 141) = true := by decide +kernel
set_option maxRecDepth 100000 in
theorem ck_142 : pm_chk 142 0 (pm_code 142) = true := by decide +kernel
set_option maxRecDepth 100000 in
theorem ck_143 : pm_chk 143 0 (pm_code 143) = true := by decide +kernel
set_option maxRecDepth 100000 in
theorem ck_144 : pm_chk 144 0 (pm_code 144) = true := by decide +kernel
set_option maxRecDepth 100000 in
theorem ck_145 : pm_chk 145 0 (pm_code 145) = true := by decide +kernel
set_option maxRecDepth 100000 in
theorem ck_146 : pm_chk 146 0 (pm_code 146) = true := by decide +kernel
set_option maxRecDepth 100000 in
theorem ck_147 : pm_chk 147 0 (pm_code 147) = true := by decide +kernel
set_option maxRecDepth 100000 in
theorem ck_148 : pm_chk 148 0 (pm_code 148) = true := by decide +kernel
set_option maxRecDepth 100000 in
theorem ck_149 : pm_chk 149 0 (pm_code 149) = true := by decide +kernel
set_option maxRecDepth 100000 in
theorem ck_150 : pm_chk 150 0 (pm_code 150) = true := by decide +kernel
set_option maxRecDepth 100000 in
theorem ck_151 : pm_chk 151 0 (pm_code 151) = true := by decide +kernel
set_option maxRecDepth 100000 in
theorem ck_152 : pm_chk 152 0 (pm_code 152) = true := by decide +kernel
set_option maxRecDepth 100000 in
theorem ck_153 : pm_chk 153 0 (pm_code 153) = true := by decide +kernel
set_option maxRecDepth 100000 in
theorem ck_154 : pm_chk 154 0 (pm_code 154) = true := by decide +kernel
set_option maxRecDepth 100000 in
theorem ck_155 : pm_chk 155 0 (pm_code 155) = true := by decide +kernel
set_option maxRecDepth 100000 in
theorem ck_156 : pm_chk 156 0 (pm_code 156) = true := by decide +kernel
set_option maxRecDepth 100000 in
theorem ck_157 : pm_chk 157 0 (pm_code 157) = true := by decide +kernel
set_option maxRecDepth 100000 in
theorem ck_158 : pm_chk 158 0 (pm_code 158) = true := by decide +kernel
set_option maxRecDepth 100000 in
theorem ck_159 : pm_chk 159 0 (pm_code 159) = true := by decide +kernel
set_option maxRecDepth 100000 in
theorem ck_160 : pm_chk 160 0 (pm_code 160) = true := by decide +kernel
set_option maxRecDepth 100000 in
theorem ck_161 : pm_chk 161 0 (pm_code 161) = true := by decide +kernel
set_option maxRecDepth 100000 in
theorem ck_162 : pm_chk 162 0 (pm_code 162) = true := by decide +kernel
set_option maxRecDepth 100000 in
theorem ck_163 : pm_chk 163 0 (pm_code 163) = true := by decide +kernel
set_option maxRecDepth 100000 in
theorem ck_164 : pm_chk 164 0 (pm_code 164) = true := by decide +kernel
set_option maxRecDepth 100000 in
theorem ck_165 : pm_chk 165 0 (pm_code 165) = true := by decide +kernel
set_option maxRecDepth 100000 in
theorem ck_166 : pm_chk 166 0 (pm_code 166) = true := by decide +kernel
set_option maxRecDepth 100000 in
theorem ck_167 : pm_chk 167 0 (pm_code 167) = true := by decide +kernel
set_option maxRecDepth 100000 in
theorem ck_168 : pm_chk 168 0 (pm_code 168) = true := by decide +kernel
set_option maxRecDepth 100000 in
theorem ck_169 : pm_chk 169 0 (pm_code 169) = true := by decide +kernel
set_option maxRecDepth 100000 in
theorem ck_170 : pm_chk 170 0 (pm_code 170) = true := by decide +kernel
set_option maxRecDepth 100000 in
theorem ck_171 : pm_chk 171 0 (pm_code 171) = true := by decide +kernel
set_option maxRecDepth 100000 in
theorem ck_172 : pm_chk 172 0 (pm_code 172) = true := by decide +kernel
set_option maxRecDepth 100000 in
theorem ck_173 : pm_chk 173 0 (pm_code 173) = true := by decide +kernel
set_option maxRecDepth 100000 in
theorem ck_174 : pm_chk 174 0 (pm_code 174) = true := by decide +kernel
set_option maxRecDepth 100000 in
theorem ck_175 : pm_chk 175 0 (pm_code 175) = true := by decide +kernel
set_option maxRecDepth 100000 in
theorem ck_176 : pm_chk 176 0 (pm_code 176) = true := by decide +kernel
set_option maxRecDepth 100000 in
theorem ck_177 : pm_chk 177 0 (pm_code 177) = true := by decide +kernel
set_option maxRecDepth 100000 in
theorem ck_178 : pm_chk 178 0 (pm_code 178) = true := by decide +kernel
set_option maxRecDepth 100000 in
theorem ck_179 : pm_chk 179 0 (pm_code 179) = true := by decide +kernel
set_option maxRecDepth 100000 in
theorem ck_180 : pm_chk 180 0 (pm_code 180) = true := by decide +kernel
set_option maxRecDepth 100000 in
theorem ck_181 : pm_chk 181 0 (pm_code 181) = true := by decide +kernel
set_option maxRecDepth 100000 in
theorem ck_182 : pm_chk 182 0 (pm_code 182) = true := by decide +kernel
set_option maxRecDepth 100000 in
theorem ck_183 : pm_chk 183 0 (pm_code 183) = true := by decide +kernel
set_option maxRecDepth 100000 in
theorem ck_184 : pm_chk 184 0 (pm_code 184) = true := by decide +kernel
set_option maxRecDepth 100000 in
theorem ck_185 : pm_chk 185 0 (pm_code 185) = true := by decide +kernel
set_option maxRecDepth 100000 in
theorem ck_186 : pm_chk 186 0 (pm_code 186) = true := by decide +kernel
set_option maxRecDepth 100000 in
theorem ck_187 : pm_chk 187 0 (pm_code 187) = true := by decide +kernel
set_option maxRecDepth 100000 in
theorem ck_188 : pm_chk 188 0 (pm_code 188) = true := by decide +kernel
set_option maxRecDepth 100000 in
theorem ck_189 : pm_chk 189 0 (pm_code 189) = true := by decide +kernel
set_option maxRecDepth 100000 in
theorem ck_190 : pm_chk 190 0 (pm_code 190) = true := by decide +kernel
set_option maxRecDepth 100000 in
theorem ck_191 : pm_chk 191 0 (pm_code 191) = true := by decide +kernel
set_option maxRecDepth 100000 in
theorem ck_192 : pm_chk 192 0 (pm_code 192) = true := by decide +kernel
set_option maxRecDepth 100000 in
theorem ck_193 : pm_chk 193 0 (pm_code 193) = true := by decide +kernel
set_option maxRecDepth 100000 in
theorem ck_194 : pm_chk 194 0 (pm_code 194) = true := by decide +kernel
set_option maxRecDepth 100000 in
theorem ck_195 : pm_chk 195 0 (pm_code 195) = true := by decide +kernel
set_option maxRecDepth 100000 in
theorem ck_196 : pm_chk 196 0 (pm_code 196) = true := by decide +kernel
set_option maxRecDepth 100000 in
theorem ck_197 : pm_chk 197 0 (pm_code 197) = true := by decide +kernel
set_option maxRecDepth 100000 in
theorem ck_198 : pm_chk 198 0 (pm_code 198) = true := by decide +kernel
set_option maxRecDepth 100000 in
theorem ck_199 : pm_chk 199 0 (pm_code 199) = true := by decide +kernel
set_option maxRecDepth 100000 in
theorem ck_200 : pm_chk 200 0 (pm_code 200) = true := by decide +kernel
set_option maxRecDepth 100000 in
theorem ck_201 : pm_chk 201 0 (pm_code 201) = true := by decide +kernel
set_option maxRecDepth 100000 in
theorem ck_202 : pm_chk 202 0 (pm_code 202) = true := by decide +kernel
set_option maxRecDepth 100000 in
theorem ck_203 : pm_chk 203 0 (pm_code 203) = true := by decide +kernel
set_option maxRecDepth 100000 in
theorem ck_204 : pm_chk 204 0 (pm_code 204) = true := by decide +kernel
set_option maxRecDepth 100000 in
theorem ck_205 : pm_chk 205 0 (pm_code 205) = true := by decide +kernel
set_option maxRecDepth 100000 in
theorem ck_206 : pm_chk 206 0 (pm_code 206) = true := by decide +kernel
set_option maxRecDepth 100000 in
theorem ck_207 : pm_chk 207 0 (pm_code 207) = true := by decide +kernel
set_option maxRecDepth 100000 in
theorem ck_208 : pm_chk 208 0 (pm_code 208) = true := by decide +kernel
set_option maxRecDepth 100000 in
theorem ck_209 : pm_chk 209 0 (pm_code 209) = true := by decide +kernel
set_option maxRecDepth 100000 in
theorem ck_210 : pm_chk 210 0 (pm_code 210) = true := by decide +kernel
set_option maxRecDepth 100000 in
theorem ck_211 : pm_chk 211 0 (pm_code 211) = true := by decide +kernel
set_option maxRecDepth 100000 in
theorem ck_212 : pm_chk 212 0 (pm_code 212) = true := by decide +kernel
set_option maxRecDepth 100000 in
theorem ck_213 : pm_chk 213 0 (pm_code 213) = true := by decide +kernel
set_option maxRecDepth 100000 in
theorem ck_214 : pm_chk 214 0 (pm_code 214) = true := by decide +kernel
set_option maxRecDepth 100000 in
theorem ck_215 : pm_chk 215 0 (pm_code 215) = true := by decide +kernel
set_option maxRecDepth 100000 in
theorem ck_216 : pm_chk 216 0 (pm_code 216) = true := by decide +kernel
set_option maxRecDepth 100000 in
theorem ck_217 : pm_chk 217 0 (pm_code 217) = true := by decide +kernel
set_option maxRecDepth 100000 in
theorem ck_218 : pm_chk 218 0 (pm_code 218) = true := by decide +kernel
set_option maxRecDepth 100000 in
theorem ck_219 : pm_chk 219 0 (pm_code 219) = true := by decide +kernel
set_option maxRecDepth 100000 in
theorem ck_220 : pm_chk 220 0 (pm_code 220) = true := by decide +kernel
set_option maxRecDepth 100000 in
theorem ck_221 : pm_chk 221 0 (pm_code 221) = true := by decide +kernel
set_option maxRecDepth 100000 in
theorem ck_222 : pm_chk 222 0 (pm_code 222) = true := by decide +kernel
set_option maxRecDepth 100000 in
theorem ck_223 : pm_chk 223 0 (pm_code 223) = true := by decide +kernel
set_option maxRecDepth 100000 in
theorem ck_224 : pm_chk 224 0 (pm_code 224) = true := by decide +kernel
set_option maxRecDepth 100000 in
theorem ck_225 : pm_chk 225 0 (pm_code 225) = true := by decide +kernel
set_option maxRecDepth 100000 in
theorem ck_226 : pm_chk 226 0 (pm_code 226) = true := by decide +kernel
set_option maxRecDepth 100000 in
theorem ck_227 : pm_chk 227 0 (pm_code 227) = true := by decide +kernel
set_option maxRecDepth 100000 in
theorem ck_228 : pm_chk 228 0 (pm_code 228) = true := by decide +kernel
set_option maxRecDepth 100000 in
theorem ck_229 : pm_chk 229 0 (pm_code 229) = true := by decide +kernel
set_option maxRecDepth 100000 in
theorem ck_230 : pm_chk 230 0 (pm_code 230) = true := by decide +kernel
set_option maxRecDepth 100000 in
theorem ck_231 : pm_chk 231 0 (pm_code 231) = true := by decide +kernel
set_option maxRecDepth 100000 in
theorem ck_232 : pm_chk 232 0 (pm_code 232) = true := by decide +kernel
set_option maxRecDepth 100000 in
theorem ck_233 : pm_chk 233 0 (pm_code 233) = true := by decide +kernel
set_option maxRecDepth 100000 in
theorem ck_234 : pm_chk 234 0 (pm_code 234) = true := by decide +kernel
set_option maxRecDepth 100000 in
theorem ck_235 : pm_chk 235 0 (pm_code 235) = true := by decide +kernel
set_option maxRecDepth 100000 in
theorem ck_236 : pm_chk 236 0 (pm_code 236) = true := by decide +kernel
set_option maxRecDepth 100000 in
theorem ck_237 : pm_chk 237 0 (pm_code 237) = true := by decide +kernel
set_option maxRecDepth 100000 in
theorem ck_238 : pm_chk 238 0 (pm_code 238) = true := by decide +kernel
set_option maxRecDepth 100000 in
theorem ck_239 : pm_chk 239 0 (pm_code 239) = true := by decide +kernel
set_option maxRecDepth 100000 in
theorem ck_240 : pm_chk 240 0 (pm_code 240) = true := by decide +kernel
set_option maxRecDepth 100000 in
theorem ck_241 : pm_chk 241 0 (pm_code 241) = true := by decide +kernel
set_option maxRecDepth 100000 in
theorem ck_242 : pm_chk 242 0 (pm_code 242) = true := by decide +kernel
set_option maxRecDepth 100000 in
theorem ck_243 : pm_chk 243 0 (pm_code 243) = true := by decide +kernel
set_option maxRecDepth 100000 in
theorem ck_244 : pm_chk 244 0 (pm_code 244) = true := by decide +kernel
set_option maxRecDepth 100000 in
theorem ck_245 : pm_chk 245 0 (pm_code 245) = true := by decide +kernel
set_option maxRecDepth 100000 in
theorem ck_246 : pm_chk 246 0 (pm_code 246) = true := by decide +kernel
set_option maxRecDepth 100000 in
theorem ck_247 : pm_chk 247 0 (pm_code 247) = true := by decide +kernel
set_option maxRecDepth 100000 in
theorem ck_248 : pm_chk 248 0 (pm_code 248) = true := by decide +kernel
set_option maxRecDepth 100000 in
theorem ck_249 : pm_chk 249 0 (pm_code 249) = true := by decide +kernel
set_option maxRecDepth 100000 in
theorem ck_250 : pm_chk 250 0 (pm_code 250) = true := by decide +kernel
set_option maxRecDepth 100000 in
theorem ck_251 : pm_chk 251 0 (pm_code 251) = true := by decide +kernel
set_option maxRecDepth 100000 in
theorem ck_252 : pm_chk 252 0 (pm_code 252) = true := by decide +kernel
set_option maxRecDepth 100000 in
theorem ck_253 : pm_chk 253 0 (pm_code 253) = true := by decide +kernel
set_option maxRecDepth 100000 in
theorem ck_254 : pm_chk 254 0 (pm_code 254) = true := by decide +kernel
set_option maxRecDepth 100000 in
theorem ck_255 : pm_chk 255 0 (pm_code 255) = true := by decide +kernel
set_option maxRecDepth 100000 in
theorem ck_256 : pm_chk 256 0 (pm_code 256) = true := by decide +kernel
set_option maxRecDepth 100000 in
theorem ck_257 : pm_chk 257 0 (pm_code 257) = true := by decide +kernel
set_option maxRecDepth 100000 in
theorem ck_258 : pm_chk 258 0 (pm_code 258) = true := by decide +kernel
set_option maxRecDepth 100000 in
theorem ck_259 : pm_chk 259 0 (pm_code 259) = true := by decide +kernel
set_option maxRecDepth 100000 in
theorem ck_260 : pm_chk 260 0 (pm_code 260) = true := by decide +kernel
set_option maxRecDepth 100000 in
theorem ck_261 : pm_chk 261 0 (pm_code 261) = true := by decide +kernel
set_option maxRecDepth 100000 in
theorem ck_262 : pm_chk 262 0 (pm_code 262) = true := by decide +kernel
set_option maxRecDepth 100000 in
theorem ck_263 : pm_chk 263 0 (pm_code 263) = true := by decide +kernel
set_option maxRecDepth 100000 in
theorem ck_264 : pm_chk 264 0 (pm_code 264) = true := by decide +kernel
set_option maxRecDepth 100000 in
theorem ck_265 : pm_chk 265 0 (pm_code 265) = true := by decide +kernel
set_option maxRecDepth 100000 in
theorem ck_266 : pm_chk 266 0 (pm_code 266) = true := by decide +kernel
set_option maxRecDepth 100000 in
theorem ck_267 : pm_chk 267 0 (pm_code 267) = true := by decide +kernel
set_option maxRecDepth 100000 in
theorem ck_268 : pm_chk 268 0 (pm_code 268) = true := by decide +kernel
set_option maxRecDepth 100000 in
theorem ck_269 : pm_chk 269 0 (pm_code 269) = true := by decide +kernel
set_option maxRecDepth 100000 in
theorem ck_270 : pm_chk 270 0 (pm_code 270) = true := by decide +kernel
set_option maxRecDepth 100000 in
theorem ck_271 : pm_chk 271 0 (pm_code 271) = true := by decide +kernel
set_option maxRecDepth 100000 in
theorem ck_272 : pm_chk 272 0 (pm_code 272) = true := by decide +kernel
set_option maxRecDepth 100000 in
theorem ck_273 : pm_chk 273 0 (pm_code 273) = true := by decide +kernel
set_option maxRecDepth 100000 in
theorem ck_274 : pm_chk 274 0 (pm_code 274) = true := by decide +kernel
set_option maxRecDepth 100000 in
theorem ck_275 : pm_chk 275 0 (pm_code 275) = true := by decide +kernel
set_option maxRecDepth 100000 in
theorem ck_276 : pm_chk 276 0 (pm_code 276) = true := by decide +kernel
set_option maxRecDepth 100000 in
theorem ck_277 : pm_chk 277 0 (pm_code 277) = true := by decide +kernel
set_option maxRecDepth 100000 in
theorem ck_278 : pm_chk 278 0 (pm_code 278) = true := by decide +kernel
set_option maxRecDepth 100000 in
theorem ck_280 : pm_chk 280 0 (pm_code 280) = true := by decide +kernel
set_option maxRecDepth 100000 in
theorem ck_281 : pm_chk 281 0 (pm_code 281) = true := by decide +kernel

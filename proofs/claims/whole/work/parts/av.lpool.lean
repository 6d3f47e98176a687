-- needs as
/-! what the tables say of the calls of the law (laid by wip/whole/gen_law.py) -/
set_option maxRecDepth 100000 in
theorem zce_108 : zCe 108 1 := ⟨(zmA 1 1 (by decide +kernel) (by decide +kernel)), (zmA 3 92 rfl (by decide +kernel)), ⟨by decide +kernel, by decide +kernel, by decide +kernel⟩, by decide +kernel⟩
set_option maxRecDepth 100000 in
theorem zve_108 : zVe 108 11 := ⟨(zmA 3 90 (by decide +kernel) (by decide +kernel)), (zmA 3 91 (by decide +kernel) (by decide +kernel)), TX11, 14, rfl⟩
theorem zl_23 : zCw 13 23 108 1 11 := ⟨⟨(zmA 3 89 (by decide +kernel) (by decide +kernel)), zce_108⟩, zve_108⟩
set_option maxRecDepth 100000 in
theorem zce_170 : zCe 170 1 := ⟨(zmA 1 14 (by decide +kernel) (by decide +kernel)), (zmA 8 65 rfl (by decide +kernel)), ⟨by decide +kernel, by decide +kernel, by decide +kernel⟩, by decide +kernel⟩
set_option maxRecDepth 100000 in
theorem zve_170 : zVe 170 12 := ⟨(zmA 8 63 (by decide +kernel) (by decide +kernel)), (zmA 8 64 (by decide +kernel) (by decide +kernel)), TX12, 84, rfl⟩
theorem zl_26 : zCw 13 26 170 1 12 := ⟨⟨(zmA 8 62 (by decide +kernel) (by decide +kernel)), zce_170⟩, zve_170⟩
set_option maxRecDepth 100000 in
theorem zce_109 : zCe 109 3 := ⟨(zmA 1 1 (by decide +kernel) (by decide +kernel)), (zmA 3 101 rfl (by decide +kernel)), ⟨by decide +kernel, by decide +kernel, by decide +kernel⟩, by decide +kernel⟩
set_option maxRecDepth 100000 in
theorem zve_109 : zVe 109 11 := ⟨(zmA 3 99 (by decide +kernel) (by decide +kernel)), (zmA 3 100 (by decide +kernel) (by decide +kernel)), TX11, 14, rfl⟩
theorem zl_27 : zCw 13 27 109 3 11 := ⟨⟨(zmA 3 98 (by decide +kernel) (by decide +kernel)), zce_109⟩, zve_109⟩
set_option maxRecDepth 100000 in
theorem zce_172 : zCe 172 3 := ⟨(zmA 1 14 (by decide +kernel) (by decide +kernel)), (zmA 8 76 rfl (by decide +kernel)), ⟨by decide +kernel, by decide +kernel, by decide +kernel⟩, by decide +kernel⟩
set_option maxRecDepth 100000 in
theorem zve_172 : zVe 172 12 := ⟨(zmA 8 74 (by decide +kernel) (by decide +kernel)), (zmA 8 75 (by decide +kernel) (by decide +kernel)), TX12, 84, rfl⟩
theorem zl_31 : zCw 13 31 172 3 12 := ⟨⟨(zmA 8 73 (by decide +kernel) (by decide +kernel)), zce_172⟩, zve_172⟩
set_option maxRecDepth 100000 in
theorem zce_110 : zCe 110 4 := ⟨(zmA 1 1 (by decide +kernel) (by decide +kernel)), (zmA 3 113 rfl (by decide +kernel)), ⟨by decide +kernel, by decide +kernel, by decide +kernel⟩, by decide +kernel⟩
set_option maxRecDepth 100000 in
theorem zve_110 : zVe 110 11 := ⟨(zmA 3 111 (by decide +kernel) (by decide +kernel)), (zmA 3 112 (by decide +kernel) (by decide +kernel)), TX11, 14, rfl⟩
theorem zl_32 : zCw 13 32 110 4 11 := ⟨⟨(zmA 3 110 (by decide +kernel) (by decide +kernel)), zce_110⟩, zve_110⟩
set_option maxRecDepth 100000 in
theorem zce_173 : zCe 173 4 := ⟨(zmA 1 14 (by decide +kernel) (by decide +kernel)), (zmA 8 88 rfl (by decide +kernel)), ⟨by decide +kernel, by decide +kernel, by decide +kernel⟩, by decide +kernel⟩
set_option maxRecDepth 100000 in
theorem zve_173 : zVe 173 12 := ⟨(zmA 8 86 (by decide +kernel) (by decide +kernel)), (zmA 8 87 (by decide +kernel) (by decide +kernel)), TX12, 84, rfl⟩
theorem zl_36 : zCw 13 36 173 4 12 := ⟨⟨(zmA 8 85 (by decide +kernel) (by decide +kernel)), zce_173⟩, zve_173⟩
set_option maxRecDepth 100000 in
theorem zce_111 : zCe 111 2 := ⟨(zmA 1 1 (by decide +kernel) (by decide +kernel)), (zmA 3 130 rfl (by decide +kernel)), ⟨by decide +kernel, by decide +kernel, by decide +kernel⟩, by decide +kernel⟩
set_option maxRecDepth 100000 in
theorem zve_111 : zVe 111 11 := ⟨(zmA 3 128 (by decide +kernel) (by decide +kernel)), (zmA 3 129 (by decide +kernel) (by decide +kernel)), TX11, 14, rfl⟩
theorem zl_37 : zCw 13 37 111 2 11 := ⟨⟨(zmA 3 127 (by decide +kernel) (by decide +kernel)), zce_111⟩, zve_111⟩
set_option maxRecDepth 100000 in
theorem zce_174 : zCe 174 2 := ⟨(zmA 1 14 (by decide +kernel) (by decide +kernel)), (zmA 8 94 rfl (by decide +kernel)), ⟨by decide +kernel, by decide +kernel, by decide +kernel⟩, by decide +kernel⟩
set_option maxRecDepth 100000 in
theorem zve_174 : zVe 174 12 := ⟨(zmA 8 92 (by decide +kernel) (by decide +kernel)), (zmA 8 93 (by decide +kernel) (by decide +kernel)), TX12, 84, rfl⟩
theorem zl_41 : zCw 13 41 174 2 12 := ⟨⟨(zmA 8 91 (by decide +kernel) (by decide +kernel)), zce_174⟩, zve_174⟩
set_option maxRecDepth 100000 in
theorem zce_112 : zCe 112 2 := ⟨(zmA 1 1 (by decide +kernel) (by decide +kernel)), (zmA 3 134 rfl (by decide +kernel)), ⟨by decide +kernel, by decide +kernel, by decide +kernel⟩, by decide +kernel⟩
set_option maxRecDepth 100000 in
theorem zve_112 : zVe 112 11 := ⟨(zmA 3 132 (by decide +kernel) (by decide +kernel)), (zmA 3 133 (by decide +kernel) (by decide +kernel)), TX11, 14, rfl⟩
theorem zl_42 : zCw 13 42 112 2 11 := ⟨⟨(zmA 3 131 (by decide +kernel) (by decide +kernel)), zce_112⟩, zve_112⟩
set_option maxRecDepth 100000 in
theorem zce_175 : zCe 175 2 := ⟨(zmA 1 14 (by decide +kernel) (by decide +kernel)), (zmA 8 98 rfl (by decide +kernel)), ⟨by decide +kernel, by decide +kernel, by decide +kernel⟩, by decide +kernel⟩
set_option maxRecDepth 100000 in
theorem zve_175 : zVe 175 12 := ⟨(zmA 8 96 (by decide +kernel) (by decide +kernel)), (zmA 8 97 (by decide +kernel) (by decide +kernel)), TX12, 84, rfl⟩
theorem zl_45 : zCw 13 45 175 2 12 := ⟨⟨(zmA 8 95 (by decide +kernel) (by decide +kernel)), zce_175⟩, zve_175⟩
set_option maxRecDepth 100000 in
theorem zce_113 : zCe 113 2 := ⟨(zmA 1 1 (by decide +kernel) (by decide +kernel)), (zmA 3 138 rfl (by decide +kernel)), ⟨by decide +kernel, by decide +kernel, by decide +kernel⟩, by decide +kernel⟩
set_option maxRecDepth 100000 in
theorem zve_113 : zVe 113 11 := ⟨(zmA 3 136 (by decide +kernel) (by decide +kernel)), (zmA 3 137 (by decide +kernel) (by decide +kernel)), TX11, 14, rfl⟩
theorem zl_46 : zCw 13 46 113 2 11 := ⟨⟨(zmA 3 135 (by decide +kernel) (by decide +kernel)), zce_113⟩, zve_113⟩
set_option maxRecDepth 100000 in
theorem zce_177 : zCe 177 2 := ⟨(zmA 1 14 (by decide +kernel) (by decide +kernel)), (zmA 8 102 rfl (by decide +kernel)), ⟨by decide +kernel, by decide +kernel, by decide +kernel⟩, by decide +kernel⟩
set_option maxRecDepth 100000 in
theorem zve_177 : zVe 177 12 := ⟨(zmA 8 100 (by decide +kernel) (by decide +kernel)), (zmA 8 101 (by decide +kernel) (by decide +kernel)), TX12, 84, rfl⟩
theorem zl_49 : zCw 13 49 177 2 12 := ⟨⟨(zmA 8 99 (by decide +kernel) (by decide +kernel)), zce_177⟩, zve_177⟩
set_option maxRecDepth 100000 in
theorem zce_114 : zCe 114 1 := ⟨(zmA 1 1 (by decide +kernel) (by decide +kernel)), (zmA 3 150 rfl (by decide +kernel)), ⟨by decide +kernel, by decide +kernel, by decide +kernel⟩, by decide +kernel⟩
set_option maxRecDepth 100000 in
theorem zve_114 : zVe 114 11 := ⟨(zmA 3 148 (by decide +kernel) (by decide +kernel)), (zmA 3 149 (by decide +kernel) (by decide +kernel)), TX11, 14, rfl⟩
theorem zl_50 : zCw 13 50 114 1 11 := ⟨⟨(zmA 3 147 (by decide +kernel) (by decide +kernel)), zce_114⟩, zve_114⟩
set_option maxRecDepth 100000 in
theorem zce_178 : zCe 178 1 := ⟨(zmA 1 14 (by decide +kernel) (by decide +kernel)), (zmA 8 117 rfl (by decide +kernel)), ⟨by decide +kernel, by decide +kernel, by decide +kernel⟩, by decide +kernel⟩
set_option maxRecDepth 100000 in
theorem zve_178 : zVe 178 12 := ⟨(zmA 8 115 (by decide +kernel) (by decide +kernel)), (zmA 8 116 (by decide +kernel) (by decide +kernel)), TX12, 84, rfl⟩
theorem zl_53 : zCw 13 53 178 1 12 := ⟨⟨(zmA 8 114 (by decide +kernel) (by decide +kernel)), zce_178⟩, zve_178⟩
set_option maxRecDepth 100000 in
theorem zce_115 : zCe 115 1 := ⟨(zmA 1 1 (by decide +kernel) (by decide +kernel)), (zmA 3 158 rfl (by decide +kernel)), ⟨by decide +kernel, by decide +kernel, by decide +kernel⟩, by decide +kernel⟩
set_option maxRecDepth 100000 in
theorem zve_115 : zVe 115 11 := ⟨(zmA 3 156 (by decide +kernel) (by decide +kernel)), (zmA 3 157 (by decide +kernel) (by decide +kernel)), TX11, 14, rfl⟩
theorem zl_54 : zCw 13 54 115 1 11 := ⟨⟨(zmA 3 155 (by decide +kernel) (by decide +kernel)), zce_115⟩, zve_115⟩
set_option maxRecDepth 100000 in
theorem zce_179 : zCe 179 1 := ⟨(zmA 1 14 (by decide +kernel) (by decide +kernel)), (zmA 8 121 rfl (by decide +kernel)), ⟨by decide +kernel, by decide +kernel, by decide +kernel⟩, by decide +kernel⟩
set_option maxRecDepth 100000 in
theorem zve_179 : zVe 179 12 := ⟨(zmA 8 119 (by decide +kernel) (by decide +kernel)), (zmA 8 120 (by decide +kernel) (by decide +kernel)), TX12, 84, rfl⟩
theorem zl_58 : zCw 13 58 179 1 12 := ⟨⟨(zmA 8 118 (by decide +kernel) (by decide +kernel)), zce_179⟩, zve_179⟩
set_option maxRecDepth 100000 in
theorem zce_116 : zCe 116 0 := ⟨(zmA 1 1 (by decide +kernel) (by decide +kernel)), (zmA 3 166 rfl (by decide +kernel)), ⟨by decide +kernel, by decide +kernel, by decide +kernel⟩, by decide +kernel⟩
set_option maxRecDepth 100000 in
theorem zve_116 : zVe 116 11 := ⟨(zmA 3 164 (by decide +kernel) (by decide +kernel)), (zmA 3 165 (by decide +kernel) (by decide +kernel)), TX11, 14, rfl⟩
theorem zl_59 : zCw 13 59 116 0 11 := ⟨⟨(zmA 3 163 (by decide +kernel) (by decide +kernel)), zce_116⟩, zve_116⟩
set_option maxRecDepth 100000 in
theorem zce_190 : zCe 190 0 := ⟨(zmA 1 14 (by decide +kernel) (by decide +kernel)), (zmA 8 125 rfl (by decide +kernel)), ⟨by decide +kernel, by decide +kernel, by decide +kernel⟩, by decide +kernel⟩
set_option maxRecDepth 100000 in
theorem zve_190 : zVe 190 12 := ⟨(zmA 8 123 (by decide +kernel) (by decide +kernel)), (zmA 8 124 (by decide +kernel) (by decide +kernel)), TX12, 84, rfl⟩
theorem zl_63 : zCw 13 63 190 0 12 := ⟨⟨(zmA 8 122 (by decide +kernel) (by decide +kernel)), zce_190⟩, zve_190⟩
set_option maxRecDepth 100000 in
theorem zce_117 : zCe 117 4 := ⟨(zmA 1 1 (by decide +kernel) (by decide +kernel)), (zmA 4 45 rfl (by decide +kernel)), ⟨by decide +kernel, by decide +kernel, by decide +kernel⟩, by decide +kernel⟩
set_option maxRecDepth 100000 in
theorem zve_117 : zVe 117 11 := ⟨(zmA 4 43 (by decide +kernel) (by decide +kernel)), (zmA 4 44 (by decide +kernel) (by decide +kernel)), TX11, 14, rfl⟩
theorem zl_64 : zCw 13 64 117 4 11 := ⟨⟨(zmA 4 42 (by decide +kernel) (by decide +kernel)), zce_117⟩, zve_117⟩
set_option maxRecDepth 100000 in
theorem zce_192 : zCe 192 4 := ⟨(zmA 1 14 (by decide +kernel) (by decide +kernel)), (zmA 8 173 rfl (by decide +kernel)), ⟨by decide +kernel, by decide +kernel, by decide +kernel⟩, by decide +kernel⟩
set_option maxRecDepth 100000 in
theorem zve_192 : zVe 192 12 := ⟨(zmA 8 171 (by decide +kernel) (by decide +kernel)), (zmA 8 172 (by decide +kernel) (by decide +kernel)), TX12, 84, rfl⟩
theorem zl_68 : zCw 13 68 192 4 12 := ⟨⟨(zmA 8 170 (by decide +kernel) (by decide +kernel)), zce_192⟩, zve_192⟩
set_option maxRecDepth 100000 in
theorem zce_118 : zCe 118 1 := ⟨(zmA 1 1 (by decide +kernel) (by decide +kernel)), (zmA 4 53 rfl (by decide +kernel)), ⟨by decide +kernel, by decide +kernel, by decide +kernel⟩, by decide +kernel⟩
set_option maxRecDepth 100000 in
theorem zve_118 : zVe 118 11 := ⟨(zmA 4 51 (by decide +kernel) (by decide +kernel)), (zmA 4 52 (by decide +kernel) (by decide +kernel)), TX11, 14, rfl⟩
theorem zl_69 : zCw 13 69 118 1 11 := ⟨⟨(zmA 4 50 (by decide +kernel) (by decide +kernel)), zce_118⟩, zve_118⟩
set_option maxRecDepth 100000 in
theorem zce_195 : zCe 195 1 := ⟨(zmA 1 14 (by decide +kernel) (by decide +kernel)), (zmA 8 177 rfl (by decide +kernel)), ⟨by decide +kernel, by decide +kernel, by decide +kernel⟩, by decide +kernel⟩
set_option maxRecDepth 100000 in
theorem zve_195 : zVe 195 12 := ⟨(zmA 8 175 (by decide +kernel) (by decide +kernel)), (zmA 8 176 (by decide +kernel) (by decide +kernel)), TX12, 84, rfl⟩
theorem zl_72 : zCw 13 72 195 1 12 := ⟨⟨(zmA 8 174 (by decide +kernel) (by decide +kernel)), zce_195⟩, zve_195⟩
set_option maxRecDepth 100000 in
theorem zce_119 : zCe 119 1 := ⟨(zmA 1 1 (by decide +kernel) (by decide +kernel)), (zmA 4 61 rfl (by decide +kernel)), ⟨by decide +kernel, by decide +kernel, by decide +kernel⟩, by decide +kernel⟩
set_option maxRecDepth 100000 in
theorem zve_119 : zVe 119 11 := ⟨(zmA 4 59 (by decide +kernel) (by decide +kernel)), (zmA 4 60 (by decide +kernel) (by decide +kernel)), TX11, 14, rfl⟩
theorem zl_73 : zCw 13 73 119 1 11 := ⟨⟨(zmA 4 58 (by decide +kernel) (by decide +kernel)), zce_119⟩, zve_119⟩
set_option maxRecDepth 100000 in
theorem zce_196 : zCe 196 1 := ⟨(zmA 1 14 (by decide +kernel) (by decide +kernel)), (zmA 8 185 rfl (by decide +kernel)), ⟨by decide +kernel, by decide +kernel, by decide +kernel⟩, by decide +kernel⟩
set_option maxRecDepth 100000 in
theorem zve_196 : zVe 196 12 := ⟨(zmA 8 183 (by decide +kernel) (by decide +kernel)), (zmA 8 184 (by decide +kernel) (by decide +kernel)), TX12, 84, rfl⟩
theorem zl_76 : zCw 13 76 196 1 12 := ⟨⟨(zmA 8 182 (by decide +kernel) (by decide +kernel)), zce_196⟩, zve_196⟩
set_option maxRecDepth 100000 in
theorem zce_120 : zCe 120 2 := ⟨(zmA 1 1 (by decide +kernel) (by decide +kernel)), (zmA 4 65 rfl (by decide +kernel)), ⟨by decide +kernel, by decide +kernel, by decide +kernel⟩, by decide +kernel⟩
set_option maxRecDepth 100000 in
theorem zve_120 : zVe 120 11 := ⟨(zmA 4 63 (by decide +kernel) (by decide +kernel)), (zmA 4 64 (by decide +kernel) (by decide +kernel)), TX11, 14, rfl⟩
theorem zl_77 : zCw 13 77 120 2 11 := ⟨⟨(zmA 4 62 (by decide +kernel) (by decide +kernel)), zce_120⟩, zve_120⟩
set_option maxRecDepth 100000 in
theorem zce_197 : zCe 197 2 := ⟨(zmA 1 14 (by decide +kernel) (by decide +kernel)), (zmA 8 189 rfl (by decide +kernel)), ⟨by decide +kernel, by decide +kernel, by decide +kernel⟩, by decide +kernel⟩
set_option maxRecDepth 100000 in
theorem zve_197 : zVe 197 12 := ⟨(zmA 8 187 (by decide +kernel) (by decide +kernel)), (zmA 8 188 (by decide +kernel) (by decide +kernel)), TX12, 84, rfl⟩
theorem zl_80 : zCw 13 80 197 2 12 := ⟨⟨(zmA 8 186 (by decide +kernel) (by decide +kernel)), zce_197⟩, zve_197⟩
set_option maxRecDepth 100000 in
theorem zce_122 : zCe 122 2 := ⟨(zmA 1 1 (by decide +kernel) (by decide +kernel)), (zmA 4 69 rfl (by decide +kernel)), ⟨by decide +kernel, by decide +kernel, by decide +kernel⟩, by decide +kernel⟩
set_option maxRecDepth 100000 in
theorem zve_122 : zVe 122 11 := ⟨(zmA 4 67 (by decide +kernel) (by decide +kernel)), (zmA 4 68 (by decide +kernel) (by decide +kernel)), TX11, 14, rfl⟩
theorem zl_90 : zCw 13 90 122 2 11 := ⟨⟨(zmA 4 66 (by decide +kernel) (by decide +kernel)), zce_122⟩, zve_122⟩
set_option maxRecDepth 100000 in
theorem zce_204 : zCe 204 2 := ⟨(zmA 1 14 (by decide +kernel) (by decide +kernel)), (zmA 8 217 rfl (by decide +kernel)), ⟨by decide +kernel, by decide +kernel, by decide +kernel⟩, by decide +kernel⟩
set_option maxRecDepth 100000 in
theorem zve_204 : zVe 204 12 := ⟨(zmA 8 215 (by decide +kernel) (by decide +kernel)), (zmA 8 216 (by decide +kernel) (by decide +kernel)), TX12, 84, rfl⟩
theorem zl_93 : zCw 13 93 204 2 12 := ⟨⟨(zmA 8 214 (by decide +kernel) (by decide +kernel)), zce_204⟩, zve_204⟩
set_option maxRecDepth 100000 in
theorem zce_123 : zCe 123 0 := ⟨(zmA 1 1 (by decide +kernel) (by decide +kernel)), (zmA 4 98 rfl (by decide +kernel)), ⟨by decide +kernel, by decide +kernel, by decide +kernel⟩, by decide +kernel⟩
set_option maxRecDepth 100000 in
theorem zve_123 : zVe 123 11 := ⟨(zmA 4 96 (by decide +kernel) (by decide +kernel)), (zmA 4 97 (by decide +kernel) (by decide +kernel)), TX11, 14, rfl⟩
theorem zl_94 : zCw 13 94 123 0 11 := ⟨⟨(zmA 4 95 (by decide +kernel) (by decide +kernel)), zce_123⟩, zve_123⟩
set_option maxRecDepth 100000 in
theorem zce_206 : zCe 206 0 := ⟨(zmA 1 14 (by decide +kernel) (by decide +kernel)), (zmA 8 229 rfl (by decide +kernel)), ⟨by decide +kernel, by decide +kernel, by decide +kernel⟩, by decide +kernel⟩
set_option maxRecDepth 100000 in
theorem zve_206 : zVe 206 12 := ⟨(zmA 8 227 (by decide +kernel) (by decide +kernel)), (zmA 8 228 (by decide +kernel) (by decide +kernel)), TX12, 84, rfl⟩
theorem zl_97 : zCw 13 97 206 0 12 := ⟨⟨(zmA 8 226 (by decide +kernel) (by decide +kernel)), zce_206⟩, zve_206⟩
set_option maxRecDepth 100000 in
theorem zce_124 : zCe 124 1 := ⟨(zmA 1 1 (by decide +kernel) (by decide +kernel)), (zmA 4 118 rfl (by decide +kernel)), ⟨by decide +kernel, by decide +kernel, by decide +kernel⟩, by decide +kernel⟩
set_option maxRecDepth 100000 in
theorem zve_124 : zVe 124 11 := ⟨(zmA 4 116 (by decide +kernel) (by decide +kernel)), (zmA 4 117 (by decide +kernel) (by decide +kernel)), TX11, 14, rfl⟩
theorem zl_98 : zCw 13 98 124 1 11 := ⟨⟨(zmA 4 115 (by decide +kernel) (by decide +kernel)), zce_124⟩, zve_124⟩
set_option maxRecDepth 100000 in
theorem zce_207 : zCe 207 1 := ⟨(zmA 1 14 (by decide +kernel) (by decide +kernel)), (zmA 8 237 rfl (by decide +kernel)), ⟨by decide +kernel, by decide +kernel, by decide +kernel⟩, by decide +kernel⟩
set_option maxRecDepth 100000 in
theorem zve_207 : zVe 207 12 := ⟨(zmA 8 235 (by decide +kernel) (by decide +kernel)), (zmA 8 236 (by decide +kernel) (by decide +kernel)), TX12, 84, rfl⟩
theorem zl_101 : zCw 13 101 207 1 12 := ⟨⟨(zmA 8 234 (by decide +kernel) (by decide +kernel)), zce_207⟩, zve_207⟩
set_option maxRecDepth 100000 in
theorem zce_125 : zCe 125 2 := ⟨(zmA 1 1 (by decide +kernel) (by decide +kernel)), (zmA 4 122 rfl (by decide +kernel)), ⟨by decide +kernel, by decide +kernel, by decide +kernel⟩, by decide +kernel⟩
set_option maxRecDepth 100000 in
theorem zve_125 : zVe 125 11 := ⟨(zmA 4 120 (by decide +kernel) (by decide +kernel)), (zmA 4 121 (by decide +kernel) (by decide +kernel)), TX11, 14, rfl⟩
theorem zl_102 : zCw 13 102 125 2 11 := ⟨⟨(zmA 4 119 (by decide +kernel) (by decide +kernel)), zce_125⟩, zve_125⟩
set_option maxRecDepth 100000 in
theorem zce_214 : zCe 214 2 := ⟨(zmA 1 14 (by decide +kernel) (by decide +kernel)), (zmA 9 1 rfl (by decide +kernel)), ⟨by decide +kernel, by decide +kernel, by decide +kernel⟩, by decide +kernel⟩
set_option maxRecDepth 100000 in
theorem zve_214 : zVe 214 12 := ⟨(zmA 8 239 (by decide +kernel) (by decide +kernel)), (zmA 9 0 (by decide +kernel) (by decide +kernel)), TX12, 84, rfl⟩
theorem zl_105 : zCw 13 105 214 2 12 := ⟨⟨(zmA 8 238 (by decide +kernel) (by decide +kernel)), zce_214⟩, zve_214⟩
set_option maxRecDepth 100000 in
theorem zce_126 : zCe 126 3 := ⟨(zmA 1 1 (by decide +kernel) (by decide +kernel)), (zmA 4 161 rfl (by decide +kernel)), ⟨by decide +kernel, by decide +kernel, by decide +kernel⟩, by decide +kernel⟩
set_option maxRecDepth 100000 in
theorem zve_126 : zVe 126 11 := ⟨(zmA 4 159 (by decide +kernel) (by decide +kernel)), (zmA 4 160 (by decide +kernel) (by decide +kernel)), TX11, 14, rfl⟩
theorem zl_106 : zCw 13 106 126 3 11 := ⟨⟨(zmA 4 158 (by decide +kernel) (by decide +kernel)), zce_126⟩, zve_126⟩
set_option maxRecDepth 100000 in
theorem zce_215 : zCe 215 3 := ⟨(zmA 1 14 (by decide +kernel) (by decide +kernel)), (zmA 9 29 rfl (by decide +kernel)), ⟨by decide +kernel, by decide +kernel, by decide +kernel⟩, by decide +kernel⟩
set_option maxRecDepth 100000 in
theorem zve_215 : zVe 215 12 := ⟨(zmA 9 27 (by decide +kernel) (by decide +kernel)), (zmA 9 28 (by decide +kernel) (by decide +kernel)), TX12, 84, rfl⟩
theorem zl_110 : zCw 13 110 215 3 12 := ⟨⟨(zmA 9 26 (by decide +kernel) (by decide +kernel)), zce_215⟩, zve_215⟩
set_option maxRecDepth 100000 in
theorem zce_127 : zCe 127 1 := ⟨(zmA 1 1 (by decide +kernel) (by decide +kernel)), (zmA 4 166 rfl (by decide +kernel)), ⟨by decide +kernel, by decide +kernel, by decide +kernel⟩, by decide +kernel⟩
set_option maxRecDepth 100000 in
theorem zve_127 : zVe 127 11 := ⟨(zmA 4 164 (by decide +kernel) (by decide +kernel)), (zmA 4 165 (by decide +kernel) (by decide +kernel)), TX11, 14, rfl⟩
theorem zl_111 : zCw 13 111 127 1 11 := ⟨⟨(zmA 4 163 (by decide +kernel) (by decide +kernel)), zce_127⟩, zve_127⟩
set_option maxRecDepth 100000 in
theorem zce_217 : zCe 217 1 := ⟨(zmA 1 14 (by decide +kernel) (by decide +kernel)), (zmA 9 33 rfl (by decide +kernel)), ⟨by decide +kernel, by decide +kernel, by decide +kernel⟩, by decide +kernel⟩
set_option maxRecDepth 100000 in
theorem zve_217 : zVe 217 12 := ⟨(zmA 9 31 (by decide +kernel) (by decide +kernel)), (zmA 9 32 (by decide +kernel) (by decide +kernel)), TX12, 84, rfl⟩
theorem zl_114 : zCw 13 114 217 1 12 := ⟨⟨(zmA 9 30 (by decide +kernel) (by decide +kernel)), zce_217⟩, zve_217⟩
set_option maxRecDepth 100000 in
theorem zce_128 : zCe 128 1 := ⟨(zmA 1 1 (by decide +kernel) (by decide +kernel)), (zmA 4 189 rfl (by decide +kernel)), ⟨by decide +kernel, by decide +kernel, by decide +kernel⟩, by decide +kernel⟩
set_option maxRecDepth 100000 in
theorem zve_128 : zVe 128 11 := ⟨(zmA 4 187 (by decide +kernel) (by decide +kernel)), (zmA 4 188 (by decide +kernel) (by decide +kernel)), TX11, 14, rfl⟩
theorem zl_115 : zCw 13 115 128 1 11 := ⟨⟨(zmA 4 186 (by decide +kernel) (by decide +kernel)), zce_128⟩, zve_128⟩
set_option maxRecDepth 100000 in
theorem zce_222 : zCe 222 1 := ⟨(zmA 1 14 (by decide +kernel) (by decide +kernel)), (zmA 9 49 rfl (by decide +kernel)), ⟨by decide +kernel, by decide +kernel, by decide +kernel⟩, by decide +kernel⟩
set_option maxRecDepth 100000 in
theorem zve_222 : zVe 222 12 := ⟨(zmA 9 47 (by decide +kernel) (by decide +kernel)), (zmA 9 48 (by decide +kernel) (by decide +kernel)), TX12, 84, rfl⟩
theorem zl_118 : zCw 13 118 222 1 12 := ⟨⟨(zmA 9 46 (by decide +kernel) (by decide +kernel)), zce_222⟩, zve_222⟩
set_option maxRecDepth 100000 in
theorem zce_129 : zCe 129 1 := ⟨(zmA 1 1 (by decide +kernel) (by decide +kernel)), (zmA 4 226 rfl (by decide +kernel)), ⟨by decide +kernel, by decide +kernel, by decide +kernel⟩, by decide +kernel⟩
set_option maxRecDepth 100000 in
theorem zve_129 : zVe 129 11 := ⟨(zmA 4 224 (by decide +kernel) (by decide +kernel)), (zmA 4 225 (by decide +kernel) (by decide +kernel)), TX11, 14, rfl⟩
theorem zl_119 : zCw 13 119 129 1 11 := ⟨⟨(zmA 4 223 (by decide +kernel) (by decide +kernel)), zce_129⟩, zve_129⟩
set_option maxRecDepth 100000 in
theorem zce_224 : zCe 224 1 := ⟨(zmA 1 14 (by decide +kernel) (by decide +kernel)), (zmA 9 70 rfl (by decide +kernel)), ⟨by decide +kernel, by decide +kernel, by decide +kernel⟩, by decide +kernel⟩
set_option maxRecDepth 100000 in
theorem zve_224 : zVe 224 12 := ⟨(zmA 9 68 (by decide +kernel) (by decide +kernel)), (zmA 9 69 (by decide +kernel) (by decide +kernel)), TX12, 84, rfl⟩
theorem zl_122 : zCw 13 122 224 1 12 := ⟨⟨(zmA 9 67 (by decide +kernel) (by decide +kernel)), zce_224⟩, zve_224⟩
set_option maxRecDepth 100000 in
theorem zce_130 : zCe 130 0 := ⟨(zmA 1 1 (by decide +kernel) (by decide +kernel)), (zmA 5 6 rfl (by decide +kernel)), ⟨by decide +kernel, by decide +kernel, by decide +kernel⟩, by decide +kernel⟩
set_option maxRecDepth 100000 in
theorem zve_130 : zVe 130 11 := ⟨(zmA 5 4 (by decide +kernel) (by decide +kernel)), (zmA 5 5 (by decide +kernel) (by decide +kernel)), TX11, 14, rfl⟩
theorem zl_123 : zCw 13 123 130 0 11 := ⟨⟨(zmA 5 3 (by decide +kernel) (by decide +kernel)), zce_130⟩, zve_130⟩
set_option maxRecDepth 100000 in
theorem zce_226 : zCe 226 0 := ⟨(zmA 1 14 (by decide +kernel) (by decide +kernel)), (zmA 9 78 rfl (by decide +kernel)), ⟨by decide +kernel, by decide +kernel, by decide +kernel⟩, by decide +kernel⟩
set_option maxRecDepth 100000 in
theorem zve_226 : zVe 226 12 := ⟨(zmA 9 76 (by decide +kernel) (by decide +kernel)), (zmA 9 77 (by decide +kernel) (by decide +kernel)), TX12, 84, rfl⟩
theorem zl_126 : zCw 13 126 226 0 12 := ⟨⟨(zmA 9 75 (by decide +kernel) (by decide +kernel)), zce_226⟩, zve_226⟩
set_option maxRecDepth 100000 in
theorem zce_131 : zCe 131 1 := ⟨(zmA 1 1 (by decide +kernel) (by decide +kernel)), (zmA 5 38 rfl (by decide +kernel)), ⟨by decide +kernel, by decide +kernel, by decide +kernel⟩, by decide +kernel⟩
set_option maxRecDepth 100000 in
theorem zve_131 : zVe 131 11 := ⟨(zmA 5 36 (by decide +kernel) (by decide +kernel)), (zmA 5 37 (by decide +kernel) (by decide +kernel)), TX11, 14, rfl⟩
theorem zl_127 : zCw 13 127 131 1 11 := ⟨⟨(zmA 5 35 (by decide +kernel) (by decide +kernel)), zce_131⟩, zve_131⟩
set_option maxRecDepth 100000 in
theorem zce_227 : zCe 227 1 := ⟨(zmA 1 14 (by decide +kernel) (by decide +kernel)), (zmA 9 86 rfl (by decide +kernel)), ⟨by decide +kernel, by decide +kernel, by decide +kernel⟩, by decide +kernel⟩
set_option maxRecDepth 100000 in
theorem zve_227 : zVe 227 12 := ⟨(zmA 9 84 (by decide +kernel) (by decide +kernel)), (zmA 9 85 (by decide +kernel) (by decide +kernel)), TX12, 84, rfl⟩
theorem zl_130 : zCw 13 130 227 1 12 := ⟨⟨(zmA 9 83 (by decide +kernel) (by decide +kernel)), zce_227⟩, zve_227⟩
set_option maxRecDepth 100000 in
theorem zce_132 : zCe 132 1 := ⟨(zmA 1 1 (by decide +kernel) (by decide +kernel)), (zmA 5 50 rfl (by decide +kernel)), ⟨by decide +kernel, by decide +kernel, by decide +kernel⟩, by decide +kernel⟩
set_option maxRecDepth 100000 in
theorem zve_132 : zVe 132 11 := ⟨(zmA 5 48 (by decide +kernel) (by decide +kernel)), (zmA 5 49 (by decide +kernel) (by decide +kernel)), TX11, 14, rfl⟩
theorem zl_131 : zCw 13 131 132 1 11 := ⟨⟨(zmA 5 47 (by decide +kernel) (by decide +kernel)), zce_132⟩, zve_132⟩
set_option maxRecDepth 100000 in
theorem zce_228 : zCe 228 1 := ⟨(zmA 1 14 (by decide +kernel) (by decide +kernel)), (zmA 9 90 rfl (by decide +kernel)), ⟨by decide +kernel, by decide +kernel, by decide +kernel⟩, by decide +kernel⟩
set_option maxRecDepth 100000 in
theorem zve_228 : zVe 228 12 := ⟨(zmA 9 88 (by decide +kernel) (by decide +kernel)), (zmA 9 89 (by decide +kernel) (by decide +kernel)), TX12, 84, rfl⟩
theorem zl_134 : zCw 13 134 228 1 12 := ⟨⟨(zmA 9 87 (by decide +kernel) (by decide +kernel)), zce_228⟩, zve_228⟩
set_option maxRecDepth 100000 in
theorem zce_133 : zCe 133 0 := ⟨(zmA 1 1 (by decide +kernel) (by decide +kernel)), (zmA 5 58 rfl (by decide +kernel)), ⟨by decide +kernel, by decide +kernel, by decide +kernel⟩, by decide +kernel⟩
set_option maxRecDepth 100000 in
theorem zve_133 : zVe 133 11 := ⟨(zmA 5 56 (by decide +kernel) (by decide +kernel)), (zmA 5 57 (by decide +kernel) (by decide +kernel)), TX11, 14, rfl⟩
theorem zl_135 : zCw 13 135 133 0 11 := ⟨⟨(zmA 5 55 (by decide +kernel) (by decide +kernel)), zce_133⟩, zve_133⟩
set_option maxRecDepth 100000 in
theorem zce_230 : zCe 230 0 := ⟨(zmA 1 14 (by decide +kernel) (by decide +kernel)), (zmA 9 98 rfl (by decide +kernel)), ⟨by decide +kernel, by decide +kernel, by decide +kernel⟩, by decide +kernel⟩
set_option maxRecDepth 100000 in
theorem zve_230 : zVe 230 12 := ⟨(zmA 9 96 (by decide +kernel) (by decide +kernel)), (zmA 9 97 (by decide +kernel) (by decide +kernel)), TX12, 84, rfl⟩
theorem zl_138 : zCw 13 138 230 0 12 := ⟨⟨(zmA 9 95 (by decide +kernel) (by decide +kernel)), zce_230⟩, zve_230⟩
set_option maxRecDepth 100000 in
theorem zce_134 : zCe 134 0 := ⟨(zmA 1 1 (by decide +kernel) (by decide +kernel)), (zmA 5 66 rfl (by decide +kernel)), ⟨by decide +kernel, by decide +kernel, by decide +kernel⟩, by decide +kernel⟩
set_option maxRecDepth 100000 in
theorem zve_134 : zVe 134 11 := ⟨(zmA 5 64 (by decide +kernel) (by decide +kernel)), (zmA 5 65 (by decide +kernel) (by decide +kernel)), TX11, 14, rfl⟩
theorem zl_139 : zCw 13 139 134 0 11 := ⟨⟨(zmA 5 63 (by decide +kernel) (by decide +kernel)), zce_134⟩, zve_134⟩
set_option maxRecDepth 100000 in
theorem zce_236 : zCe 236 0 := ⟨(zmA 1 14 (by decide +kernel) (by decide +kernel)), (zmA 9 102 rfl (by decide +kernel)), ⟨by decide +kernel, by decide +kernel, by decide +kernel⟩, by decide +kernel⟩
set_option maxRecDepth 100000 in
theorem zve_236 : zVe 236 12 := ⟨(zmA 9 100 (by decide +kernel) (by decide +kernel)), (zmA 9 101 (by decide +kernel) (by decide +kernel)), TX12, 84, rfl⟩
theorem zl_142 : zCw 13 142 236 0 12 := ⟨⟨(zmA 9 99 (by decide +kernel) (by decide +kernel)), zce_236⟩, zve_236⟩
set_option maxRecDepth 100000 in
theorem zce_135 : zCe 135 1 := ⟨(zmA 1 1 (by decide +kernel) (by decide +kernel)), (zmA 5 104 rfl (by decide +kernel)), ⟨by decide +kernel, by decide +kernel, by decide +kernel⟩, by decide +kernel⟩
set_option maxRecDepth 100000 in
theorem zve_135 : zVe 135 11 := ⟨(zmA 5 102 (by decide +kernel) (by decide +kernel)), (zmA 5 103 (by decide +kernel) (by decide +kernel)), TX11, 14, rfl⟩
theorem zl_143 : zCw 13 143 135 1 11 := ⟨⟨(zmA 5 101 (by decide +kernel) (by decide +kernel)), zce_135⟩, zve_135⟩
set_option maxRecDepth 100000 in
theorem zce_239 : zCe 239 1 := ⟨(zmA 1 14 (by decide +kernel) (by decide +kernel)), (zmA 9 127 rfl (by decide +kernel)), ⟨by decide +kernel, by decide +kernel, by decide +kernel⟩, by decide +kernel⟩
set_option maxRecDepth 100000 in
theorem zve_239 : zVe 239 12 := ⟨(zmA 9 125 (by decide +kernel) (by decide +kernel)), (zmA 9 126 (by decide +kernel) (by decide +kernel)), TX12, 84, rfl⟩
theorem zl_146 : zCw 13 146 239 1 12 := ⟨⟨(zmA 9 124 (by decide +kernel) (by decide +kernel)), zce_239⟩, zve_239⟩
set_option maxRecDepth 100000 in
theorem zce_136 : zCe 136 3 := ⟨(zmA 1 1 (by decide +kernel) (by decide +kernel)), (zmA 5 134 rfl (by decide +kernel)), ⟨by decide +kernel, by decide +kernel, by decide +kernel⟩, by decide +kernel⟩
set_option maxRecDepth 100000 in
theorem zve_136 : zVe 136 11 := ⟨(zmA 5 132 (by decide +kernel) (by decide +kernel)), (zmA 5 133 (by decide +kernel) (by decide +kernel)), TX11, 14, rfl⟩
theorem zl_147 : zCw 13 147 136 3 11 := ⟨⟨(zmA 5 131 (by decide +kernel) (by decide +kernel)), zce_136⟩, zve_136⟩
set_option maxRecDepth 100000 in
theorem zce_240 : zCe 240 3 := ⟨(zmA 1 14 (by decide +kernel) (by decide +kernel)), (zmA 9 139 rfl (by decide +kernel)), ⟨by decide +kernel, by decide +kernel, by decide +kernel⟩, by decide +kernel⟩
set_option maxRecDepth 100000 in
theorem zve_240 : zVe 240 12 := ⟨(zmA 9 137 (by decide +kernel) (by decide +kernel)), (zmA 9 138 (by decide +kernel) (by decide +kernel)), TX12, 84, rfl⟩
theorem zl_150 : zCw 13 150 240 3 12 := ⟨⟨(zmA 9 136 (by decide +kernel) (by decide +kernel)), zce_240⟩, zve_240⟩
set_option maxRecDepth 100000 in
theorem zce_137 : zCe 137 3 := ⟨(zmA 1 1 (by decide +kernel) (by decide +kernel)), (zmA 5 138 rfl (by decide +kernel)), ⟨by decide +kernel, by decide +kernel, by decide +kernel⟩, by decide +kernel⟩
set_option maxRecDepth 100000 in
theorem zve_137 : zVe 137 11 := ⟨(zmA 5 136 (by decide +kernel) (by decide +kernel)), (zmA 5 137 (by decide +kernel) (by decide +kernel)), TX11, 14, rfl⟩
theorem zl_151 : zCw 13 151 137 3 11 := ⟨⟨(zmA 5 135 (by decide +kernel) (by decide +kernel)), zce_137⟩, zve_137⟩
set_option maxRecDepth 100000 in
theorem zce_241 : zCe 241 3 := ⟨(zmA 1 14 (by decide +kernel) (by decide +kernel)), (zmA 9 143 rfl (by decide +kernel)), ⟨by decide +kernel, by decide +kernel, by decide +kernel⟩, by decide +kernel⟩
set_option maxRecDepth 100000 in
theorem zve_241 : zVe 241 12 := ⟨(zmA 9 141 (by decide +kernel) (by decide +kernel)), (zmA 9 142 (by decide +kernel) (by decide +kernel)), TX12, 84, rfl⟩
theorem zl_154 : zCw 13 154 241 3 12 := ⟨⟨(zmA 9 140 (by decide +kernel) (by decide +kernel)), zce_241⟩, zve_241⟩
set_option maxRecDepth 100000 in
theorem zce_138 : zCe 138 1 := ⟨(zmA 1 1 (by decide +kernel) (by decide +kernel)), (zmA 5 142 rfl (by decide +kernel)), ⟨by decide +kernel, by decide +kernel, by decide +kernel⟩, by decide +kernel⟩
set_option maxRecDepth 100000 in
theorem zve_138 : zVe 138 11 := ⟨(zmA 5 140 (by decide +kernel) (by decide +kernel)), (zmA 5 141 (by decide +kernel) (by decide +kernel)), TX11, 14, rfl⟩
theorem zl_155 : zCw 13 155 138 1 11 := ⟨⟨(zmA 5 139 (by decide +kernel) (by decide +kernel)), zce_138⟩, zve_138⟩
set_option maxRecDepth 100000 in
theorem zce_245 : zCe 245 1 := ⟨(zmA 1 14 (by decide +kernel) (by decide +kernel)), (zmA 9 147 rfl (by decide +kernel)), ⟨by decide +kernel, by decide +kernel, by decide +kernel⟩, by decide +kernel⟩
set_option maxRecDepth 100000 in
theorem zve_245 : zVe 245 12 := ⟨(zmA 9 145 (by decide +kernel) (by decide +kernel)), (zmA 9 146 (by decide +kernel) (by decide +kernel)), TX12, 84, rfl⟩
theorem zl_158 : zCw 13 158 245 1 12 := ⟨⟨(zmA 9 144 (by decide +kernel) (by decide +kernel)), zce_245⟩, zve_245⟩
set_option maxRecDepth 100000 in
theorem zce_139 : zCe 139 1 := ⟨(zmA 1 1 (by decide +kernel) (by decide +kernel)), (zmA 5 176 rfl (by decide +kernel)), ⟨by decide +kernel, by decide +kernel, by decide +kernel⟩, by decide +kernel⟩
set_option maxRecDepth 100000 in
theorem zve_139 : zVe 139 11 := ⟨(zmA 5 174 (by decide +kernel) (by decide +kernel)), (zmA 5 175 (by decide +kernel) (by decide +kernel)), TX11, 14, rfl⟩
theorem zl_159 : zCw 13 159 139 1 11 := ⟨⟨(zmA 5 173 (by decide +kernel) (by decide +kernel)), zce_139⟩, zve_139⟩
set_option maxRecDepth 100000 in
theorem zce_246 : zCe 246 1 := ⟨(zmA 1 14 (by decide +kernel) (by decide +kernel)), (zmA 9 167 rfl (by decide +kernel)), ⟨by decide +kernel, by decide +kernel, by decide +kernel⟩, by decide +kernel⟩
set_option maxRecDepth 100000 in
theorem zve_246 : zVe 246 12 := ⟨(zmA 9 165 (by decide +kernel) (by decide +kernel)), (zmA 9 166 (by decide +kernel) (by decide +kernel)), TX12, 84, rfl⟩
theorem zl_162 : zCw 13 162 246 1 12 := ⟨⟨(zmA 9 164 (by decide +kernel) (by decide +kernel)), zce_246⟩, zve_246⟩
set_option maxRecDepth 100000 in
theorem zce_140 : zCe 140 1 := ⟨(zmA 1 1 (by decide +kernel) (by decide +kernel)), (zmA 5 180 rfl (by decide +kernel)), ⟨by decide +kernel, by decide +kernel, by decide +kernel⟩, by decide +kernel⟩
set_option maxRecDepth 100000 in
theorem zve_140 : zVe 140 11 := ⟨(zmA 5 178 (by decide +kernel) (by decide +kernel)), (zmA 5 179 (by decide +kernel) (by decide +kernel)), TX11, 14, rfl⟩
theorem zl_163 : zCw 13 163 140 1 11 := ⟨⟨(zmA 5 177 (by decide +kernel) (by decide +kernel)), zce_140⟩, zve_140⟩
set_option maxRecDepth 100000 in
theorem zce_248 : zCe 248 1 := ⟨(zmA 1 14 (by decide +kernel) (by decide +kernel)), (zmA 9 171 rfl (by decide +kernel)), ⟨by decide +kernel, by decide +kernel, by decide +kernel⟩, by decide +kernel⟩
set_option maxRecDepth 100000 in
theorem zve_248 : zVe 248 12 := ⟨(zmA 9 169 (by decide +kernel) (by decide +kernel)), (zmA 9 170 (by decide +kernel) (by decide +kernel)), TX12, 84, rfl⟩
theorem zl_166 : zCw 13 166 248 1 12 := ⟨⟨(zmA 9 168 (by decide +kernel) (by decide +kernel)), zce_248⟩, zve_248⟩
set_option maxRecDepth 100000 in
theorem zce_141 : zCe 141 3 := ⟨(zmA 1 1 (by decide +kernel) (by decide +kernel)), (zmA 5 193 rfl (by decide +kernel)), ⟨by decide +kernel, by decide +kernel, by decide +kernel⟩, by decide +kernel⟩
set_option maxRecDepth 100000 in
theorem zve_141 : zVe 141 11 := ⟨(zmA 5 191 (by decide +kernel) (by decide +kernel)), (zmA 5 192 (by decide +kernel) (by decide +kernel)), TX11, 14, rfl⟩
theorem zl_167 : zCw 13 167 141 3 11 := ⟨⟨(zmA 5 190 (by decide +kernel) (by decide +kernel)), zce_141⟩, zve_141⟩
set_option maxRecDepth 100000 in
theorem zce_249 : zCe 249 3 := ⟨(zmA 1 14 (by decide +kernel) (by decide +kernel)), (zmA 9 175 rfl (by decide +kernel)), ⟨by decide +kernel, by decide +kernel, by decide +kernel⟩, by decide +kernel⟩
set_option maxRecDepth 100000 in
theorem zve_249 : zVe 249 12 := ⟨(zmA 9 173 (by decide +kernel) (by decide +kernel)), (zmA 9 174 (by decide +kernel) (by decide +kernel)), TX12, 84, rfl⟩
theorem zl_170 : zCw 13 170 249 3 12 := ⟨⟨(zmA 9 172 (by decide +kernel) (by decide +kernel)), zce_249⟩, zve_249⟩
set_option maxRecDepth 100000 in
theorem zce_142 : zCe 142 2 := ⟨(zmA 1 1 (by decide +kernel) (by decide +kernel)), (zmA 5 201 rfl (by decide +kernel)), ⟨by decide +kernel, by decide +kernel, by decide +kernel⟩, by decide +kernel⟩
set_option maxRecDepth 100000 in
theorem zve_142 : zVe 142 11 := ⟨(zmA 5 199 (by decide +kernel) (by decide +kernel)), (zmA 5 200 (by decide +kernel) (by decide +kernel)), TX11, 14, rfl⟩
theorem zl_171 : zCw 13 171 142 2 11 := ⟨⟨(zmA 5 198 (by decide +kernel) (by decide +kernel)), zce_142⟩, zve_142⟩
set_option maxRecDepth 100000 in
theorem zce_251 : zCe 251 2 := ⟨(zmA 1 14 (by decide +kernel) (by decide +kernel)), (zmA 9 179 rfl (by decide +kernel)), ⟨by decide +kernel, by decide +kernel, by decide +kernel⟩, by decide +kernel⟩
set_option maxRecDepth 100000 in
theorem zve_251 : zVe 251 12 := ⟨(zmA 9 177 (by decide +kernel) (by decide +kernel)), (zmA 9 178 (by decide +kernel) (by decide +kernel)), TX12, 84, rfl⟩
theorem zl_175 : zCw 13 175 251 2 12 := ⟨⟨(zmA 9 176 (by decide +kernel) (by decide +kernel)), zce_251⟩, zve_251⟩
set_option maxRecDepth 100000 in
theorem zce_143 : zCe 143 2 := ⟨(zmA 1 1 (by decide +kernel) (by decide +kernel)), (zmA 5 213 rfl (by decide +kernel)), ⟨by decide +kernel, by decide +kernel, by decide +kernel⟩, by decide +kernel⟩
set_option maxRecDepth 100000 in
theorem zve_143 : zVe 143 11 := ⟨(zmA 5 211 (by decide +kernel) (by decide +kernel)), (zmA 5 212 (by decide +kernel) (by decide +kernel)), TX11, 14, rfl⟩
theorem zl_176 : zCw 13 176 143 2 11 := ⟨⟨(zmA 5 210 (by decide +kernel) (by decide +kernel)), zce_143⟩, zve_143⟩
set_option maxRecDepth 100000 in
theorem zce_253 : zCe 253 2 := ⟨(zmA 1 14 (by decide +kernel) (by decide +kernel)), (zmA 9 191 rfl (by decide +kernel)), ⟨by decide +kernel, by decide +kernel, by decide +kernel⟩, by decide +kernel⟩
set_option maxRecDepth 100000 in
theorem zve_253 : zVe 253 12 := ⟨(zmA 9 189 (by decide +kernel) (by decide +kernel)), (zmA 9 190 (by decide +kernel) (by decide +kernel)), TX12, 84, rfl⟩
theorem zl_179 : zCw 13 179 253 2 12 := ⟨⟨(zmA 9 188 (by decide +kernel) (by decide +kernel)), zce_253⟩, zve_253⟩
set_option maxRecDepth 100000 in
theorem zce_144 : zCe 144 0 := ⟨(zmA 1 1 (by decide +kernel) (by decide +kernel)), (zmA 5 222 rfl (by decide +kernel)), ⟨by decide +kernel, by decide +kernel, by decide +kernel⟩, by decide +kernel⟩
set_option maxRecDepth 100000 in
theorem zve_144 : zVe 144 11 := ⟨(zmA 5 220 (by decide +kernel) (by decide +kernel)), (zmA 5 221 (by decide +kernel) (by decide +kernel)), TX11, 14, rfl⟩
theorem zl_180 : zCw 13 180 144 0 11 := ⟨⟨(zmA 5 219 (by decide +kernel) (by decide +kernel)), zce_144⟩, zve_144⟩
set_option maxRecDepth 100000 in
theorem zce_257 : zCe 257 0 := ⟨(zmA 1 14 (by decide +kernel) (by decide +kernel)), (zmA 9 199 rfl (by decide +kernel)), ⟨by decide +kernel, by decide +kernel, by decide +kernel⟩, by decide +kernel⟩
set_option maxRecDepth 100000 in
theorem zve_257 : zVe 257 12 := ⟨(zmA 9 197 (by decide +kernel) (by decide +kernel)), (zmA 9 198 (by decide +kernel) (by decide +kernel)), TX12, 84, rfl⟩
theorem zl_183 : zCw 13 183 257 0 12 := ⟨⟨(zmA 9 196 (by decide +kernel) (by decide +kernel)), zce_257⟩, zve_257⟩
set_option maxRecDepth 100000 in
theorem zce_145 : zCe 145 1 := ⟨(zmA 1 1 (by decide +kernel) (by decide +kernel)), (zmA 6 12 rfl (by decide +kernel)), ⟨by decide +kernel, by decide +kernel, by decide +kernel⟩, by decide +kernel⟩
set_option maxRecDepth 100000 in
theorem zve_145 : zVe 145 11 := ⟨(zmA 6 10 (by decide +kernel) (by decide +kernel)), (zmA 6 11 (by decide +kernel) (by decide +kernel)), TX11, 14, rfl⟩
theorem zl_184 : zCw 13 184 145 1 11 := ⟨⟨(zmA 6 9 (by decide +kernel) (by decide +kernel)), zce_145⟩, zve_145⟩
set_option maxRecDepth 100000 in
theorem zce_258 : zCe 258 1 := ⟨(zmA 1 14 (by decide +kernel) (by decide +kernel)), (zmA 9 215 rfl (by decide +kernel)), ⟨by decide +kernel, by decide +kernel, by decide +kernel⟩, by decide +kernel⟩
set_option maxRecDepth 100000 in
theorem zve_258 : zVe 258 12 := ⟨(zmA 9 213 (by decide +kernel) (by decide +kernel)), (zmA 9 214 (by decide +kernel) (by decide +kernel)), TX12, 84, rfl⟩
theorem zl_187 : zCw 13 187 258 1 12 := ⟨⟨(zmA 9 212 (by decide +kernel) (by decide +kernel)), zce_258⟩, zve_258⟩
set_option maxRecDepth 100000 in
theorem zce_146 : zCe 146 1 := ⟨(zmA 1 1 (by decide +kernel) (by decide +kernel)), (zmA 6 16 rfl (by decide +kernel)), ⟨by decide +kernel, by decide +kernel, by decide +kernel⟩, by decide +kernel⟩
set_option maxRecDepth 100000 in
theorem zve_146 : zVe 146 11 := ⟨(zmA 6 14 (by decide +kernel) (by decide +kernel)), (zmA 6 15 (by decide +kernel) (by decide +kernel)), TX11, 14, rfl⟩
theorem zl_188 : zCw 13 188 146 1 11 := ⟨⟨(zmA 6 13 (by decide +kernel) (by decide +kernel)), zce_146⟩, zve_146⟩
set_option maxRecDepth 100000 in
theorem zce_259 : zCe 259 1 := ⟨(zmA 1 14 (by decide +kernel) (by decide +kernel)), (zmA 9 219 rfl (by decide +kernel)), ⟨by decide +kernel, by decide +kernel, by decide +kernel⟩, by decide +kernel⟩
set_option maxRecDepth 100000 in
theorem zve_259 : zVe 259 12 := ⟨(zmA 9 217 (by decide +kernel) (by decide +kernel)), (zmA 9 218 (by decide +kernel) (by decide +kernel)), TX12, 84, rfl⟩
theorem zl_191 : zCw 13 191 259 1 12 := ⟨⟨(zmA 9 216 (by decide +kernel) (by decide +kernel)), zce_259⟩, zve_259⟩
set_option maxRecDepth 100000 in
theorem zce_147 : zCe 147 0 := ⟨(zmA 1 1 (by decide +kernel) (by decide +kernel)), (zmA 6 28 rfl (by decide +kernel)), ⟨by decide +kernel, by decide +kernel, by decide +kernel⟩, by decide +kernel⟩
set_option maxRecDepth 100000 in
theorem zve_147 : zVe 147 11 := ⟨(zmA 6 26 (by decide +kernel) (by decide +kernel)), (zmA 6 27 (by decide +kernel) (by decide +kernel)), TX11, 14, rfl⟩
theorem zl_192 : zCw 13 192 147 0 11 := ⟨⟨(zmA 6 25 (by decide +kernel) (by decide +kernel)), zce_147⟩, zve_147⟩
set_option maxRecDepth 100000 in
theorem zce_260 : zCe 260 0 := ⟨(zmA 1 14 (by decide +kernel) (by decide +kernel)), (zmA 9 223 rfl (by decide +kernel)), ⟨by decide +kernel, by decide +kernel, by decide +kernel⟩, by decide +kernel⟩
set_option maxRecDepth 100000 in
theorem zve_260 : zVe 260 12 := ⟨(zmA 9 221 (by decide +kernel) (by decide +kernel)), (zmA 9 222 (by decide +kernel) (by decide +kernel)), TX12, 84, rfl⟩
theorem zl_195 : zCw 13 195 260 0 12 := ⟨⟨(zmA 9 220 (by decide +kernel) (by decide +kernel)), zce_260⟩, zve_260⟩
set_option maxRecDepth 100000 in
theorem zce_148 : zCe 148 0 := ⟨(zmA 1 1 (by decide +kernel) (by decide +kernel)), (zmA 6 38 rfl (by decide +kernel)), ⟨by decide +kernel, by decide +kernel, by decide +kernel⟩, by decide +kernel⟩
set_option maxRecDepth 100000 in
theorem zve_148 : zVe 148 11 := ⟨(zmA 6 36 (by decide +kernel) (by decide +kernel)), (zmA 6 37 (by decide +kernel) (by decide +kernel)), TX11, 14, rfl⟩
theorem zl_196 : zCw 13 196 148 0 11 := ⟨⟨(zmA 6 35 (by decide +kernel) (by decide +kernel)), zce_148⟩, zve_148⟩
set_option maxRecDepth 100000 in
theorem zce_262 : zCe 262 0 := ⟨(zmA 1 14 (by decide +kernel) (by decide +kernel)), (zmA 9 227 rfl (by decide +kernel)), ⟨by decide +kernel, by decide +kernel, by decide +kernel⟩, by decide +kernel⟩
set_option maxRecDepth 100000 in
theorem zve_262 : zVe 262 12 := ⟨(zmA 9 225 (by decide +kernel) (by decide +kernel)), (zmA 9 226 (by decide +kernel) (by decide +kernel)), TX12, 84, rfl⟩
theorem zl_199 : zCw 13 199 262 0 12 := ⟨⟨(zmA 9 224 (by decide +kernel) (by decide +kernel)), zce_262⟩, zve_262⟩
set_option maxRecDepth 100000 in
theorem zce_149 : zCe 149 2 := ⟨(zmA 1 1 (by decide +kernel) (by decide +kernel)), (zmA 6 88 rfl (by decide +kernel)), ⟨by decide +kernel, by decide +kernel, by decide +kernel⟩, by decide +kernel⟩
set_option maxRecDepth 100000 in
theorem zve_149 : zVe 149 11 := ⟨(zmA 6 86 (by decide +kernel) (by decide +kernel)), (zmA 6 87 (by decide +kernel) (by decide +kernel)), TX11, 14, rfl⟩
theorem zl_200 : zCw 13 200 149 2 11 := ⟨⟨(zmA 6 85 (by decide +kernel) (by decide +kernel)), zce_149⟩, zve_149⟩
set_option maxRecDepth 100000 in
theorem zce_265 : zCe 265 2 := ⟨(zmA 1 14 (by decide +kernel) (by decide +kernel)), (zmA 10 7 rfl (by decide +kernel)), ⟨by decide +kernel, by decide +kernel, by decide +kernel⟩, by decide +kernel⟩
set_option maxRecDepth 100000 in
theorem zve_265 : zVe 265 12 := ⟨(zmA 10 5 (by decide +kernel) (by decide +kernel)), (zmA 10 6 (by decide +kernel) (by decide +kernel)), TX12, 84, rfl⟩
theorem zl_203 : zCw 13 203 265 2 12 := ⟨⟨(zmA 10 4 (by decide +kernel) (by decide +kernel)), zce_265⟩, zve_265⟩
set_option maxRecDepth 100000 in
theorem zce_150 : zCe 150 2 := ⟨(zmA 1 1 (by decide +kernel) (by decide +kernel)), (zmA 6 106 rfl (by decide +kernel)), ⟨by decide +kernel, by decide +kernel, by decide +kernel⟩, by decide +kernel⟩
set_option maxRecDepth 100000 in
theorem zve_150 : zVe 150 11 := ⟨(zmA 6 104 (by decide +kernel) (by decide +kernel)), (zmA 6 105 (by decide +kernel) (by decide +kernel)), TX11, 14, rfl⟩
theorem zl_204 : zCw 13 204 150 2 11 := ⟨⟨(zmA 6 103 (by decide +kernel) (by decide +kernel)), zce_150⟩, zve_150⟩
set_option maxRecDepth 100000 in
theorem zce_268 : zCe 268 2 := ⟨(zmA 1 14 (by decide +kernel) (by decide +kernel)), (zmA 10 19 rfl (by decide +kernel)), ⟨by decide +kernel, by decide +kernel, by decide +kernel⟩, by decide +kernel⟩
set_option maxRecDepth 100000 in
theorem zve_268 : zVe 268 12 := ⟨(zmA 10 17 (by decide +kernel) (by decide +kernel)), (zmA 10 18 (by decide +kernel) (by decide +kernel)), TX12, 84, rfl⟩
theorem zl_207 : zCw 13 207 268 2 12 := ⟨⟨(zmA 10 16 (by decide +kernel) (by decide +kernel)), zce_268⟩, zve_268⟩
set_option maxRecDepth 100000 in
theorem zce_151 : zCe 151 1 := ⟨(zmA 1 1 (by decide +kernel) (by decide +kernel)), (zmA 6 127 rfl (by decide +kernel)), ⟨by decide +kernel, by decide +kernel, by decide +kernel⟩, by decide +kernel⟩
set_option maxRecDepth 100000 in
theorem zve_151 : zVe 151 11 := ⟨(zmA 6 125 (by decide +kernel) (by decide +kernel)), (zmA 6 126 (by decide +kernel) (by decide +kernel)), TX11, 14, rfl⟩
theorem zl_208 : zCw 13 208 151 1 11 := ⟨⟨(zmA 6 124 (by decide +kernel) (by decide +kernel)), zce_151⟩, zve_151⟩
set_option maxRecDepth 100000 in
theorem zce_269 : zCe 269 1 := ⟨(zmA 1 14 (by decide +kernel) (by decide +kernel)), (zmA 10 32 rfl (by decide +kernel)), ⟨by decide +kernel, by decide +kernel, by decide +kernel⟩, by decide +kernel⟩
set_option maxRecDepth 100000 in
theorem zve_269 : zVe 269 12 := ⟨(zmA 10 30 (by decide +kernel) (by decide +kernel)), (zmA 10 31 (by decide +kernel) (by decide +kernel)), TX12, 84, rfl⟩
theorem zl_211 : zCw 13 211 269 1 12 := ⟨⟨(zmA 10 29 (by decide +kernel) (by decide +kernel)), zce_269⟩, zve_269⟩
set_option maxRecDepth 100000 in
theorem zce_152 : zCe 152 1 := ⟨(zmA 1 1 (by decide +kernel) (by decide +kernel)), (zmA 6 136 rfl (by decide +kernel)), ⟨by decide +kernel, by decide +kernel, by decide +kernel⟩, by decide +kernel⟩
set_option maxRecDepth 100000 in
theorem zve_152 : zVe 152 11 := ⟨(zmA 6 134 (by decide +kernel) (by decide +kernel)), (zmA 6 135 (by decide +kernel) (by decide +kernel)), TX11, 14, rfl⟩
theorem zl_212 : zCw 13 212 152 1 11 := ⟨⟨(zmA 6 133 (by decide +kernel) (by decide +kernel)), zce_152⟩, zve_152⟩
set_option maxRecDepth 100000 in
theorem zce_270 : zCe 270 1 := ⟨(zmA 1 14 (by decide +kernel) (by decide +kernel)), (zmA 10 36 rfl (by decide +kernel)), ⟨by decide +kernel, by decide +kernel, by decide +kernel⟩, by decide +kernel⟩
set_option maxRecDepth 100000 in
theorem zve_270 : zVe 270 12 := ⟨(zmA 10 34 (by decide +kernel) (by decide +kernel)), (zmA 10 35 (by decide +kernel) (by decide +kernel)), TX12, 84, rfl⟩
theorem zl_215 : zCw 13 215 270 1 12 := ⟨⟨(zmA 10 33 (by decide +kernel) (by decide +kernel)), zce_270⟩, zve_270⟩
set_option maxRecDepth 100000 in
theorem zce_153 : zCe 153 0 := ⟨(zmA 1 1 (by decide +kernel) (by decide +kernel)), (zmA 6 154 rfl (by decide +kernel)), ⟨by decide +kernel, by decide +kernel, by decide +kernel⟩, by decide +kernel⟩
set_option maxRecDepth 100000 in
theorem zve_153 : zVe 153 11 := ⟨(zmA 6 152 (by decide +kernel) (by decide +kernel)), (zmA 6 153 (by decide +kernel) (by decide +kernel)), TX11, 14, rfl⟩
theorem zl_216 : zCw 13 216 153 0 11 := ⟨⟨(zmA 6 151 (by decide +kernel) (by decide +kernel)), zce_153⟩, zve_153⟩
set_option maxRecDepth 100000 in
theorem zce_275 : zCe 275 0 := ⟨(zmA 1 14 (by decide +kernel) (by decide +kernel)), (zmA 10 44 rfl (by decide +kernel)), ⟨by decide +kernel, by decide +kernel, by decide +kernel⟩, by decide +kernel⟩
set_option maxRecDepth 100000 in
theorem zve_275 : zVe 275 12 := ⟨(zmA 10 42 (by decide +kernel) (by decide +kernel)), (zmA 10 43 (by decide +kernel) (by decide +kernel)), TX12, 84, rfl⟩
theorem zl_219 : zCw 13 219 275 0 12 := ⟨⟨(zmA 10 41 (by decide +kernel) (by decide +kernel)), zce_275⟩, zve_275⟩
set_option maxRecDepth 100000 in
theorem zce_154 : zCe 154 1 := ⟨(zmA 1 1 (by decide +kernel) (by decide +kernel)), (zmA 6 160 rfl (by decide +kernel)), ⟨by decide +kernel, by decide +kernel, by decide +kernel⟩, by decide +kernel⟩
set_option maxRecDepth 100000 in
theorem zve_154 : zVe 154 11 := ⟨(zmA 6 158 (by decide +kernel) (by decide +kernel)), (zmA 6 159 (by decide +kernel) (by decide +kernel)), TX11, 14, rfl⟩
theorem zl_220 : zCw 13 220 154 1 11 := ⟨⟨(zmA 6 157 (by decide +kernel) (by decide +kernel)), zce_154⟩, zve_154⟩
set_option maxRecDepth 100000 in
theorem zce_276 : zCe 276 1 := ⟨(zmA 1 14 (by decide +kernel) (by decide +kernel)), (zmA 10 48 rfl (by decide +kernel)), ⟨by decide +kernel, by decide +kernel, by decide +kernel⟩, by decide +kernel⟩
set_option maxRecDepth 100000 in
theorem zve_276 : zVe 276 12 := ⟨(zmA 10 46 (by decide +kernel) (by decide +kernel)), (zmA 10 47 (by decide +kernel) (by decide +kernel)), TX12, 84, rfl⟩
theorem zl_223 : zCw 13 223 276 1 12 := ⟨⟨(zmA 10 45 (by decide +kernel) (by decide +kernel)), zce_276⟩, zve_276⟩
set_option maxRecDepth 100000 in
theorem zce_155 : zCe 155 1 := ⟨(zmA 1 1 (by decide +kernel) (by decide +kernel)), (zmA 6 169 rfl (by decide +kernel)), ⟨by decide +kernel, by decide +kernel, by decide +kernel⟩, by decide +kernel⟩
set_option maxRecDepth 100000 in
theorem zve_155 : zVe 155 11 := ⟨(zmA 6 167 (by decide +kernel) (by decide +kernel)), (zmA 6 168 (by decide +kernel) (by decide +kernel)), TX11, 14, rfl⟩
theorem zl_224 : zCw 13 224 155 1 11 := ⟨⟨(zmA 6 166 (by decide +kernel) (by decide +kernel)), zce_155⟩, zve_155⟩
set_option maxRecDepth 100000 in
theorem zce_277 : zCe 277 1 := ⟨(zmA 1 14 (by decide +kernel) (by decide +kernel)), (zmA 10 52 rfl (by decide +kernel)), ⟨by decide +kernel, by decide +kernel, by decide +kernel⟩, by decide +kernel⟩
set_option maxRecDepth 100000 in
theorem zve_277 : zVe 277 12 := ⟨(zmA 10 50 (by decide +kernel) (by decide +kernel)), (zmA 10 51 (by decide +kernel) (by decide +kernel)), TX12, 84, rfl⟩
theorem zl_227 : zCw 13 227 277 1 12 := ⟨⟨(zmA 10 49 (by decide +kernel) (by decide +kernel)), zce_277⟩, zve_277⟩
set_option maxRecDepth 100000 in
theorem zce_156 : zCe 156 1 := ⟨(zmA 1 1 (by decide +kernel) (by decide +kernel)), (zmA 6 174 rfl (by decide +kernel)), ⟨by decide +kernel, by decide +kernel, by decide +kernel⟩, by decide +kernel⟩
set_option maxRecDepth 100000 in
theorem zve_156 : zVe 156 11 := ⟨(zmA 6 172 (by decide +kernel) (by decide +kernel)), (zmA 6 173 (by decide +kernel) (by decide +kernel)), TX11, 14, rfl⟩
theorem zl_228 : zCw 13 228 156 1 11 := ⟨⟨(zmA 6 171 (by decide +kernel) (by decide +kernel)), zce_156⟩, zve_156⟩
set_option maxRecDepth 100000 in
theorem zce_278 : zCe 278 1 := ⟨(zmA 1 14 (by decide +kernel) (by decide +kernel)), (zmA 10 56 rfl (by decide +kernel)), ⟨by decide +kernel, by decide +kernel, by decide +kernel⟩, by decide +kernel⟩
set_option maxRecDepth 100000 in
theorem zve_278 : zVe 278 12 := ⟨(zmA 10 54 (by decide +kernel) (by decide +kernel)), (zmA 10 55 (by decide +kernel) (by decide +kernel)), TX12, 84, rfl⟩
theorem zl_231 : zCw 13 231 278 1 12 := ⟨⟨(zmA 10 53 (by decide +kernel) (by decide +kernel)), zce_278⟩, zve_278⟩
set_option maxRecDepth 100000 in
theorem zce_157 : zCe 157 1 := ⟨(zmA 1 1 (by decide +kernel) (by decide +kernel)), (zmA 6 178 rfl (by decide +kernel)), ⟨by decide +kernel, by decide +kernel, by decide +kernel⟩, by decide +kernel⟩
set_option maxRecDepth 100000 in
theorem zve_157 : zVe 157 11 := ⟨(zmA 6 176 (by decide +kernel) (by decide +kernel)), (zmA 6 177 (by decide +kernel) (by decide +kernel)), TX11, 14, rfl⟩
theorem zl_232 : zCw 13 232 157 1 11 := ⟨⟨(zmA 6 175 (by decide +kernel) (by decide +kernel)), zce_157⟩, zve_157⟩
set_option maxRecDepth 100000 in
theorem zce_279 : zCe 279 1 := ⟨(zmA 1 14 (by decide +kernel) (by decide +kernel)), (zmA 10 60 rfl (by decide +kernel)), ⟨by decide +kernel, by decide +kernel, by decide +kernel⟩, by decide +kernel⟩
set_option maxRecDepth 100000 in
theorem zve_279 : zVe 279 12 := ⟨(zmA 10 58 (by decide +kernel) (by decide +kernel)), (zmA 10 59 (by decide +kernel) (by decide +kernel)), TX12, 84, rfl⟩
theorem zl_235 : zCw 13 235 279 1 12 := ⟨⟨(zmA 10 57 (by decide +kernel) (by decide +kernel)), zce_279⟩, zve_279⟩
set_option maxRecDepth 100000 in
theorem zce_158 : zCe 158 1 := ⟨(zmA 1 1 (by decide +kernel) (by decide +kernel)), (zmA 6 186 rfl (by decide +kernel)), ⟨by decide +kernel, by decide +kernel, by decide +kernel⟩, by decide +kernel⟩
set_option maxRecDepth 100000 in
theorem zve_158 : zVe 158 11 := ⟨(zmA 6 184 (by decide +kernel) (by decide +kernel)), (zmA 6 185 (by decide +kernel) (by decide +kernel)), TX11, 14, rfl⟩
theorem zl_236 : zCw 13 236 158 1 11 := ⟨⟨(zmA 6 183 (by decide +kernel) (by decide +kernel)), zce_158⟩, zve_158⟩
set_option maxRecDepth 100000 in
theorem zce_280 : zCe 280 1 := ⟨(zmA 1 14 (by decide +kernel) (by decide +kernel)), (zmA 10 64 rfl (by decide +kernel)), ⟨by decide +kernel, by decide +kernel, by decide +kernel⟩, by decide +kernel⟩
set_option maxRecDepth 100000 in
theorem zve_280 : zVe 280 12 := ⟨(zmA 10 62 (by decide +kernel) (by decide +kernel)), (zmA 10 63 (by decide +kernel) (by decide +kernel)), TX12, 84, rfl⟩
theorem zl_239 : zCw 13 239 280 1 12 := ⟨⟨(zmA 10 61 (by decide +kernel) (by decide +kernel)), zce_280⟩, zve_280⟩
set_option maxRecDepth 100000 in
theorem zce_121 : zCe 121 2 := ⟨(zmA 1 1 (by decide +kernel) (by decide +kernel)), (zmA 6 194 rfl (by decide +kernel)), ⟨by decide +kernel, by decide +kernel, by decide +kernel⟩, by decide +kernel⟩
set_option maxRecDepth 100000 in
theorem zve_121 : zVe 121 11 := ⟨(zmA 6 192 (by decide +kernel) (by decide +kernel)), (zmA 6 193 (by decide +kernel) (by decide +kernel)), TX11, 14, rfl⟩
theorem zl_7 : zCw 13 7 121 2 11 := ⟨⟨(zmA 6 191 (by decide +kernel) (by decide +kernel)), zce_121⟩, zve_121⟩
set_option maxRecDepth 100000 in
theorem zce_159 : zCe 159 1 := ⟨(zmA 1 1 (by decide +kernel) (by decide +kernel)), (zmA 7 32 rfl (by decide +kernel)), ⟨by decide +kernel, by decide +kernel, by decide +kernel⟩, by decide +kernel⟩
set_option maxRecDepth 100000 in
theorem zve_159 : zVe 159 11 := ⟨(zmA 7 30 (by decide +kernel) (by decide +kernel)), (zmA 7 31 (by decide +kernel) (by decide +kernel)), TX11, 14, rfl⟩
theorem zl_15 : zCw 13 15 159 1 11 := ⟨⟨(zmA 7 29 (by decide +kernel) (by decide +kernel)), zce_159⟩, zve_159⟩
set_option maxRecDepth 100000 in
theorem zce_202 : zCe 202 2 := ⟨(zmA 1 14 (by decide +kernel) (by decide +kernel)), (zmA 8 193 rfl (by decide +kernel)), ⟨by decide +kernel, by decide +kernel, by decide +kernel⟩, by decide +kernel⟩
set_option maxRecDepth 100000 in
theorem zve_202 : zVe 202 12 := ⟨(zmA 8 191 (by decide +kernel) (by decide +kernel)), (zmA 8 192 (by decide +kernel) (by decide +kernel)), TX12, 84, rfl⟩
theorem zl_86 : zCw 13 86 202 2 12 := ⟨⟨(zmA 8 190 (by decide +kernel) (by decide +kernel)), zce_202⟩, zve_202⟩
set_option maxRecDepth 100000 in
theorem zce_160 : zCe 160 0 := ⟨(zmA 1 14 (by decide +kernel) (by decide +kernel)), (zmA 8 61 rfl (by decide +kernel)), ⟨by decide +kernel, by decide +kernel, by decide +kernel⟩, by decide +kernel⟩
set_option maxRecDepth 100000 in
theorem zve_160 : zVe 160 12 := ⟨(zmA 8 59 (by decide +kernel) (by decide +kernel)), (zmA 8 60 (by decide +kernel) (by decide +kernel)), TX12, 84, rfl⟩
theorem zl_87 : zCw 13 87 160 0 12 := ⟨⟨(zmA 8 58 (by decide +kernel) (by decide +kernel)), zce_160⟩, zve_160⟩
set_option maxRecDepth 100000 in
theorem zce_281 : zCe 281 1 := ⟨(zmA 1 14 (by decide +kernel) (by decide +kernel)), (zmA 10 68 rfl (by decide +kernel)), ⟨by decide +kernel, by decide +kernel, by decide +kernel⟩, by decide +kernel⟩
set_option maxRecDepth 100000 in
theorem zve_281 : zVe 281 12 := ⟨(zmA 10 66 (by decide +kernel) (by decide +kernel)), (zmA 10 67 (by decide +kernel) (by decide +kernel)), TX12, 84, rfl⟩
theorem zl_243 : zCw 13 243 281 1 12 := ⟨⟨(zmA 10 65 (by decide +kernel) (by decide +kernel)), zce_281⟩, zve_281⟩

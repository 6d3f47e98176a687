/-! what the tables say of the callees (laid by wip/whole/gen_checks.py) -/
set_option maxRecDepth 100000 in
theorem zce_181 : zCe 181 0 := ⟨(zmA 1 14 (by decide +kernel) (by decide +kernel)), (zmA 8 153 rfl (by decide +kernel)), ⟨by decide +kernel, by decide +kernel, by decide +kernel⟩, by decide +kernel⟩
set_option maxRecDepth 100000 in
theorem zve_181 : zVe 181 12 := ⟨(zmA 8 152 (by decide +kernel) (by decide +kernel)), (zmA 0 49 (by decide +kernel) (by decide +kernel)), TX12, 84, rfl⟩
set_option maxRecDepth 100000 in
theorem zce_182 : zCe 182 0 := ⟨(zmA 1 14 (by decide +kernel) (by decide +kernel)), (zmA 8 161 rfl (by decide +kernel)), ⟨by decide +kernel, by decide +kernel, by decide +kernel⟩, by decide +kernel⟩
set_option maxRecDepth 100000 in
theorem zve_182 : zVe 182 12 := ⟨(zmA 8 160 (by decide +kernel) (by decide +kernel)), (zmA 0 51 (by decide +kernel) (by decide +kernel)), TX12, 84, rfl⟩
set_option maxRecDepth 100000 in
theorem zce_183 : zCe 183 1 := ⟨(zmA 1 14 (by decide +kernel) (by decide +kernel)), (zmA 8 149 rfl (by decide +kernel)), ⟨by decide +kernel, by decide +kernel, by decide +kernel⟩, by decide +kernel⟩
set_option maxRecDepth 100000 in
theorem zve_183 : zVe 183 12 := ⟨(zmA 8 148 (by decide +kernel) (by decide +kernel)), (zmA 0 48 (by decide +kernel) (by decide +kernel)), TX12, 84, rfl⟩
set_option maxRecDepth 100000 in
theorem zce_184 : zCe 184 1 := ⟨(zmA 1 14 (by decide +kernel) (by decide +kernel)), (zmA 8 129 rfl (by decide +kernel)), ⟨by decide +kernel, by decide +kernel, by decide +kernel⟩, by decide +kernel⟩
set_option maxRecDepth 100000 in
theorem zve_184 : zVe 184 12 := ⟨(zmA 8 128 (by decide +kernel) (by decide +kernel)), (zmA 0 43 (by decide +kernel) (by decide +kernel)), TX12, 84, rfl⟩
set_option maxRecDepth 100000 in
theorem zce_185 : zCe 185 1 := ⟨(zmA 1 14 (by decide +kernel) (by decide +kernel)), (zmA 8 133 rfl (by decide +kernel)), ⟨by decide +kernel, by decide +kernel, by decide +kernel⟩, by decide +kernel⟩
set_option maxRecDepth 100000 in
theorem zve_185 : zVe 185 12 := ⟨(zmA 8 132 (by decide +kernel) (by decide +kernel)), (zmA 0 44 (by decide +kernel) (by decide +kernel)), TX12, 84, rfl⟩
set_option maxRecDepth 100000 in
theorem zce_186 : zCe 186 1 := ⟨(zmA 1 14 (by decide +kernel) (by decide +kernel)), (zmA 8 137 rfl (by decide +kernel)), ⟨by decide +kernel, by decide +kernel, by decide +kernel⟩, by decide +kernel⟩
set_option maxRecDepth 100000 in
theorem zve_186 : zVe 186 12 := ⟨(zmA 8 136 (by decide +kernel) (by decide +kernel)), (zmA 0 45 (by decide +kernel) (by decide +kernel)), TX12, 84, rfl⟩
set_option maxRecDepth 100000 in
theorem zce_187 : zCe 187 1 := ⟨(zmA 1 14 (by decide +kernel) (by decide +kernel)), (zmA 8 141 rfl (by decide +kernel)), ⟨by decide +kernel, by decide +kernel, by decide +kernel⟩, by decide +kernel⟩
set_option maxRecDepth 100000 in
theorem zve_187 : zVe 187 12 := ⟨(zmA 8 140 (by decide +kernel) (by decide +kernel)), (zmA 0 46 (by decide +kernel) (by decide +kernel)), TX12, 84, rfl⟩
set_option maxRecDepth 100000 in
theorem zce_188 : zCe 188 1 := ⟨(zmA 1 14 (by decide +kernel) (by decide +kernel)), (zmA 8 145 rfl (by decide +kernel)), ⟨by decide +kernel, by decide +kernel, by decide +kernel⟩, by decide +kernel⟩
set_option maxRecDepth 100000 in
theorem zve_188 : zVe 188 12 := ⟨(zmA 8 144 (by decide +kernel) (by decide +kernel)), (zmA 0 47 (by decide +kernel) (by decide +kernel)), TX12, 84, rfl⟩
set_option maxRecDepth 100000 in
theorem zce_189 : zCe 189 1 := ⟨(zmA 1 14 (by decide +kernel) (by decide +kernel)), (zmA 8 165 rfl (by decide +kernel)), ⟨by decide +kernel, by decide +kernel, by decide +kernel⟩, by decide +kernel⟩
set_option maxRecDepth 100000 in
theorem zve_189 : zVe 189 12 := ⟨(zmA 8 164 (by decide +kernel) (by decide +kernel)), (zmA 0 52 (by decide +kernel) (by decide +kernel)), TX12, 84, rfl⟩
set_option maxRecDepth 100000 in
theorem zce_191 : zCe 191 3 := ⟨(zmA 1 14 (by decide +kernel) (by decide +kernel)), (zmA 8 225 rfl (by decide +kernel)), ⟨by decide +kernel, by decide +kernel, by decide +kernel⟩, by decide +kernel⟩
set_option maxRecDepth 100000 in
theorem zve_191 : zVe 191 12 := ⟨(zmA 8 224 (by decide +kernel) (by decide +kernel)), (zmA 0 61 (by decide +kernel) (by decide +kernel)), TX12, 84, rfl⟩
set_option maxRecDepth 100000 in
theorem zce_193 : zCe 193 1 := ⟨(zmA 1 14 (by decide +kernel) (by decide +kernel)), (zmA 8 169 rfl (by decide +kernel)), ⟨by decide +kernel, by decide +kernel, by decide +kernel⟩, by decide +kernel⟩
set_option maxRecDepth 100000 in
theorem zve_193 : zVe 193 12 := ⟨(zmA 8 168 (by decide +kernel) (by decide +kernel)), (zmA 0 53 (by decide +kernel) (by decide +kernel)), TX12, 84, rfl⟩
set_option maxRecDepth 100000 in
theorem zce_194 : zCe 194 1 := ⟨(zmA 1 14 (by decide +kernel) (by decide +kernel)), (zmA 9 5 rfl (by decide +kernel)), ⟨by decide +kernel, by decide +kernel, by decide +kernel⟩, by decide +kernel⟩
set_option maxRecDepth 100000 in
theorem zve_194 : zVe 194 12 := ⟨(zmA 9 4 (by decide +kernel) (by decide +kernel)), (zmA 0 63 (by decide +kernel) (by decide +kernel)), TX12, 84, rfl⟩
set_option maxRecDepth 100000 in
theorem zce_198 : zCe 198 1 := ⟨(zmA 1 14 (by decide +kernel) (by decide +kernel)), (zmA 8 201 rfl (by decide +kernel)), ⟨by decide +kernel, by decide +kernel, by decide +kernel⟩, by decide +kernel⟩
set_option maxRecDepth 100000 in
theorem zve_198 : zVe 198 12 := ⟨(zmA 8 200 (by decide +kernel) (by decide +kernel)), (zmA 0 56 (by decide +kernel) (by decide +kernel)), TX12, 84, rfl⟩
set_option maxRecDepth 100000 in
theorem zce_199 : zCe 199 1 := ⟨(zmA 1 14 (by decide +kernel) (by decide +kernel)), (zmA 8 205 rfl (by decide +kernel)), ⟨by decide +kernel, by decide +kernel, by decide +kernel⟩, by decide +kernel⟩
set_option maxRecDepth 100000 in
theorem zve_199 : zVe 199 12 := ⟨(zmA 8 204 (by decide +kernel) (by decide +kernel)), (zmA 0 57 (by decide +kernel) (by decide +kernel)), TX12, 84, rfl⟩
set_option maxRecDepth 100000 in
theorem zce_200 : zCe 200 1 := ⟨(zmA 1 14 (by decide +kernel) (by decide +kernel)), (zmA 8 209 rfl (by decide +kernel)), ⟨by decide +kernel, by decide +kernel, by decide +kernel⟩, by decide +kernel⟩
set_option maxRecDepth 100000 in
theorem zve_200 : zVe 200 12 := ⟨(zmA 8 208 (by decide +kernel) (by decide +kernel)), (zmA 0 58 (by decide +kernel) (by decide +kernel)), TX12, 84, rfl⟩
set_option maxRecDepth 100000 in
theorem zce_201 : zCe 201 1 := ⟨(zmA 1 14 (by decide +kernel) (by decide +kernel)), (zmA 8 213 rfl (by decide +kernel)), ⟨by decide +kernel, by decide +kernel, by decide +kernel⟩, by decide +kernel⟩
set_option maxRecDepth 100000 in
theorem zve_201 : zVe 201 12 := ⟨(zmA 8 212 (by decide +kernel) (by decide +kernel)), (zmA 0 59 (by decide +kernel) (by decide +kernel)), TX12, 84, rfl⟩
set_option maxRecDepth 100000 in
theorem zce_203 : zCe 203 2 := ⟨(zmA 1 14 (by decide +kernel) (by decide +kernel)), (zmA 8 221 rfl (by decide +kernel)), ⟨by decide +kernel, by decide +kernel, by decide +kernel⟩, by decide +kernel⟩
set_option maxRecDepth 100000 in
theorem zve_203 : zVe 203 12 := ⟨(zmA 8 220 (by decide +kernel) (by decide +kernel)), (zmA 0 60 (by decide +kernel) (by decide +kernel)), TX12, 84, rfl⟩
set_option maxRecDepth 100000 in
theorem zce_205 : zCe 205 0 := ⟨(zmA 1 14 (by decide +kernel) (by decide +kernel)), (zmA 8 233 rfl (by decide +kernel)), ⟨by decide +kernel, by decide +kernel, by decide +kernel⟩, by decide +kernel⟩
set_option maxRecDepth 100000 in
theorem zve_205 : zVe 205 12 := ⟨(zmA 8 232 (by decide +kernel) (by decide +kernel)), (zmA 0 62 (by decide +kernel) (by decide +kernel)), TX12, 84, rfl⟩
set_option maxRecDepth 100000 in
theorem zce_208 : zCe 208 2 := ⟨(zmA 1 14 (by decide +kernel) (by decide +kernel)), (zmA 9 13 rfl (by decide +kernel)), ⟨by decide +kernel, by decide +kernel, by decide +kernel⟩, by decide +kernel⟩
set_option maxRecDepth 100000 in
theorem zve_208 : zVe 208 12 := ⟨(zmA 9 12 (by decide +kernel) (by decide +kernel)), (zmA 0 65 (by decide +kernel) (by decide +kernel)), TX12, 84, rfl⟩
set_option maxRecDepth 100000 in
theorem zce_209 : zCe 209 1 := ⟨(zmA 1 14 (by decide +kernel) (by decide +kernel)), (zmA 9 21 rfl (by decide +kernel)), ⟨by decide +kernel, by decide +kernel, by decide +kernel⟩, by decide +kernel⟩
set_option maxRecDepth 100000 in
theorem zve_209 : zVe 209 12 := ⟨(zmA 9 20 (by decide +kernel) (by decide +kernel)), (zmA 0 67 (by decide +kernel) (by decide +kernel)), TX12, 84, rfl⟩
set_option maxRecDepth 100000 in
theorem zce_210 : zCe 210 2 := ⟨(zmA 1 14 (by decide +kernel) (by decide +kernel)), (zmA 9 25 rfl (by decide +kernel)), ⟨by decide +kernel, by decide +kernel, by decide +kernel⟩, by decide +kernel⟩
set_option maxRecDepth 100000 in
theorem zve_210 : zVe 210 12 := ⟨(zmA 9 24 (by decide +kernel) (by decide +kernel)), (zmA 0 68 (by decide +kernel) (by decide +kernel)), TX12, 84, rfl⟩
set_option maxRecDepth 100000 in
theorem zce_211 : zCe 211 2 := ⟨(zmA 1 14 (by decide +kernel) (by decide +kernel)), (zmA 9 9 rfl (by decide +kernel)), ⟨by decide +kernel, by decide +kernel, by decide +kernel⟩, by decide +kernel⟩
set_option maxRecDepth 100000 in
theorem zve_211 : zVe 211 12 := ⟨(zmA 9 8 (by decide +kernel) (by decide +kernel)), (zmA 0 64 (by decide +kernel) (by decide +kernel)), TX12, 84, rfl⟩
set_option maxRecDepth 100000 in
theorem zce_212 : zCe 212 3 := ⟨(zmA 1 14 (by decide +kernel) (by decide +kernel)), (zmA 9 17 rfl (by decide +kernel)), ⟨by decide +kernel, by decide +kernel, by decide +kernel⟩, by decide +kernel⟩
set_option maxRecDepth 100000 in
theorem zve_212 : zVe 212 12 := ⟨(zmA 9 16 (by decide +kernel) (by decide +kernel)), (zmA 0 66 (by decide +kernel) (by decide +kernel)), TX12, 84, rfl⟩
set_option maxRecDepth 100000 in
theorem zce_213 : zCe 213 1 := ⟨(zmA 1 14 (by decide +kernel) (by decide +kernel)), (zmA 9 41 rfl (by decide +kernel)), ⟨by decide +kernel, by decide +kernel, by decide +kernel⟩, by decide +kernel⟩
set_option maxRecDepth 100000 in
theorem zve_213 : zVe 213 12 := ⟨(zmA 9 40 (by decide +kernel) (by decide +kernel)), (zmA 0 70 (by decide +kernel) (by decide +kernel)), TX12, 84, rfl⟩
set_option maxRecDepth 100000 in
theorem zce_216 : zCe 216 1 := ⟨(zmA 1 14 (by decide +kernel) (by decide +kernel)), (zmA 9 37 rfl (by decide +kernel)), ⟨by decide +kernel, by decide +kernel, by decide +kernel⟩, by decide +kernel⟩
set_option maxRecDepth 100000 in
theorem zve_216 : zVe 216 12 := ⟨(zmA 9 36 (by decide +kernel) (by decide +kernel)), (zmA 0 69 (by decide +kernel) (by decide +kernel)), TX12, 84, rfl⟩
set_option maxRecDepth 100000 in
theorem zce_218 : zCe 218 2 := ⟨(zmA 1 14 (by decide +kernel) (by decide +kernel)), (zmA 9 62 rfl (by decide +kernel)), ⟨by decide +kernel, by decide +kernel, by decide +kernel⟩, by decide +kernel⟩
set_option maxRecDepth 100000 in
theorem zve_218 : zVe 218 12 := ⟨(zmA 9 61 (by decide +kernel) (by decide +kernel)), (zmA 0 74 (by decide +kernel) (by decide +kernel)), TX12, 84, rfl⟩
set_option maxRecDepth 100000 in
theorem zce_219 : zCe 219 0 := ⟨(zmA 1 14 (by decide +kernel) (by decide +kernel)), (zmA 9 66 rfl (by decide +kernel)), ⟨by decide +kernel, by decide +kernel, by decide +kernel⟩, by decide +kernel⟩
set_option maxRecDepth 100000 in
theorem zve_219 : zVe 219 12 := ⟨(zmA 9 65 (by decide +kernel) (by decide +kernel)), (zmA 0 75 (by decide +kernel) (by decide +kernel)), TX12, 84, rfl⟩
set_option maxRecDepth 100000 in
theorem zce_220 : zCe 220 3 := ⟨(zmA 1 14 (by decide +kernel) (by decide +kernel)), (zmA 9 58 rfl (by decide +kernel)), ⟨by decide +kernel, by decide +kernel, by decide +kernel⟩, by decide +kernel⟩
set_option maxRecDepth 100000 in
theorem zve_220 : zVe 220 12 := ⟨(zmA 9 57 (by decide +kernel) (by decide +kernel)), (zmA 0 73 (by decide +kernel) (by decide +kernel)), TX12, 84, rfl⟩
set_option maxRecDepth 100000 in
theorem zce_221 : zCe 221 0 := ⟨(zmA 1 14 (by decide +kernel) (by decide +kernel)), (zmA 9 53 rfl (by decide +kernel)), ⟨by decide +kernel, by decide +kernel, by decide +kernel⟩, by decide +kernel⟩
set_option maxRecDepth 100000 in
theorem zve_221 : zVe 221 12 := ⟨(zmA 9 52 (by decide +kernel) (by decide +kernel)), (zmA 0 72 (by decide +kernel) (by decide +kernel)), TX12, 84, rfl⟩
set_option maxRecDepth 100000 in
theorem zce_223 : zCe 223 3 := ⟨(zmA 1 14 (by decide +kernel) (by decide +kernel)), (zmA 9 74 rfl (by decide +kernel)), ⟨by decide +kernel, by decide +kernel, by decide +kernel⟩, by decide +kernel⟩
set_option maxRecDepth 100000 in
theorem zve_223 : zVe 223 12 := ⟨(zmA 9 73 (by decide +kernel) (by decide +kernel)), (zmA 0 76 (by decide +kernel) (by decide +kernel)), TX12, 84, rfl⟩
set_option maxRecDepth 100000 in
theorem zce_225 : zCe 225 3 := ⟨(zmA 1 14 (by decide +kernel) (by decide +kernel)), (zmA 9 82 rfl (by decide +kernel)), ⟨by decide +kernel, by decide +kernel, by decide +kernel⟩, by decide +kernel⟩
set_option maxRecDepth 100000 in
theorem zve_225 : zVe 225 12 := ⟨(zmA 9 81 (by decide +kernel) (by decide +kernel)), (zmA 0 77 (by decide +kernel) (by decide +kernel)), TX12, 84, rfl⟩
set_option maxRecDepth 100000 in
theorem zce_229 : zCe 229 1 := ⟨(zmA 1 14 (by decide +kernel) (by decide +kernel)), (zmA 9 94 rfl (by decide +kernel)), ⟨by decide +kernel, by decide +kernel, by decide +kernel⟩, by decide +kernel⟩
set_option maxRecDepth 100000 in
theorem zve_229 : zVe 229 12 := ⟨(zmA 9 93 (by decide +kernel) (by decide +kernel)), (zmA 0 78 (by decide +kernel) (by decide +kernel)), TX12, 84, rfl⟩
set_option maxRecDepth 100000 in
theorem zce_231 : zCe 231 2 := ⟨(zmA 1 14 (by decide +kernel) (by decide +kernel)), (zmA 9 115 rfl (by decide +kernel)), ⟨by decide +kernel, by decide +kernel, by decide +kernel⟩, by decide +kernel⟩
set_option maxRecDepth 100000 in
theorem zve_231 : zVe 231 12 := ⟨(zmA 9 114 (by decide +kernel) (by decide +kernel)), (zmA 0 81 (by decide +kernel) (by decide +kernel)), TX12, 84, rfl⟩
set_option maxRecDepth 100000 in
theorem zce_232 : zCe 232 1 := ⟨(zmA 1 14 (by decide +kernel) (by decide +kernel)), (zmA 9 111 rfl (by decide +kernel)), ⟨by decide +kernel, by decide +kernel, by decide +kernel⟩, by decide +kernel⟩
set_option maxRecDepth 100000 in
theorem zve_232 : zVe 232 12 := ⟨(zmA 9 110 (by decide +kernel) (by decide +kernel)), (zmA 0 80 (by decide +kernel) (by decide +kernel)), TX12, 84, rfl⟩
set_option maxRecDepth 100000 in
theorem zce_233 : zCe 233 3 := ⟨(zmA 1 14 (by decide +kernel) (by decide +kernel)), (zmA 9 119 rfl (by decide +kernel)), ⟨by decide +kernel, by decide +kernel, by decide +kernel⟩, by decide +kernel⟩
set_option maxRecDepth 100000 in
theorem zve_233 : zVe 233 12 := ⟨(zmA 9 118 (by decide +kernel) (by decide +kernel)), (zmA 0 82 (by decide +kernel) (by decide +kernel)), TX12, 84, rfl⟩
set_option maxRecDepth 100000 in
theorem zce_234 : zCe 234 2 := ⟨(zmA 1 14 (by decide +kernel) (by decide +kernel)), (zmA 9 107 rfl (by decide +kernel)), ⟨by decide +kernel, by decide +kernel, by decide +kernel⟩, by decide +kernel⟩
set_option maxRecDepth 100000 in
theorem zve_234 : zVe 234 12 := ⟨(zmA 9 106 (by decide +kernel) (by decide +kernel)), (zmA 0 79 (by decide +kernel) (by decide +kernel)), TX12, 84, rfl⟩
set_option maxRecDepth 100000 in
theorem zce_235 : zCe 235 2 := ⟨(zmA 1 14 (by decide +kernel) (by decide +kernel)), (zmA 9 123 rfl (by decide +kernel)), ⟨by decide +kernel, by decide +kernel, by decide +kernel⟩, by decide +kernel⟩
set_option maxRecDepth 100000 in
theorem zve_235 : zVe 235 12 := ⟨(zmA 9 122 (by decide +kernel) (by decide +kernel)), (zmA 0 83 (by decide +kernel) (by decide +kernel)), TX12, 84, rfl⟩
set_option maxRecDepth 100000 in
theorem zce_237 : zCe 237 2 := ⟨(zmA 1 14 (by decide +kernel) (by decide +kernel)), (zmA 9 135 rfl (by decide +kernel)), ⟨by decide +kernel, by decide +kernel, by decide +kernel⟩, by decide +kernel⟩
set_option maxRecDepth 100000 in
theorem zve_237 : zVe 237 12 := ⟨(zmA 9 134 (by decide +kernel) (by decide +kernel)), (zmA 0 85 (by decide +kernel) (by decide +kernel)), TX12, 84, rfl⟩
set_option maxRecDepth 100000 in
theorem zce_238 : zCe 238 2 := ⟨(zmA 1 14 (by decide +kernel) (by decide +kernel)), (zmA 9 131 rfl (by decide +kernel)), ⟨by decide +kernel, by decide +kernel, by decide +kernel⟩, by decide +kernel⟩
set_option maxRecDepth 100000 in
theorem zve_238 : zVe 238 12 := ⟨(zmA 9 130 (by decide +kernel) (by decide +kernel)), (zmA 0 84 (by decide +kernel) (by decide +kernel)), TX12, 84, rfl⟩
set_option maxRecDepth 100000 in
theorem zce_242 : zCe 242 1 := ⟨(zmA 1 14 (by decide +kernel) (by decide +kernel)), (zmA 9 151 rfl (by decide +kernel)), ⟨by decide +kernel, by decide +kernel, by decide +kernel⟩, by decide +kernel⟩
set_option maxRecDepth 100000 in
theorem zve_242 : zVe 242 12 := ⟨(zmA 9 150 (by decide +kernel) (by decide +kernel)), (zmA 0 86 (by decide +kernel) (by decide +kernel)), TX12, 84, rfl⟩
set_option maxRecDepth 100000 in
theorem zce_243 : zCe 243 3 := ⟨(zmA 1 14 (by decide +kernel) (by decide +kernel)), (zmA 9 163 rfl (by decide +kernel)), ⟨by decide +kernel, by decide +kernel, by decide +kernel⟩, by decide +kernel⟩
set_option maxRecDepth 100000 in
theorem zve_243 : zVe 243 12 := ⟨(zmA 9 162 (by decide +kernel) (by decide +kernel)), (zmA 0 89 (by decide +kernel) (by decide +kernel)), TX12, 84, rfl⟩
set_option maxRecDepth 100000 in
theorem zce_244 : zCe 244 1 := ⟨(zmA 1 14 (by decide +kernel) (by decide +kernel)), (zmA 9 159 rfl (by decide +kernel)), ⟨by decide +kernel, by decide +kernel, by decide +kernel⟩, by decide +kernel⟩
set_option maxRecDepth 100000 in
theorem zve_244 : zVe 244 12 := ⟨(zmA 9 158 (by decide +kernel) (by decide +kernel)), (zmA 0 88 (by decide +kernel) (by decide +kernel)), TX12, 84, rfl⟩
set_option maxRecDepth 100000 in
theorem zce_247 : zCe 247 2 := ⟨(zmA 1 14 (by decide +kernel) (by decide +kernel)), (zmA 9 155 rfl (by decide +kernel)), ⟨by decide +kernel, by decide +kernel, by decide +kernel⟩, by decide +kernel⟩
set_option maxRecDepth 100000 in
theorem zve_247 : zVe 247 12 := ⟨(zmA 9 154 (by decide +kernel) (by decide +kernel)), (zmA 0 87 (by decide +kernel) (by decide +kernel)), TX12, 84, rfl⟩
set_option maxRecDepth 100000 in
theorem zce_250 : zCe 250 1 := ⟨(zmA 1 14 (by decide +kernel) (by decide +kernel)), (zmA 9 187 rfl (by decide +kernel)), ⟨by decide +kernel, by decide +kernel, by decide +kernel⟩, by decide +kernel⟩
set_option maxRecDepth 100000 in
theorem zve_250 : zVe 250 12 := ⟨(zmA 9 186 (by decide +kernel) (by decide +kernel)), (zmA 0 91 (by decide +kernel) (by decide +kernel)), TX12, 84, rfl⟩
set_option maxRecDepth 100000 in
theorem zce_252 : zCe 252 2 := ⟨(zmA 1 14 (by decide +kernel) (by decide +kernel)), (zmA 9 195 rfl (by decide +kernel)), ⟨by decide +kernel, by decide +kernel, by decide +kernel⟩, by decide +kernel⟩
set_option maxRecDepth 100000 in
theorem zve_252 : zVe 252 12 := ⟨(zmA 9 194 (by decide +kernel) (by decide +kernel)), (zmA 0 92 (by decide +kernel) (by decide +kernel)), TX12, 84, rfl⟩
set_option maxRecDepth 100000 in
theorem zce_254 : zCe 254 3 := ⟨(zmA 1 14 (by decide +kernel) (by decide +kernel)), (zmA 9 207 rfl (by decide +kernel)), ⟨by decide +kernel, by decide +kernel, by decide +kernel⟩, by decide +kernel⟩
set_option maxRecDepth 100000 in
theorem zve_254 : zVe 254 12 := ⟨(zmA 9 206 (by decide +kernel) (by decide +kernel)), (zmA 0 94 (by decide +kernel) (by decide +kernel)), TX12, 84, rfl⟩
set_option maxRecDepth 100000 in
theorem zce_255 : zCe 255 2 := ⟨(zmA 1 14 (by decide +kernel) (by decide +kernel)), (zmA 9 203 rfl (by decide +kernel)), ⟨by decide +kernel, by decide +kernel, by decide +kernel⟩, by decide +kernel⟩
set_option maxRecDepth 100000 in
theorem zve_255 : zVe 255 12 := ⟨(zmA 9 202 (by decide +kernel) (by decide +kernel)), (zmA 0 93 (by decide +kernel) (by decide +kernel)), TX12, 84, rfl⟩
set_option maxRecDepth 100000 in
theorem zce_256 : zCe 256 2 := ⟨(zmA 1 14 (by decide +kernel) (by decide +kernel)), (zmA 9 211 rfl (by decide +kernel)), ⟨by decide +kernel, by decide +kernel, by decide +kernel⟩, by decide +kernel⟩
set_option maxRecDepth 100000 in
theorem zve_256 : zVe 256 12 := ⟨(zmA 9 210 (by decide +kernel) (by decide +kernel)), (zmA 0 95 (by decide +kernel) (by decide +kernel)), TX12, 84, rfl⟩
set_option maxRecDepth 100000 in
theorem zce_261 : zCe 261 2 := ⟨(zmA 1 14 (by decide +kernel) (by decide +kernel)), (zmA 10 3 rfl (by decide +kernel)), ⟨by decide +kernel, by decide +kernel, by decide +kernel⟩, by decide +kernel⟩
set_option maxRecDepth 100000 in
theorem zve_261 : zVe 261 12 := ⟨(zmA 10 2 (by decide +kernel) (by decide +kernel)), (zmA 0 99 (by decide +kernel) (by decide +kernel)), TX12, 84, rfl⟩
set_option maxRecDepth 100000 in
theorem zce_263 : zCe 263 4 := ⟨(zmA 1 14 (by decide +kernel) (by decide +kernel)), (zmA 10 15 rfl (by decide +kernel)), ⟨by decide +kernel, by decide +kernel, by decide +kernel⟩, by decide +kernel⟩
set_option maxRecDepth 100000 in
theorem zve_263 : zVe 263 12 := ⟨(zmA 10 14 (by decide +kernel) (by decide +kernel)), (zmA 0 101 (by decide +kernel) (by decide +kernel)), TX12, 84, rfl⟩
set_option maxRecDepth 100000 in
theorem zce_264 : zCe 264 5 := ⟨(zmA 1 14 (by decide +kernel) (by decide +kernel)), (zmA 10 11 rfl (by decide +kernel)), ⟨by decide +kernel, by decide +kernel, by decide +kernel⟩, by decide +kernel⟩
set_option maxRecDepth 100000 in
theorem zve_264 : zVe 264 12 := ⟨(zmA 10 10 (by decide +kernel) (by decide +kernel)), (zmA 0 100 (by decide +kernel) (by decide +kernel)), TX12, 84, rfl⟩
set_option maxRecDepth 100000 in
theorem zce_266 : zCe 266 2 := ⟨(zmA 1 14 (by decide +kernel) (by decide +kernel)), (zmA 10 23 rfl (by decide +kernel)), ⟨by decide +kernel, by decide +kernel, by decide +kernel⟩, by decide +kernel⟩
set_option maxRecDepth 100000 in
theorem zve_266 : zVe 266 12 := ⟨(zmA 10 22 (by decide +kernel) (by decide +kernel)), (zmA 0 102 (by decide +kernel) (by decide +kernel)), TX12, 84, rfl⟩
set_option maxRecDepth 100000 in
theorem zce_267 : zCe 267 1 := ⟨(zmA 1 14 (by decide +kernel) (by decide +kernel)), (zmA 10 28 rfl (by decide +kernel)), ⟨by decide +kernel, by decide +kernel, by decide +kernel⟩, by decide +kernel⟩
set_option maxRecDepth 100000 in
theorem zve_267 : zVe 267 12 := ⟨(zmA 10 27 (by decide +kernel) (by decide +kernel)), (zmA 0 103 (by decide +kernel) (by decide +kernel)), TX12, 84, rfl⟩
set_option maxRecDepth 100000 in
theorem zce_271 : zCe 271 3 := ⟨(zmA 1 14 (by decide +kernel) (by decide +kernel)), (zmA 10 40 rfl (by decide +kernel)), ⟨by decide +kernel, by decide +kernel, by decide +kernel⟩, by decide +kernel⟩
set_option maxRecDepth 100000 in
theorem zve_271 : zVe 271 12 := ⟨(zmA 10 39 (by decide +kernel) (by decide +kernel)), (zmA 0 104 (by decide +kernel) (by decide +kernel)), TX12, 84, rfl⟩
set_option maxRecDepth 100000 in
theorem zce_272 : zCe 272 1 := ⟨(zmA 1 14 (by decide +kernel) (by decide +kernel)), (zmA 9 235 rfl (by decide +kernel)), ⟨by decide +kernel, by decide +kernel, by decide +kernel⟩, by decide +kernel⟩
set_option maxRecDepth 100000 in
theorem zve_272 : zVe 272 12 := ⟨(zmA 9 234 (by decide +kernel) (by decide +kernel)), (zmA 0 97 (by decide +kernel) (by decide +kernel)), TX12, 84, rfl⟩
set_option maxRecDepth 100000 in
theorem zce_273 : zCe 273 0 := ⟨(zmA 1 14 (by decide +kernel) (by decide +kernel)), (zmA 9 231 rfl (by decide +kernel)), ⟨by decide +kernel, by decide +kernel, by decide +kernel⟩, by decide +kernel⟩
set_option maxRecDepth 100000 in
theorem zve_273 : zVe 273 12 := ⟨(zmA 9 230 (by decide +kernel) (by decide +kernel)), (zmA 0 96 (by decide +kernel) (by decide +kernel)), TX12, 84, rfl⟩
set_option maxRecDepth 100000 in
theorem zce_274 : zCe 274 3 := ⟨(zmA 1 14 (by decide +kernel) (by decide +kernel)), (zmA 9 239 rfl (by decide +kernel)), ⟨by decide +kernel, by decide +kernel, by decide +kernel⟩, by decide +kernel⟩
set_option maxRecDepth 100000 in
theorem zve_274 : zVe 274 12 := ⟨(zmA 9 238 (by decide +kernel) (by decide +kernel)), (zmA 0 98 (by decide +kernel) (by decide +kernel)), TX12, 84, rfl⟩
set_option maxRecDepth 100000 in
theorem zce_282 : zCe 282 1 := ⟨(zmA 1 25 (by decide +kernel) (by decide +kernel)), (zmA 5 18 rfl (by decide +kernel)), ⟨by decide +kernel, by decide +kernel, by decide +kernel⟩, by decide +kernel⟩
theorem zve_282 : Cond.static (zMt 282).1 ∈ zTb := (zmA 5 17 (by decide +kernel) (by decide +kernel))
set_option maxRecDepth 100000 in
theorem zce_283 : zCe 283 1 := ⟨(zmA 1 25 (by decide +kernel) (by decide +kernel)), (zmA 4 192 rfl (by decide +kernel)), ⟨by decide +kernel, by decide +kernel, by decide +kernel⟩, by decide +kernel⟩
theorem zve_283 : Cond.static (zMt 283).1 ∈ zTb := (zmA 4 191 (by decide +kernel) (by decide +kernel))
set_option maxRecDepth 100000 in
theorem zce_284 : zCe 284 2 := ⟨(zmA 1 7 (by decide +kernel) (by decide +kernel)), (zmA 5 75 rfl (by decide +kernel)), ⟨by decide +kernel, by decide +kernel, by decide +kernel⟩, by decide +kernel⟩
theorem zve_284 : Cond.static (zMt 284).1 ∈ zTb := (zmA 5 74 (by decide +kernel) (by decide +kernel))

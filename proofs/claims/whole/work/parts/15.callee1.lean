/-! what the tables say of the callees (laid by wip/whole/gen_checks.py) -/
set_option maxRecDepth 100000 in
theorem zce_60 : zCe 60 1 := ⟨(zmA 1 6 (by decide +kernel) (by decide +kernel)), (zmA 4 114 rfl (by decide +kernel)), ⟨by decide +kernel, by decide +kernel, by decide +kernel⟩, by decide +kernel⟩
set_option maxRecDepth 100000 in
theorem zve_60 : zVe 60 7 := ⟨(zmA 4 112 (by decide +kernel) (by decide +kernel)), (zmA 4 113 (by decide +kernel) (by decide +kernel)), TX7, 7, rfl⟩
set_option maxRecDepth 100000 in
theorem zce_61 : zCe 61 1 := ⟨(zmA 1 6 (by decide +kernel) (by decide +kernel)), (zmA 4 138 rfl (by decide +kernel)), ⟨by decide +kernel, by decide +kernel, by decide +kernel⟩, by decide +kernel⟩
set_option maxRecDepth 100000 in
theorem zve_61 : zVe 61 7 := ⟨(zmA 4 136 (by decide +kernel) (by decide +kernel)), (zmA 4 137 (by decide +kernel) (by decide +kernel)), TX7, 7, rfl⟩
set_option maxRecDepth 100000 in
theorem zce_62 : zCe 62 0 := ⟨(zmA 1 6 (by decide +kernel) (by decide +kernel)), (zmA 3 96 rfl (by decide +kernel)), ⟨by decide +kernel, by decide +kernel, by decide +kernel⟩, by decide +kernel⟩
set_option maxRecDepth 100000 in
theorem zve_62 : zVe 62 7 := ⟨(zmA 3 94 (by decide +kernel) (by decide +kernel)), (zmA 3 95 (by decide +kernel) (by decide +kernel)), TX7, 7, rfl⟩
set_option maxRecDepth 100000 in
theorem zce_63 : zCe 63 0 := ⟨(zmA 1 6 (by decide +kernel) (by decide +kernel)), (zmA 6 182 rfl (by decide +kernel)), ⟨by decide +kernel, by decide +kernel, by decide +kernel⟩, by decide +kernel⟩
set_option maxRecDepth 100000 in
theorem zve_63 : zVe 63 7 := ⟨(zmA 6 180 (by decide +kernel) (by decide +kernel)), (zmA 6 181 (by decide +kernel) (by decide +kernel)), TX7, 7, rfl⟩
set_option maxRecDepth 100000 in
theorem zce_64 : zCe 64 2 := ⟨(zmA 1 6 (by decide +kernel) (by decide +kernel)), (zmA 4 157 rfl (by decide +kernel)), ⟨by decide +kernel, by decide +kernel, by decide +kernel⟩, by decide +kernel⟩
set_option maxRecDepth 100000 in
theorem zve_64 : zVe 64 7 := ⟨(zmA 4 155 (by decide +kernel) (by decide +kernel)), (zmA 4 156 (by decide +kernel) (by decide +kernel)), TX7, 7, rfl⟩
set_option maxRecDepth 100000 in
theorem zce_65 : zCe 65 1 := ⟨(zmA 1 12 (by decide +kernel) (by decide +kernel)), (zmA 5 205 rfl (by decide +kernel)), ⟨by decide +kernel, by decide +kernel, by decide +kernel⟩, by decide +kernel⟩
set_option maxRecDepth 100000 in
theorem zve_65 : zVe 65 8 := ⟨(zmA 5 203 (by decide +kernel) (by decide +kernel)), (zmA 5 204 (by decide +kernel) (by decide +kernel)), TX8, 18, rfl⟩
set_option maxRecDepth 100000 in
theorem zce_66 : zCe 66 3 := ⟨(zmA 1 12 (by decide +kernel) (by decide +kernel)), (zmA 5 197 rfl (by decide +kernel)), ⟨by decide +kernel, by decide +kernel, by decide +kernel⟩, by decide +kernel⟩
set_option maxRecDepth 100000 in
theorem zve_66 : zVe 66 8 := ⟨(zmA 5 195 (by decide +kernel) (by decide +kernel)), (zmA 5 196 (by decide +kernel) (by decide +kernel)), TX8, 18, rfl⟩
set_option maxRecDepth 100000 in
theorem zce_67 : zCe 67 1 := ⟨(zmA 1 12 (by decide +kernel) (by decide +kernel)), (zmA 5 209 rfl (by decide +kernel)), ⟨by decide +kernel, by decide +kernel, by decide +kernel⟩, by decide +kernel⟩
set_option maxRecDepth 100000 in
theorem zve_67 : zVe 67 8 := ⟨(zmA 5 207 (by decide +kernel) (by decide +kernel)), (zmA 5 208 (by decide +kernel) (by decide +kernel)), TX8, 18, rfl⟩
set_option maxRecDepth 100000 in
theorem zce_68 : zCe 68 2 := ⟨(zmA 1 12 (by decide +kernel) (by decide +kernel)), (zmA 5 217 rfl (by decide +kernel)), ⟨by decide +kernel, by decide +kernel, by decide +kernel⟩, by decide +kernel⟩
set_option maxRecDepth 100000 in
theorem zve_68 : zVe 68 8 := ⟨(zmA 5 215 (by decide +kernel) (by decide +kernel)), (zmA 5 216 (by decide +kernel) (by decide +kernel)), TX8, 18, rfl⟩
set_option maxRecDepth 100000 in
theorem zce_69 : zCe 69 2 := ⟨(zmA 1 12 (by decide +kernel) (by decide +kernel)), (zmA 5 226 rfl (by decide +kernel)), ⟨by decide +kernel, by decide +kernel, by decide +kernel⟩, by decide +kernel⟩
set_option maxRecDepth 100000 in
theorem zve_69 : zVe 69 8 := ⟨(zmA 5 224 (by decide +kernel) (by decide +kernel)), (zmA 5 225 (by decide +kernel) (by decide +kernel)), TX8, 18, rfl⟩
set_option maxRecDepth 100000 in
theorem zce_70 : zCe 70 2 := ⟨(zmA 1 12 (by decide +kernel) (by decide +kernel)), (zmA 5 233 rfl (by decide +kernel)), ⟨by decide +kernel, by decide +kernel, by decide +kernel⟩, by decide +kernel⟩
set_option maxRecDepth 100000 in
theorem zve_70 : zVe 70 8 := ⟨(zmA 5 232 (by decide +kernel) (by decide +kernel)), (zmA 0 24 (by decide +kernel) (by decide +kernel)), TX8, 18, rfl⟩
set_option maxRecDepth 100000 in
theorem zce_71 : zCe 71 0 := ⟨(zmA 1 12 (by decide +kernel) (by decide +kernel)), (zmA 6 7 rfl (by decide +kernel)), ⟨by decide +kernel, by decide +kernel, by decide +kernel⟩, by decide +kernel⟩
set_option maxRecDepth 100000 in
theorem zve_71 : zVe 71 8 := ⟨(zmA 6 5 (by decide +kernel) (by decide +kernel)), (zmA 6 6 (by decide +kernel) (by decide +kernel)), TX8, 18, rfl⟩
set_option maxRecDepth 100000 in
theorem zce_72 : zCe 72 1 := ⟨(zmA 1 12 (by decide +kernel) (by decide +kernel)), (zmA 6 20 rfl (by decide +kernel)), ⟨by decide +kernel, by decide +kernel, by decide +kernel⟩, by decide +kernel⟩
set_option maxRecDepth 100000 in
theorem zve_72 : zVe 72 8 := ⟨(zmA 6 18 (by decide +kernel) (by decide +kernel)), (zmA 6 19 (by decide +kernel) (by decide +kernel)), TX8, 18, rfl⟩
set_option maxRecDepth 100000 in
theorem zce_73 : zCe 73 0 := ⟨(zmA 1 12 (by decide +kernel) (by decide +kernel)), (zmA 6 32 rfl (by decide +kernel)), ⟨by decide +kernel, by decide +kernel, by decide +kernel⟩, by decide +kernel⟩
set_option maxRecDepth 100000 in
theorem zve_73 : zVe 73 8 := ⟨(zmA 6 30 (by decide +kernel) (by decide +kernel)), (zmA 6 31 (by decide +kernel) (by decide +kernel)), TX8, 18, rfl⟩
set_option maxRecDepth 100000 in
theorem zce_74 : zCe 74 2 := ⟨(zmA 1 12 (by decide +kernel) (by decide +kernel)), (zmA 6 92 rfl (by decide +kernel)), ⟨by decide +kernel, by decide +kernel, by decide +kernel⟩, by decide +kernel⟩
set_option maxRecDepth 100000 in
theorem zve_74 : zVe 74 8 := ⟨(zmA 6 90 (by decide +kernel) (by decide +kernel)), (zmA 6 91 (by decide +kernel) (by decide +kernel)), TX8, 18, rfl⟩
set_option maxRecDepth 100000 in
theorem zce_75 : zCe 75 4 := ⟨(zmA 1 12 (by decide +kernel) (by decide +kernel)), (zmA 6 96 rfl (by decide +kernel)), ⟨by decide +kernel, by decide +kernel, by decide +kernel⟩, by decide +kernel⟩
set_option maxRecDepth 100000 in
theorem zve_75 : zVe 75 8 := ⟨(zmA 6 95 (by decide +kernel) (by decide +kernel)), (zmA 0 31 (by decide +kernel) (by decide +kernel)), TX8, 18, rfl⟩
set_option maxRecDepth 100000 in
theorem zce_76 : zCe 76 3 := ⟨(zmA 1 12 (by decide +kernel) (by decide +kernel)), (zmA 6 100 rfl (by decide +kernel)), ⟨by decide +kernel, by decide +kernel, by decide +kernel⟩, by decide +kernel⟩
set_option maxRecDepth 100000 in
theorem zve_76 : zVe 76 8 := ⟨(zmA 6 99 (by decide +kernel) (by decide +kernel)), (zmA 0 32 (by decide +kernel) (by decide +kernel)), TX8, 18, rfl⟩
set_option maxRecDepth 100000 in
theorem zce_77 : zCe 77 2 := ⟨(zmA 1 12 (by decide +kernel) (by decide +kernel)), (zmA 6 110 rfl (by decide +kernel)), ⟨by decide +kernel, by decide +kernel, by decide +kernel⟩, by decide +kernel⟩
set_option maxRecDepth 100000 in
theorem zve_77 : zVe 77 8 := ⟨(zmA 6 108 (by decide +kernel) (by decide +kernel)), (zmA 6 109 (by decide +kernel) (by decide +kernel)), TX8, 18, rfl⟩
set_option maxRecDepth 100000 in
theorem zce_78 : zCe 78 1 := ⟨(zmA 1 12 (by decide +kernel) (by decide +kernel)), (zmA 6 118 rfl (by decide +kernel)), ⟨by decide +kernel, by decide +kernel, by decide +kernel⟩, by decide +kernel⟩
set_option maxRecDepth 100000 in
theorem zve_78 : zVe 78 8 := ⟨(zmA 6 117 (by decide +kernel) (by decide +kernel)), (zmA 0 34 (by decide +kernel) (by decide +kernel)), TX8, 18, rfl⟩
set_option maxRecDepth 100000 in
theorem zce_79 : zCe 79 1 := ⟨(zmA 1 12 (by decide +kernel) (by decide +kernel)), (zmA 6 114 rfl (by decide +kernel)), ⟨by decide +kernel, by decide +kernel, by decide +kernel⟩, by decide +kernel⟩
set_option maxRecDepth 100000 in
theorem zve_79 : zVe 79 8 := ⟨(zmA 6 113 (by decide +kernel) (by decide +kernel)), (zmA 0 33 (by decide +kernel) (by decide +kernel)), TX8, 18, rfl⟩
set_option maxRecDepth 100000 in
theorem zce_80 : zCe 80 0 := ⟨(zmA 1 12 (by decide +kernel) (by decide +kernel)), (zmA 6 123 rfl (by decide +kernel)), ⟨by decide +kernel, by decide +kernel, by decide +kernel⟩, by decide +kernel⟩
set_option maxRecDepth 100000 in
theorem zve_80 : zVe 80 8 := ⟨(zmA 6 121 (by decide +kernel) (by decide +kernel)), (zmA 6 122 (by decide +kernel) (by decide +kernel)), TX8, 18, rfl⟩
set_option maxRecDepth 100000 in
theorem zce_81 : zCe 81 1 := ⟨(zmA 1 12 (by decide +kernel) (by decide +kernel)), (zmA 6 131 rfl (by decide +kernel)), ⟨by decide +kernel, by decide +kernel, by decide +kernel⟩, by decide +kernel⟩
set_option maxRecDepth 100000 in
theorem zve_81 : zVe 81 8 := ⟨(zmA 6 129 (by decide +kernel) (by decide +kernel)), (zmA 6 130 (by decide +kernel) (by decide +kernel)), TX8, 18, rfl⟩
set_option maxRecDepth 100000 in
theorem zce_82 : zCe 82 2 := ⟨(zmA 1 9 (by decide +kernel) (by decide +kernel)), (zmA 4 199 rfl (by decide +kernel)), ⟨by decide +kernel, by decide +kernel, by decide +kernel⟩, by decide +kernel⟩
set_option maxRecDepth 100000 in
theorem zve_82 : zVe 82 9 := ⟨(zmA 4 197 (by decide +kernel) (by decide +kernel)), (zmA 4 198 (by decide +kernel) (by decide +kernel)), TX9, 14, rfl⟩
set_option maxRecDepth 100000 in
theorem zce_83 : zCe 83 3 := ⟨(zmA 1 9 (by decide +kernel) (by decide +kernel)), (zmA 4 211 rfl (by decide +kernel)), ⟨by decide +kernel, by decide +kernel, by decide +kernel⟩, by decide +kernel⟩
set_option maxRecDepth 100000 in
theorem zve_83 : zVe 83 9 := ⟨(zmA 4 210 (by decide +kernel) (by decide +kernel)), (zmA 0 5 (by decide +kernel) (by decide +kernel)), TX9, 14, rfl⟩
set_option maxRecDepth 100000 in
theorem zce_84 : zCe 84 2 := ⟨(zmA 1 9 (by decide +kernel) (by decide +kernel)), (zmA 4 230 rfl (by decide +kernel)), ⟨by decide +kernel, by decide +kernel, by decide +kernel⟩, by decide +kernel⟩
set_option maxRecDepth 100000 in
theorem zve_84 : zVe 84 9 := ⟨(zmA 4 228 (by decide +kernel) (by decide +kernel)), (zmA 4 229 (by decide +kernel) (by decide +kernel)), TX9, 14, rfl⟩
set_option maxRecDepth 100000 in
theorem zce_85 : zCe 85 2 := ⟨(zmA 1 9 (by decide +kernel) (by decide +kernel)), (zmA 5 1 rfl (by decide +kernel)), ⟨by decide +kernel, by decide +kernel, by decide +kernel⟩, by decide +kernel⟩
set_option maxRecDepth 100000 in
theorem zve_85 : zVe 85 9 := ⟨(zmA 5 0 (by decide +kernel) (by decide +kernel)), (zmA 0 7 (by decide +kernel) (by decide +kernel)), TX9, 14, rfl⟩
set_option maxRecDepth 100000 in
theorem zce_86 : zCe 86 4 := ⟨(zmA 1 9 (by decide +kernel) (by decide +kernel)), (zmA 4 234 rfl (by decide +kernel)), ⟨by decide +kernel, by decide +kernel, by decide +kernel⟩, by decide +kernel⟩
set_option maxRecDepth 100000 in
theorem zve_86 : zVe 86 9 := ⟨(zmA 4 233 (by decide +kernel) (by decide +kernel)), (zmA 0 6 (by decide +kernel) (by decide +kernel)), TX9, 14, rfl⟩
set_option maxRecDepth 100000 in
theorem zce_87 : zCe 87 1 := ⟨(zmA 1 9 (by decide +kernel) (by decide +kernel)), (zmA 5 10 rfl (by decide +kernel)), ⟨by decide +kernel, by decide +kernel, by decide +kernel⟩, by decide +kernel⟩
set_option maxRecDepth 100000 in
theorem zve_87 : zVe 87 9 := ⟨(zmA 5 8 (by decide +kernel) (by decide +kernel)), (zmA 5 9 (by decide +kernel) (by decide +kernel)), TX9, 14, rfl⟩
set_option maxRecDepth 100000 in
theorem zce_88 : zCe 88 2 := ⟨(zmA 1 9 (by decide +kernel) (by decide +kernel)), (zmA 5 33 rfl (by decide +kernel)), ⟨by decide +kernel, by decide +kernel, by decide +kernel⟩, by decide +kernel⟩
set_option maxRecDepth 100000 in
theorem zve_88 : zVe 88 9 := ⟨(zmA 5 32 (by decide +kernel) (by decide +kernel)), (zmA 0 9 (by decide +kernel) (by decide +kernel)), TX9, 14, rfl⟩
set_option maxRecDepth 100000 in
theorem zce_89 : zCe 89 5 := ⟨(zmA 1 9 (by decide +kernel) (by decide +kernel)), (zmA 5 15 rfl (by decide +kernel)), ⟨by decide +kernel, by decide +kernel, by decide +kernel⟩, by decide +kernel⟩
set_option maxRecDepth 100000 in
theorem zve_89 : zVe 89 9 := ⟨(zmA 5 14 (by decide +kernel) (by decide +kernel)), (zmA 0 8 (by decide +kernel) (by decide +kernel)), TX9, 14, rfl⟩
set_option maxRecDepth 100000 in
theorem zce_90 : zCe 90 2 := ⟨(zmA 1 9 (by decide +kernel) (by decide +kernel)), (zmA 6 140 rfl (by decide +kernel)), ⟨by decide +kernel, by decide +kernel, by decide +kernel⟩, by decide +kernel⟩
set_option maxRecDepth 100000 in
theorem zve_90 : zVe 90 9 := ⟨(zmA 6 138 (by decide +kernel) (by decide +kernel)), (zmA 6 139 (by decide +kernel) (by decide +kernel)), TX9, 14, rfl⟩
set_option maxRecDepth 100000 in
theorem zce_91 : zCe 91 3 := ⟨(zmA 1 9 (by decide +kernel) (by decide +kernel)), (zmA 6 149 rfl (by decide +kernel)), ⟨by decide +kernel, by decide +kernel, by decide +kernel⟩, by decide +kernel⟩
set_option maxRecDepth 100000 in
theorem zve_91 : zVe 91 9 := ⟨(zmA 6 148 (by decide +kernel) (by decide +kernel)), (zmA 0 35 (by decide +kernel) (by decide +kernel)), TX9, 14, rfl⟩
set_option maxRecDepth 100000 in
theorem zce_92 : zCe 92 2 := ⟨(zmA 1 8 (by decide +kernel) (by decide +kernel)), (zmA 4 134 rfl (by decide +kernel)), ⟨by decide +kernel, by decide +kernel, by decide +kernel⟩, by decide +kernel⟩
set_option maxRecDepth 100000 in
theorem zve_92 : zVe 92 10 := ⟨(zmA 4 132 (by decide +kernel) (by decide +kernel)), (zmA 4 133 (by decide +kernel) (by decide +kernel)), TX10, 6, rfl⟩
set_option maxRecDepth 100000 in
theorem zce_93 : zCe 93 2 := ⟨(zmA 1 8 (by decide +kernel) (by decide +kernel)), (zmA 3 109 rfl (by decide +kernel)), ⟨by decide +kernel, by decide +kernel, by decide +kernel⟩, by decide +kernel⟩
set_option maxRecDepth 100000 in
theorem zve_93 : zVe 93 10 := ⟨(zmA 3 107 (by decide +kernel) (by decide +kernel)), (zmA 3 108 (by decide +kernel) (by decide +kernel)), TX10, 6, rfl⟩
set_option maxRecDepth 100000 in
theorem zce_94 : zCe 94 2 := ⟨(zmA 1 8 (by decide +kernel) (by decide +kernel)), (zmA 6 66 rfl (by decide +kernel)), ⟨by decide +kernel, by decide +kernel, by decide +kernel⟩, by decide +kernel⟩
set_option maxRecDepth 100000 in
theorem zve_94 : zVe 94 10 := ⟨(zmA 6 64 (by decide +kernel) (by decide +kernel)), (zmA 6 65 (by decide +kernel) (by decide +kernel)), TX10, 6, rfl⟩
set_option maxRecDepth 100000 in
theorem zce_95 : zCe 95 3 := ⟨(zmA 1 8 (by decide +kernel) (by decide +kernel)), (zmA 4 86 rfl (by decide +kernel)), ⟨by decide +kernel, by decide +kernel, by decide +kernel⟩, by decide +kernel⟩
set_option maxRecDepth 100000 in
theorem zve_95 : zVe 95 10 := ⟨(zmA 4 84 (by decide +kernel) (by decide +kernel)), (zmA 4 85 (by decide +kernel) (by decide +kernel)), TX10, 6, rfl⟩
set_option maxRecDepth 100000 in
theorem zce_96 : zCe 96 3 := ⟨(zmA 1 8 (by decide +kernel) (by decide +kernel)), (zmA 4 126 rfl (by decide +kernel)), ⟨by decide +kernel, by decide +kernel, by decide +kernel⟩, by decide +kernel⟩
set_option maxRecDepth 100000 in
theorem zve_96 : zVe 96 10 := ⟨(zmA 4 124 (by decide +kernel) (by decide +kernel)), (zmA 4 125 (by decide +kernel) (by decide +kernel)), TX10, 6, rfl⟩
set_option maxRecDepth 100000 in
theorem zce_97 : zCe 97 2 := ⟨(zmA 1 8 (by decide +kernel) (by decide +kernel)), (zmA 4 110 rfl (by decide +kernel)), ⟨by decide +kernel, by decide +kernel, by decide +kernel⟩, by decide +kernel⟩
set_option maxRecDepth 100000 in
theorem zve_97 : zVe 97 10 := ⟨(zmA 4 108 (by decide +kernel) (by decide +kernel)), (zmA 4 109 (by decide +kernel) (by decide +kernel)), TX10, 6, rfl⟩
set_option maxRecDepth 100000 in
theorem zce_98 : zCe 98 2 := ⟨(zmA 1 8 (by decide +kernel) (by decide +kernel)), (zmA 5 24 rfl (by decide +kernel)), ⟨by decide +kernel, by decide +kernel, by decide +kernel⟩, by decide +kernel⟩
set_option maxRecDepth 100000 in
theorem zve_98 : zVe 98 10 := ⟨(zmA 5 22 (by decide +kernel) (by decide +kernel)), (zmA 5 23 (by decide +kernel) (by decide +kernel)), TX10, 6, rfl⟩
set_option maxRecDepth 100000 in
theorem zce_99 : zCe 99 1 := ⟨(zmA 1 8 (by decide +kernel) (by decide +kernel)), (zmA 4 102 rfl (by decide +kernel)), ⟨by decide +kernel, by decide +kernel, by decide +kernel⟩, by decide +kernel⟩
set_option maxRecDepth 100000 in
theorem zve_99 : zVe 99 10 := ⟨(zmA 4 100 (by decide +kernel) (by decide +kernel)), (zmA 4 101 (by decide +kernel) (by decide +kernel)), TX10, 6, rfl⟩
set_option maxRecDepth 100000 in
theorem zce_100 : zCe 100 3 := ⟨(zmA 1 8 (by decide +kernel) (by decide +kernel)), (zmA 4 73 rfl (by decide +kernel)), ⟨by decide +kernel, by decide +kernel, by decide +kernel⟩, by decide +kernel⟩
set_option maxRecDepth 100000 in
theorem zve_100 : zVe 100 10 := ⟨(zmA 4 71 (by decide +kernel) (by decide +kernel)), (zmA 4 72 (by decide +kernel) (by decide +kernel)), TX10, 6, rfl⟩
set_option maxRecDepth 100000 in
theorem zce_101 : zCe 101 4 := ⟨(zmA 1 8 (by decide +kernel) (by decide +kernel)), (zmA 4 78 rfl (by decide +kernel)), ⟨by decide +kernel, by decide +kernel, by decide +kernel⟩, by decide +kernel⟩
set_option maxRecDepth 100000 in
theorem zve_101 : zVe 101 10 := ⟨(zmA 4 76 (by decide +kernel) (by decide +kernel)), (zmA 4 77 (by decide +kernel) (by decide +kernel)), TX10, 6, rfl⟩
set_option maxRecDepth 100000 in
theorem zce_102 : zCe 102 3 := ⟨(zmA 1 8 (by decide +kernel) (by decide +kernel)), (zmA 4 152 rfl (by decide +kernel)), ⟨by decide +kernel, by decide +kernel, by decide +kernel⟩, by decide +kernel⟩
set_option maxRecDepth 100000 in
theorem zve_102 : zVe 102 10 := ⟨(zmA 4 150 (by decide +kernel) (by decide +kernel)), (zmA 4 151 (by decide +kernel) (by decide +kernel)), TX10, 6, rfl⟩
set_option maxRecDepth 100000 in
theorem zce_103 : zCe 103 3 := ⟨(zmA 1 8 (by decide +kernel) (by decide +kernel)), (zmA 4 143 rfl (by decide +kernel)), ⟨by decide +kernel, by decide +kernel, by decide +kernel⟩, by decide +kernel⟩
set_option maxRecDepth 100000 in
theorem zve_103 : zVe 103 10 := ⟨(zmA 4 141 (by decide +kernel) (by decide +kernel)), (zmA 4 142 (by decide +kernel) (by decide +kernel)), TX10, 6, rfl⟩
set_option maxRecDepth 100000 in
theorem zce_104 : zCe 104 3 := ⟨(zmA 1 8 (by decide +kernel) (by decide +kernel)), (zmA 4 130 rfl (by decide +kernel)), ⟨by decide +kernel, by decide +kernel, by decide +kernel⟩, by decide +kernel⟩
set_option maxRecDepth 100000 in
theorem zve_104 : zVe 104 10 := ⟨(zmA 4 128 (by decide +kernel) (by decide +kernel)), (zmA 4 129 (by decide +kernel) (by decide +kernel)), TX10, 6, rfl⟩
set_option maxRecDepth 100000 in
theorem zce_105 : zCe 105 4 := ⟨(zmA 1 8 (by decide +kernel) (by decide +kernel)), (zmA 4 148 rfl (by decide +kernel)), ⟨by decide +kernel, by decide +kernel, by decide +kernel⟩, by decide +kernel⟩
set_option maxRecDepth 100000 in
theorem zve_105 : zVe 105 10 := ⟨(zmA 4 146 (by decide +kernel) (by decide +kernel)), (zmA 4 147 (by decide +kernel) (by decide +kernel)), TX10, 6, rfl⟩
set_option maxRecDepth 100000 in
theorem zce_106 : zCe 106 2 := ⟨(zmA 1 8 (by decide +kernel) (by decide +kernel)), (zmA 4 170 rfl (by decide +kernel)), ⟨by decide +kernel, by decide +kernel, by decide +kernel⟩, by decide +kernel⟩
set_option maxRecDepth 100000 in
theorem zve_106 : zVe 106 10 := ⟨(zmA 4 168 (by decide +kernel) (by decide +kernel)), (zmA 4 169 (by decide +kernel) (by decide +kernel)), TX10, 6, rfl⟩
set_option maxRecDepth 100000 in
theorem zce_107 : zCe 107 2 := ⟨(zmA 1 8 (by decide +kernel) (by decide +kernel)), (zmA 4 218 rfl (by decide +kernel)), ⟨by decide +kernel, by decide +kernel, by decide +kernel⟩, by decide +kernel⟩
set_option maxRecDepth 100000 in
theorem zve_107 : zVe 107 10 := ⟨(zmA 4 216 (by decide +kernel) (by decide +kernel)), (zmA 4 217 (by decide +kernel) (by decide +kernel)), TX10, 6, rfl⟩
set_option maxRecDepth 100000 in
theorem zce_161 : zCe 161 3 := ⟨(zmA 1 14 (by decide +kernel) (by decide +kernel)), (zmA 8 68 rfl (by decide +kernel)), ⟨by decide +kernel, by decide +kernel, by decide +kernel⟩, by decide +kernel⟩
theorem zve_161 : Cond.static (zMt 161).1 ∈ zTb := (zmA 8 67 (by decide +kernel) (by decide +kernel))
set_option maxRecDepth 100000 in
theorem zce_162 : zCe 162 0 := ⟨(zmA 1 14 (by decide +kernel) (by decide +kernel)), (zmA 8 197 rfl (by decide +kernel)), ⟨by decide +kernel, by decide +kernel, by decide +kernel⟩, by decide +kernel⟩
set_option maxRecDepth 100000 in
theorem zve_162 : zVe 162 12 := ⟨(zmA 8 196 (by decide +kernel) (by decide +kernel)), (zmA 0 55 (by decide +kernel) (by decide +kernel)), TX12, 84, rfl⟩
set_option maxRecDepth 100000 in
theorem zce_163 : zCe 163 1 := ⟨(zmA 1 14 (by decide +kernel) (by decide +kernel)), (zmA 9 45 rfl (by decide +kernel)), ⟨by decide +kernel, by decide +kernel, by decide +kernel⟩, by decide +kernel⟩
set_option maxRecDepth 100000 in
theorem zve_163 : zVe 163 12 := ⟨(zmA 9 44 (by decide +kernel) (by decide +kernel)), (zmA 0 71 (by decide +kernel) (by decide +kernel)), TX12, 84, rfl⟩
set_option maxRecDepth 100000 in
theorem zce_164 : zCe 164 0 := ⟨(zmA 1 14 (by decide +kernel) (by decide +kernel)), (zmA 7 44 rfl (by decide +kernel)), ⟨by decide +kernel, by decide +kernel, by decide +kernel⟩, by decide +kernel⟩
set_option maxRecDepth 100000 in
theorem zve_164 : zVe 164 12 := ⟨(zmA 7 43 (by decide +kernel) (by decide +kernel)), (zmA 0 37 (by decide +kernel) (by decide +kernel)), TX12, 84, rfl⟩
set_option maxRecDepth 100000 in
theorem zce_165 : zCe 165 1 := ⟨(zmA 1 14 (by decide +kernel) (by decide +kernel)), (zmA 8 80 rfl (by decide +kernel)), ⟨by decide +kernel, by decide +kernel, by decide +kernel⟩, by decide +kernel⟩
set_option maxRecDepth 100000 in
theorem zve_165 : zVe 165 12 := ⟨(zmA 8 79 (by decide +kernel) (by decide +kernel)), (zmA 0 39 (by decide +kernel) (by decide +kernel)), TX12, 84, rfl⟩
set_option maxRecDepth 100000 in
theorem zce_166 : zCe 166 1 := ⟨(zmA 1 14 (by decide +kernel) (by decide +kernel)), (zmA 8 106 rfl (by decide +kernel)), ⟨by decide +kernel, by decide +kernel, by decide +kernel⟩, by decide +kernel⟩
set_option maxRecDepth 100000 in
theorem zve_166 : zVe 166 12 := ⟨(zmA 8 105 (by decide +kernel) (by decide +kernel)), (zmA 0 41 (by decide +kernel) (by decide +kernel)), TX12, 84, rfl⟩
set_option maxRecDepth 100000 in
theorem zce_167 : zCe 167 1 := ⟨(zmA 1 14 (by decide +kernel) (by decide +kernel)), (zmA 8 181 rfl (by decide +kernel)), ⟨by decide +kernel, by decide +kernel, by decide +kernel⟩, by decide +kernel⟩
set_option maxRecDepth 100000 in
theorem zve_167 : zVe 167 12 := ⟨(zmA 8 180 (by decide +kernel) (by decide +kernel)), (zmA 0 54 (by decide +kernel) (by decide +kernel)), TX12, 84, rfl⟩
set_option maxRecDepth 100000 in
theorem zce_168 : zCe 168 1 := ⟨(zmA 1 14 (by decide +kernel) (by decide +kernel)), (zmA 9 183 rfl (by decide +kernel)), ⟨by decide +kernel, by decide +kernel, by decide +kernel⟩, by decide +kernel⟩
set_option maxRecDepth 100000 in
theorem zve_168 : zVe 168 12 := ⟨(zmA 9 182 (by decide +kernel) (by decide +kernel)), (zmA 0 90 (by decide +kernel) (by decide +kernel)), TX12, 84, rfl⟩
set_option maxRecDepth 100000 in
theorem zce_169 : zCe 169 0 := ⟨(zmA 1 14 (by decide +kernel) (by decide +kernel)), (zmA 8 72 rfl (by decide +kernel)), ⟨by decide +kernel, by decide +kernel, by decide +kernel⟩, by decide +kernel⟩
set_option maxRecDepth 100000 in
theorem zve_169 : zVe 169 12 := ⟨(zmA 8 71 (by decide +kernel) (by decide +kernel)), (zmA 0 38 (by decide +kernel) (by decide +kernel)), TX12, 84, rfl⟩
set_option maxRecDepth 100000 in
theorem zce_171 : zCe 171 1 := ⟨(zmA 1 14 (by decide +kernel) (by decide +kernel)), (zmA 8 84 rfl (by decide +kernel)), ⟨by decide +kernel, by decide +kernel, by decide +kernel⟩, by decide +kernel⟩
set_option maxRecDepth 100000 in
theorem zve_171 : zVe 171 12 := ⟨(zmA 8 83 (by decide +kernel) (by decide +kernel)), (zmA 0 40 (by decide +kernel) (by decide +kernel)), TX12, 84, rfl⟩
set_option maxRecDepth 100000 in
theorem zce_176 : zCe 176 2 := ⟨(zmA 1 14 (by decide +kernel) (by decide +kernel)), (zmA 8 110 rfl (by decide +kernel)), ⟨by decide +kernel, by decide +kernel, by decide +kernel⟩, by decide +kernel⟩
set_option maxRecDepth 100000 in
theorem zve_176 : zVe 176 12 := ⟨(zmA 8 109 (by decide +kernel) (by decide +kernel)), (zmA 0 42 (by decide +kernel) (by decide +kernel)), TX12, 84, rfl⟩
set_option maxRecDepth 100000 in
theorem zce_180 : zCe 180 0 := ⟨(zmA 1 14 (by decide +kernel) (by decide +kernel)), (zmA 8 157 rfl (by decide +kernel)), ⟨by decide +kernel, by decide +kernel, by decide +kernel⟩, by decide +kernel⟩
set_option maxRecDepth 100000 in
theorem zve_180 : zVe 180 12 := ⟨(zmA 8 156 (by decide +kernel) (by decide +kernel)), (zmA 0 50 (by decide +kernel) (by decide +kernel)), TX12, 84, rfl⟩

/-! what the tables say of the callees (laid by wip/whole/gen_checks.py) -/
set_option maxRecDepth 100000 in
theorem zce_0 : zCe 0 1 := ⟨(zmA 1 10 (by decide +kernel) (by decide +kernel)), (zmA 5 46 rfl (by decide +kernel)), ⟨by decide +kernel, by decide +kernel, by decide +kernel⟩, by decide +kernel⟩
set_option maxRecDepth 100000 in
theorem zve_0 : zVe 0 0 := ⟨(zmA 5 45 (by decide +kernel) (by decide +kernel)), (zmA 0 10 (by decide +kernel) (by decide +kernel)), TX0, 15, rfl⟩
set_option maxRecDepth 100000 in
theorem zce_1 : zCe 1 1 := ⟨(zmA 1 10 (by decide +kernel) (by decide +kernel)), (zmA 5 42 rfl (by decide +kernel)), ⟨by decide +kernel, by decide +kernel, by decide +kernel⟩, by decide +kernel⟩
set_option maxRecDepth 100000 in
theorem zve_1 : zVe 1 0 := ⟨(zmA 5 40 (by decide +kernel) (by decide +kernel)), (zmA 5 41 (by decide +kernel) (by decide +kernel)), TX0, 15, rfl⟩
set_option maxRecDepth 100000 in
theorem zce_2 : zCe 2 1 := ⟨(zmA 1 10 (by decide +kernel) (by decide +kernel)), (zmA 5 54 rfl (by decide +kernel)), ⟨by decide +kernel, by decide +kernel, by decide +kernel⟩, by decide +kernel⟩
set_option maxRecDepth 100000 in
theorem zve_2 : zVe 2 0 := ⟨(zmA 5 52 (by decide +kernel) (by decide +kernel)), (zmA 5 53 (by decide +kernel) (by decide +kernel)), TX0, 15, rfl⟩
set_option maxRecDepth 100000 in
theorem zce_3 : zCe 3 0 := ⟨(zmA 1 10 (by decide +kernel) (by decide +kernel)), (zmA 5 62 rfl (by decide +kernel)), ⟨by decide +kernel, by decide +kernel, by decide +kernel⟩, by decide +kernel⟩
set_option maxRecDepth 100000 in
theorem zve_3 : zVe 3 0 := ⟨(zmA 5 60 (by decide +kernel) (by decide +kernel)), (zmA 5 61 (by decide +kernel) (by decide +kernel)), TX0, 15, rfl⟩
set_option maxRecDepth 100000 in
theorem zce_4 : zCe 4 0 := ⟨(zmA 1 10 (by decide +kernel) (by decide +kernel)), (zmA 5 70 rfl (by decide +kernel)), ⟨by decide +kernel, by decide +kernel, by decide +kernel⟩, by decide +kernel⟩
set_option maxRecDepth 100000 in
theorem zve_4 : zVe 4 0 := ⟨(zmA 5 68 (by decide +kernel) (by decide +kernel)), (zmA 5 69 (by decide +kernel) (by decide +kernel)), TX0, 15, rfl⟩
set_option maxRecDepth 100000 in
theorem zce_5 : zCe 5 2 := ⟨(zmA 1 10 (by decide +kernel) (by decide +kernel)), (zmA 5 79 rfl (by decide +kernel)), ⟨by decide +kernel, by decide +kernel, by decide +kernel⟩, by decide +kernel⟩
set_option maxRecDepth 100000 in
theorem zve_5 : zVe 5 0 := ⟨(zmA 5 78 (by decide +kernel) (by decide +kernel)), (zmA 0 11 (by decide +kernel) (by decide +kernel)), TX0, 15, rfl⟩
set_option maxRecDepth 100000 in
theorem zce_6 : zCe 6 1 := ⟨(zmA 1 10 (by decide +kernel) (by decide +kernel)), (zmA 5 84 rfl (by decide +kernel)), ⟨by decide +kernel, by decide +kernel, by decide +kernel⟩, by decide +kernel⟩
set_option maxRecDepth 100000 in
theorem zve_6 : zVe 6 0 := ⟨(zmA 5 83 (by decide +kernel) (by decide +kernel)), (zmA 0 12 (by decide +kernel) (by decide +kernel)), TX0, 15, rfl⟩
set_option maxRecDepth 100000 in
theorem zce_7 : zCe 7 2 := ⟨(zmA 1 10 (by decide +kernel) (by decide +kernel)), (zmA 5 89 rfl (by decide +kernel)), ⟨by decide +kernel, by decide +kernel, by decide +kernel⟩, by decide +kernel⟩
set_option maxRecDepth 100000 in
theorem zve_7 : zVe 7 0 := ⟨(zmA 5 88 (by decide +kernel) (by decide +kernel)), (zmA 0 13 (by decide +kernel) (by decide +kernel)), TX0, 15, rfl⟩
set_option maxRecDepth 100000 in
theorem zce_8 : zCe 8 3 := ⟨(zmA 1 10 (by decide +kernel) (by decide +kernel)), (zmA 5 97 rfl (by decide +kernel)), ⟨by decide +kernel, by decide +kernel, by decide +kernel⟩, by decide +kernel⟩
set_option maxRecDepth 100000 in
theorem zve_8 : zVe 8 0 := ⟨(zmA 5 96 (by decide +kernel) (by decide +kernel)), (zmA 0 14 (by decide +kernel) (by decide +kernel)), TX0, 15, rfl⟩
set_option maxRecDepth 100000 in
theorem zce_9 : zCe 9 1 := ⟨(zmA 1 10 (by decide +kernel) (by decide +kernel)), (zmA 5 112 rfl (by decide +kernel)), ⟨by decide +kernel, by decide +kernel, by decide +kernel⟩, by decide +kernel⟩
set_option maxRecDepth 100000 in
theorem zve_9 : zVe 9 0 := ⟨(zmA 5 110 (by decide +kernel) (by decide +kernel)), (zmA 5 111 (by decide +kernel) (by decide +kernel)), TX0, 15, rfl⟩
set_option maxRecDepth 100000 in
theorem zce_10 : zCe 10 1 := ⟨(zmA 1 10 (by decide +kernel) (by decide +kernel)), (zmA 5 116 rfl (by decide +kernel)), ⟨by decide +kernel, by decide +kernel, by decide +kernel⟩, by decide +kernel⟩
set_option maxRecDepth 100000 in
theorem zve_10 : zVe 10 0 := ⟨(zmA 5 115 (by decide +kernel) (by decide +kernel)), (zmA 0 15 (by decide +kernel) (by decide +kernel)), TX0, 15, rfl⟩
set_option maxRecDepth 100000 in
theorem zce_11 : zCe 11 2 := ⟨(zmA 1 10 (by decide +kernel) (by decide +kernel)), (zmA 5 121 rfl (by decide +kernel)), ⟨by decide +kernel, by decide +kernel, by decide +kernel⟩, by decide +kernel⟩
set_option maxRecDepth 100000 in
theorem zve_11 : zVe 11 0 := ⟨(zmA 5 120 (by decide +kernel) (by decide +kernel)), (zmA 0 16 (by decide +kernel) (by decide +kernel)), TX0, 15, rfl⟩
set_option maxRecDepth 100000 in
theorem zce_12 : zCe 12 0 := ⟨(zmA 1 10 (by decide +kernel) (by decide +kernel)), (zmA 5 130 rfl (by decide +kernel)), ⟨by decide +kernel, by decide +kernel, by decide +kernel⟩, by decide +kernel⟩
set_option maxRecDepth 100000 in
theorem zve_12 : zVe 12 0 := ⟨(zmA 5 129 (by decide +kernel) (by decide +kernel)), (zmA 0 18 (by decide +kernel) (by decide +kernel)), TX0, 15, rfl⟩
set_option maxRecDepth 100000 in
theorem zce_13 : zCe 13 1 := ⟨(zmA 1 10 (by decide +kernel) (by decide +kernel)), (zmA 5 126 rfl (by decide +kernel)), ⟨by decide +kernel, by decide +kernel, by decide +kernel⟩, by decide +kernel⟩
set_option maxRecDepth 100000 in
theorem zve_13 : zVe 13 0 := ⟨(zmA 5 125 (by decide +kernel) (by decide +kernel)), (zmA 0 17 (by decide +kernel) (by decide +kernel)), TX0, 15, rfl⟩
set_option maxRecDepth 100000 in
theorem zce_14 : zCe 14 1 := ⟨(zmA 1 11 (by decide +kernel) (by decide +kernel)), (zmA 5 146 rfl (by decide +kernel)), ⟨by decide +kernel, by decide +kernel, by decide +kernel⟩, by decide +kernel⟩
set_option maxRecDepth 100000 in
theorem zve_14 : zVe 14 1 := ⟨(zmA 5 144 (by decide +kernel) (by decide +kernel)), (zmA 5 145 (by decide +kernel) (by decide +kernel)), TX1, 11, rfl⟩
set_option maxRecDepth 100000 in
theorem zce_15 : zCe 15 1 := ⟨(zmA 1 11 (by decide +kernel) (by decide +kernel)), (zmA 5 156 rfl (by decide +kernel)), ⟨by decide +kernel, by decide +kernel, by decide +kernel⟩, by decide +kernel⟩
set_option maxRecDepth 100000 in
theorem zve_15 : zVe 15 1 := ⟨(zmA 5 155 (by decide +kernel) (by decide +kernel)), (zmA 0 19 (by decide +kernel) (by decide +kernel)), TX1, 11, rfl⟩
set_option maxRecDepth 100000 in
theorem zce_16 : zCe 16 2 := ⟨(zmA 1 11 (by decide +kernel) (by decide +kernel)), (zmA 5 170 rfl (by decide +kernel)), ⟨by decide +kernel, by decide +kernel, by decide +kernel⟩, by decide +kernel⟩
set_option maxRecDepth 100000 in
theorem zve_16 : zVe 16 1 := ⟨(zmA 5 169 (by decide +kernel) (by decide +kernel)), (zmA 0 22 (by decide +kernel) (by decide +kernel)), TX1, 11, rfl⟩
set_option maxRecDepth 100000 in
theorem zce_17 : zCe 17 2 := ⟨(zmA 1 11 (by decide +kernel) (by decide +kernel)), (zmA 5 152 rfl (by decide +kernel)), ⟨by decide +kernel, by decide +kernel, by decide +kernel⟩, by decide +kernel⟩
set_option maxRecDepth 100000 in
theorem zve_17 : zVe 17 1 := ⟨(zmA 5 150 (by decide +kernel) (by decide +kernel)), (zmA 5 151 (by decide +kernel) (by decide +kernel)), TX1, 11, rfl⟩
set_option maxRecDepth 100000 in
theorem zce_18 : zCe 18 1 := ⟨(zmA 1 11 (by decide +kernel) (by decide +kernel)), (zmA 5 161 rfl (by decide +kernel)), ⟨by decide +kernel, by decide +kernel, by decide +kernel⟩, by decide +kernel⟩
set_option maxRecDepth 100000 in
theorem zve_18 : zVe 18 1 := ⟨(zmA 5 160 (by decide +kernel) (by decide +kernel)), (zmA 0 20 (by decide +kernel) (by decide +kernel)), TX1, 11, rfl⟩
set_option maxRecDepth 100000 in
theorem zce_19 : zCe 19 0 := ⟨(zmA 1 11 (by decide +kernel) (by decide +kernel)), (zmA 5 165 rfl (by decide +kernel)), ⟨by decide +kernel, by decide +kernel, by decide +kernel⟩, by decide +kernel⟩
set_option maxRecDepth 100000 in
theorem zve_19 : zVe 19 1 := ⟨(zmA 5 164 (by decide +kernel) (by decide +kernel)), (zmA 0 21 (by decide +kernel) (by decide +kernel)), TX1, 11, rfl⟩
set_option maxRecDepth 100000 in
theorem zce_20 : zCe 20 1 := ⟨(zmA 1 11 (by decide +kernel) (by decide +kernel)), (zmA 5 184 rfl (by decide +kernel)), ⟨by decide +kernel, by decide +kernel, by decide +kernel⟩, by decide +kernel⟩
set_option maxRecDepth 100000 in
theorem zve_20 : zVe 20 1 := ⟨(zmA 5 182 (by decide +kernel) (by decide +kernel)), (zmA 5 183 (by decide +kernel) (by decide +kernel)), TX1, 11, rfl⟩
set_option maxRecDepth 100000 in
theorem zce_21 : zCe 21 2 := ⟨(zmA 1 11 (by decide +kernel) (by decide +kernel)), (zmA 5 188 rfl (by decide +kernel)), ⟨by decide +kernel, by decide +kernel, by decide +kernel⟩, by decide +kernel⟩
set_option maxRecDepth 100000 in
theorem zve_21 : zVe 21 1 := ⟨(zmA 5 187 (by decide +kernel) (by decide +kernel)), (zmA 0 23 (by decide +kernel) (by decide +kernel)), TX1, 11, rfl⟩
set_option maxRecDepth 100000 in
theorem zce_22 : zCe 22 0 := ⟨(zmA 1 13 (by decide +kernel) (by decide +kernel)), (zmA 6 46 rfl (by decide +kernel)), ⟨by decide +kernel, by decide +kernel, by decide +kernel⟩, by decide +kernel⟩
set_option maxRecDepth 100000 in
theorem zve_22 : zVe 22 2 := ⟨(zmA 6 44 (by decide +kernel) (by decide +kernel)), (zmA 6 45 (by decide +kernel) (by decide +kernel)), TX2, 10, rfl⟩
set_option maxRecDepth 100000 in
theorem zce_23 : zCe 23 0 := ⟨(zmA 1 13 (by decide +kernel) (by decide +kernel)), (zmA 6 51 rfl (by decide +kernel)), ⟨by decide +kernel, by decide +kernel, by decide +kernel⟩, by decide +kernel⟩
set_option maxRecDepth 100000 in
theorem zve_23 : zVe 23 2 := ⟨(zmA 6 50 (by decide +kernel) (by decide +kernel)), (zmA 0 25 (by decide +kernel) (by decide +kernel)), TX2, 10, rfl⟩
set_option maxRecDepth 100000 in
theorem zce_24 : zCe 24 1 := ⟨(zmA 1 13 (by decide +kernel) (by decide +kernel)), (zmA 6 55 rfl (by decide +kernel)), ⟨by decide +kernel, by decide +kernel, by decide +kernel⟩, by decide +kernel⟩
set_option maxRecDepth 100000 in
theorem zve_24 : zVe 24 2 := ⟨(zmA 6 54 (by decide +kernel) (by decide +kernel)), (zmA 0 26 (by decide +kernel) (by decide +kernel)), TX2, 10, rfl⟩
set_option maxRecDepth 100000 in
theorem zce_25 : zCe 25 2 := ⟨(zmA 1 13 (by decide +kernel) (by decide +kernel)), (zmA 6 62 rfl (by decide +kernel)), ⟨by decide +kernel, by decide +kernel, by decide +kernel⟩, by decide +kernel⟩
set_option maxRecDepth 100000 in
theorem zve_25 : zVe 25 2 := ⟨(zmA 6 61 (by decide +kernel) (by decide +kernel)), (zmA 0 27 (by decide +kernel) (by decide +kernel)), TX2, 10, rfl⟩
set_option maxRecDepth 100000 in
theorem zce_26 : zCe 26 2 := ⟨(zmA 1 13 (by decide +kernel) (by decide +kernel)), (zmA 6 71 rfl (by decide +kernel)), ⟨by decide +kernel, by decide +kernel, by decide +kernel⟩, by decide +kernel⟩
set_option maxRecDepth 100000 in
theorem zve_26 : zVe 26 2 := ⟨(zmA 6 70 (by decide +kernel) (by decide +kernel)), (zmA 0 28 (by decide +kernel) (by decide +kernel)), TX2, 10, rfl⟩
set_option maxRecDepth 100000 in
theorem zce_27 : zCe 27 1 := ⟨(zmA 1 13 (by decide +kernel) (by decide +kernel)), (zmA 6 164 rfl (by decide +kernel)), ⟨by decide +kernel, by decide +kernel, by decide +kernel⟩, by decide +kernel⟩
set_option maxRecDepth 100000 in
theorem zve_27 : zVe 27 2 := ⟨(zmA 6 162 (by decide +kernel) (by decide +kernel)), (zmA 6 163 (by decide +kernel) (by decide +kernel)), TX2, 10, rfl⟩
set_option maxRecDepth 100000 in
theorem zce_28 : zCe 28 0 := ⟨(zmA 1 13 (by decide +kernel) (by decide +kernel)), (zmA 6 42 rfl (by decide +kernel)), ⟨by decide +kernel, by decide +kernel, by decide +kernel⟩, by decide +kernel⟩
set_option maxRecDepth 100000 in
theorem zve_28 : zVe 28 2 := ⟨(zmA 6 40 (by decide +kernel) (by decide +kernel)), (zmA 6 41 (by decide +kernel) (by decide +kernel)), TX2, 10, rfl⟩
set_option maxRecDepth 100000 in
theorem zce_29 : zCe 29 2 := ⟨(zmA 1 13 (by decide +kernel) (by decide +kernel)), (zmA 6 77 rfl (by decide +kernel)), ⟨by decide +kernel, by decide +kernel, by decide +kernel⟩, by decide +kernel⟩
set_option maxRecDepth 100000 in
theorem zve_29 : zVe 29 2 := ⟨(zmA 6 76 (by decide +kernel) (by decide +kernel)), (zmA 0 29 (by decide +kernel) (by decide +kernel)), TX2, 10, rfl⟩
set_option maxRecDepth 100000 in
theorem zce_30 : zCe 30 2 := ⟨(zmA 1 13 (by decide +kernel) (by decide +kernel)), (zmA 6 82 rfl (by decide +kernel)), ⟨by decide +kernel, by decide +kernel, by decide +kernel⟩, by decide +kernel⟩
set_option maxRecDepth 100000 in
theorem zve_30 : zVe 30 2 := ⟨(zmA 6 81 (by decide +kernel) (by decide +kernel)), (zmA 0 30 (by decide +kernel) (by decide +kernel)), TX2, 10, rfl⟩
set_option maxRecDepth 100000 in
theorem zce_31 : zCe 31 1 := ⟨(zmA 1 3 (by decide +kernel) (by decide +kernel)), (zmA 4 57 rfl (by decide +kernel)), ⟨by decide +kernel, by decide +kernel, by decide +kernel⟩, by decide +kernel⟩
set_option maxRecDepth 100000 in
theorem zve_31 : zVe 31 3 := ⟨(zmA 4 55 (by decide +kernel) (by decide +kernel)), (zmA 4 56 (by decide +kernel) (by decide +kernel)), TX3, 7, rfl⟩
set_option maxRecDepth 100000 in
theorem zce_32 : zCe 32 1 := ⟨(zmA 1 3 (by decide +kernel) (by decide +kernel)), (zmA 5 108 rfl (by decide +kernel)), ⟨by decide +kernel, by decide +kernel, by decide +kernel⟩, by decide +kernel⟩
set_option maxRecDepth 100000 in
theorem zve_32 : zVe 32 3 := ⟨(zmA 5 106 (by decide +kernel) (by decide +kernel)), (zmA 5 107 (by decide +kernel) (by decide +kernel)), TX3, 7, rfl⟩
set_option maxRecDepth 100000 in
theorem zce_33 : zCe 33 4 := ⟨(zmA 1 3 (by decide +kernel) (by decide +kernel)), (zmA 4 49 rfl (by decide +kernel)), ⟨by decide +kernel, by decide +kernel, by decide +kernel⟩, by decide +kernel⟩
set_option maxRecDepth 100000 in
theorem zve_33 : zVe 33 3 := ⟨(zmA 4 47 (by decide +kernel) (by decide +kernel)), (zmA 4 48 (by decide +kernel) (by decide +kernel)), TX3, 7, rfl⟩
set_option maxRecDepth 100000 in
theorem zce_34 : zCe 34 1 := ⟨(zmA 1 2 (by decide +kernel) (by decide +kernel)), (zmA 1 44 rfl (by decide +kernel)), ⟨by decide +kernel, by decide +kernel, by decide +kernel⟩, by decide +kernel⟩
set_option maxRecDepth 100000 in
theorem zve_34 : zVe 34 4 := ⟨(zmA 1 42 (by decide +kernel) (by decide +kernel)), (zmA 1 43 (by decide +kernel) (by decide +kernel)), TX4, 6, rfl⟩
set_option maxRecDepth 100000 in
theorem zce_35 : zCe 35 1 := ⟨(zmA 1 2 (by decide +kernel) (by decide +kernel)), (zmA 3 105 rfl (by decide +kernel)), ⟨by decide +kernel, by decide +kernel, by decide +kernel⟩, by decide +kernel⟩
set_option maxRecDepth 100000 in
theorem zve_35 : zVe 35 4 := ⟨(zmA 3 103 (by decide +kernel) (by decide +kernel)), (zmA 3 104 (by decide +kernel) (by decide +kernel)), TX4, 6, rfl⟩
set_option maxRecDepth 100000 in
theorem zce_36 : zCe 36 1 := ⟨(zmA 1 2 (by decide +kernel) (by decide +kernel)), (zmA 3 142 rfl (by decide +kernel)), ⟨by decide +kernel, by decide +kernel, by decide +kernel⟩, by decide +kernel⟩
set_option maxRecDepth 100000 in
theorem zve_36 : zVe 36 4 := ⟨(zmA 3 140 (by decide +kernel) (by decide +kernel)), (zmA 3 141 (by decide +kernel) (by decide +kernel)), TX4, 6, rfl⟩
set_option maxRecDepth 100000 in
theorem zce_37 : zCe 37 2 := ⟨(zmA 1 2 (by decide +kernel) (by decide +kernel)), (zmA 3 146 rfl (by decide +kernel)), ⟨by decide +kernel, by decide +kernel, by decide +kernel⟩, by decide +kernel⟩
set_option maxRecDepth 100000 in
theorem zve_37 : zVe 37 4 := ⟨(zmA 3 144 (by decide +kernel) (by decide +kernel)), (zmA 3 145 (by decide +kernel) (by decide +kernel)), TX4, 6, rfl⟩
set_option maxRecDepth 100000 in
theorem zce_38 : zCe 38 2 := ⟨(zmA 1 2 (by decide +kernel) (by decide +kernel)), (zmA 6 145 rfl (by decide +kernel)), ⟨by decide +kernel, by decide +kernel, by decide +kernel⟩, by decide +kernel⟩
set_option maxRecDepth 100000 in
theorem zve_38 : zVe 38 4 := ⟨(zmA 6 143 (by decide +kernel) (by decide +kernel)), (zmA 6 144 (by decide +kernel) (by decide +kernel)), TX4, 6, rfl⟩
set_option maxRecDepth 100000 in
theorem zce_39 : zCe 39 2 := ⟨(zmA 1 2 (by decide +kernel) (by decide +kernel)), (zmA 4 90 rfl (by decide +kernel)), ⟨by decide +kernel, by decide +kernel, by decide +kernel⟩, by decide +kernel⟩
set_option maxRecDepth 100000 in
theorem zve_39 : zVe 39 4 := ⟨(zmA 4 88 (by decide +kernel) (by decide +kernel)), (zmA 4 89 (by decide +kernel) (by decide +kernel)), TX4, 6, rfl⟩
set_option maxRecDepth 100000 in
theorem zce_40 : zCe 40 4 := ⟨(zmA 1 2 (by decide +kernel) (by decide +kernel)), (zmA 3 117 rfl (by decide +kernel)), ⟨by decide +kernel, by decide +kernel, by decide +kernel⟩, by decide +kernel⟩
set_option maxRecDepth 100000 in
theorem zve_40 : zVe 40 4 := ⟨(zmA 3 115 (by decide +kernel) (by decide +kernel)), (zmA 3 116 (by decide +kernel) (by decide +kernel)), TX4, 6, rfl⟩
set_option maxRecDepth 100000 in
theorem zce_41 : zCe 41 2 := ⟨(zmA 1 2 (by decide +kernel) (by decide +kernel)), (zmA 3 120 rfl (by decide +kernel)), ⟨by decide +kernel, by decide +kernel, by decide +kernel⟩, by decide +kernel⟩
theorem zve_41 : Cond.static (zMt 41).1 ∈ zTb := (zmA 3 119 (by decide +kernel) (by decide +kernel))
set_option maxRecDepth 100000 in
theorem zce_42 : zCe 42 0 := ⟨(zmA 1 5 (by decide +kernel) (by decide +kernel)), (zmA 4 181 rfl (by decide +kernel)), ⟨by decide +kernel, by decide +kernel, by decide +kernel⟩, by decide +kernel⟩
set_option maxRecDepth 100000 in
theorem zve_42 : zVe 42 5 := ⟨(zmA 4 179 (by decide +kernel) (by decide +kernel)), (zmA 4 180 (by decide +kernel) (by decide +kernel)), TX5, 2, rfl⟩
set_option maxRecDepth 100000 in
theorem zce_43 : zCe 43 1 := ⟨(zmA 1 5 (by decide +kernel) (by decide +kernel)), (zmA 4 185 rfl (by decide +kernel)), ⟨by decide +kernel, by decide +kernel, by decide +kernel⟩, by decide +kernel⟩
set_option maxRecDepth 100000 in
theorem zve_43 : zVe 43 5 := ⟨(zmA 4 183 (by decide +kernel) (by decide +kernel)), (zmA 4 184 (by decide +kernel) (by decide +kernel)), TX5, 2, rfl⟩
set_option maxRecDepth 100000 in
theorem zce_44 : zCe 44 1 := ⟨(zmA 1 5 (by decide +kernel) (by decide +kernel)), (zmA 4 177 rfl (by decide +kernel)), ⟨by decide +kernel, by decide +kernel, by decide +kernel⟩, by decide +kernel⟩
set_option maxRecDepth 100000 in
theorem zve_44 : zVe 44 5 := ⟨(zmA 4 175 (by decide +kernel) (by decide +kernel)), (zmA 4 176 (by decide +kernel) (by decide +kernel)), TX5, 2, rfl⟩
set_option maxRecDepth 100000 in
theorem zce_45 : zCe 45 2 := ⟨(zmA 1 5 (by decide +kernel) (by decide +kernel)), (zmA 5 29 rfl (by decide +kernel)), ⟨by decide +kernel, by decide +kernel, by decide +kernel⟩, by decide +kernel⟩
set_option maxRecDepth 100000 in
theorem zve_45 : zVe 45 5 := ⟨(zmA 5 27 (by decide +kernel) (by decide +kernel)), (zmA 5 28 (by decide +kernel) (by decide +kernel)), TX5, 2, rfl⟩
set_option maxRecDepth 100000 in
theorem zce_46 : zCe 46 1 := ⟨(zmA 1 4 (by decide +kernel) (by decide +kernel)), (zmA 3 154 rfl (by decide +kernel)), ⟨by decide +kernel, by decide +kernel, by decide +kernel⟩, by decide +kernel⟩
set_option maxRecDepth 100000 in
theorem zve_46 : zVe 46 6 := ⟨(zmA 3 152 (by decide +kernel) (by decide +kernel)), (zmA 3 153 (by decide +kernel) (by decide +kernel)), TX6, 10, rfl⟩
set_option maxRecDepth 100000 in
theorem zce_47 : zCe 47 1 := ⟨(zmA 1 4 (by decide +kernel) (by decide +kernel)), (zmA 3 162 rfl (by decide +kernel)), ⟨by decide +kernel, by decide +kernel, by decide +kernel⟩, by decide +kernel⟩
set_option maxRecDepth 100000 in
theorem zve_47 : zVe 47 6 := ⟨(zmA 3 160 (by decide +kernel) (by decide +kernel)), (zmA 3 161 (by decide +kernel) (by decide +kernel)), TX6, 10, rfl⟩
set_option maxRecDepth 100000 in
theorem zce_48 : zCe 48 0 := ⟨(zmA 1 4 (by decide +kernel) (by decide +kernel)), (zmA 3 170 rfl (by decide +kernel)), ⟨by decide +kernel, by decide +kernel, by decide +kernel⟩, by decide +kernel⟩
set_option maxRecDepth 100000 in
theorem zve_48 : zVe 48 6 := ⟨(zmA 3 168 (by decide +kernel) (by decide +kernel)), (zmA 3 169 (by decide +kernel) (by decide +kernel)), TX6, 10, rfl⟩
set_option maxRecDepth 100000 in
theorem zce_49 : zCe 49 2 := ⟨(zmA 1 4 (by decide +kernel) (by decide +kernel)), (zmA 3 175 rfl (by decide +kernel)), ⟨by decide +kernel, by decide +kernel, by decide +kernel⟩, by decide +kernel⟩
set_option maxRecDepth 100000 in
theorem zve_49 : zVe 49 6 := ⟨(zmA 3 174 (by decide +kernel) (by decide +kernel)), (zmA 0 0 (by decide +kernel) (by decide +kernel)), TX6, 10, rfl⟩
set_option maxRecDepth 100000 in
theorem zce_50 : zCe 50 1 := ⟨(zmA 1 4 (by decide +kernel) (by decide +kernel)), (zmA 3 179 rfl (by decide +kernel)), ⟨by decide +kernel, by decide +kernel, by decide +kernel⟩, by decide +kernel⟩
set_option maxRecDepth 100000 in
theorem zve_50 : zVe 50 6 := ⟨(zmA 3 178 (by decide +kernel) (by decide +kernel)), (zmA 0 1 (by decide +kernel) (by decide +kernel)), TX6, 10, rfl⟩
set_option maxRecDepth 100000 in
theorem zce_51 : zCe 51 1 := ⟨(zmA 1 4 (by decide +kernel) (by decide +kernel)), (zmA 3 183 rfl (by decide +kernel)), ⟨by decide +kernel, by decide +kernel, by decide +kernel⟩, by decide +kernel⟩
set_option maxRecDepth 100000 in
theorem zve_51 : zVe 51 6 := ⟨(zmA 3 182 (by decide +kernel) (by decide +kernel)), (zmA 0 2 (by decide +kernel) (by decide +kernel)), TX6, 10, rfl⟩
set_option maxRecDepth 100000 in
theorem zce_52 : zCe 52 0 := ⟨(zmA 1 4 (by decide +kernel) (by decide +kernel)), (zmA 3 190 rfl (by decide +kernel)), ⟨by decide +kernel, by decide +kernel, by decide +kernel⟩, by decide +kernel⟩
set_option maxRecDepth 100000 in
theorem zve_52 : zVe 52 6 := ⟨(zmA 3 189 (by decide +kernel) (by decide +kernel)), (zmA 0 3 (by decide +kernel) (by decide +kernel)), TX6, 10, rfl⟩
set_option maxRecDepth 100000 in
theorem zce_53 : zCe 53 1 := ⟨(zmA 1 4 (by decide +kernel) (by decide +kernel)), (zmA 3 186 rfl (by decide +kernel)), ⟨by decide +kernel, by decide +kernel, by decide +kernel⟩, by decide +kernel⟩
theorem zve_53 : Cond.static (zMt 53).1 ∈ zTb := (zmA 3 185 (by decide +kernel) (by decide +kernel))
set_option maxRecDepth 100000 in
theorem zce_54 : zCe 54 2 := ⟨(zmA 1 4 (by decide +kernel) (by decide +kernel)), (zmA 4 40 rfl (by decide +kernel)), ⟨by decide +kernel, by decide +kernel, by decide +kernel⟩, by decide +kernel⟩
theorem zve_54 : Cond.static (zMt 54).1 ∈ zTb := (zmA 4 39 (by decide +kernel) (by decide +kernel))
set_option maxRecDepth 100000 in
theorem zce_55 : zCe 55 1 := ⟨(zmA 1 4 (by decide +kernel) (by decide +kernel)), (zmA 3 194 rfl (by decide +kernel)), ⟨by decide +kernel, by decide +kernel, by decide +kernel⟩, by decide +kernel⟩
set_option maxRecDepth 100000 in
theorem zve_55 : zVe 55 6 := ⟨(zmA 3 193 (by decide +kernel) (by decide +kernel)), (zmA 0 4 (by decide +kernel) (by decide +kernel)), TX6, 10, rfl⟩
set_option maxRecDepth 100000 in
theorem zce_56 : zCe 56 0 := ⟨(zmA 1 4 (by decide +kernel) (by decide +kernel)), (zmA 4 94 rfl (by decide +kernel)), ⟨by decide +kernel, by decide +kernel, by decide +kernel⟩, by decide +kernel⟩
set_option maxRecDepth 100000 in
theorem zve_56 : zVe 56 6 := ⟨(zmA 4 92 (by decide +kernel) (by decide +kernel)), (zmA 4 93 (by decide +kernel) (by decide +kernel)), TX6, 10, rfl⟩
set_option maxRecDepth 100000 in
theorem zce_57 : zCe 57 1 := ⟨(zmA 1 6 (by decide +kernel) (by decide +kernel)), (zmA 4 204 rfl (by decide +kernel)), ⟨by decide +kernel, by decide +kernel, by decide +kernel⟩, by decide +kernel⟩
set_option maxRecDepth 100000 in
theorem zve_57 : zVe 57 7 := ⟨(zmA 4 202 (by decide +kernel) (by decide +kernel)), (zmA 4 203 (by decide +kernel) (by decide +kernel)), TX7, 7, rfl⟩
set_option maxRecDepth 100000 in
theorem zce_58 : zCe 58 1 := ⟨(zmA 1 6 (by decide +kernel) (by decide +kernel)), (zmA 4 106 rfl (by decide +kernel)), ⟨by decide +kernel, by decide +kernel, by decide +kernel⟩, by decide +kernel⟩
set_option maxRecDepth 100000 in
theorem zve_58 : zVe 58 7 := ⟨(zmA 4 104 (by decide +kernel) (by decide +kernel)), (zmA 4 105 (by decide +kernel) (by decide +kernel)), TX7, 7, rfl⟩
set_option maxRecDepth 100000 in
theorem zce_59 : zCe 59 1 := ⟨(zmA 1 6 (by decide +kernel) (by decide +kernel)), (zmA 4 82 rfl (by decide +kernel)), ⟨by decide +kernel, by decide +kernel, by decide +kernel⟩, by decide +kernel⟩
set_option maxRecDepth 100000 in
theorem zve_59 : zVe 59 7 := ⟨(zmA 4 80 (by decide +kernel) (by decide +kernel)), (zmA 4 81 (by decide +kernel) (by decide +kernel)), TX7, 7, rfl⟩

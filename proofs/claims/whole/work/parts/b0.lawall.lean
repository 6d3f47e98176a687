-- needs ax
/-! the law's cases, its loop (laid by wip/whole/gen_all.py) -/
def zLpc : List Nat := [260, 285, 334, 395, 448, 485, 522, 547, 572, 585, 662, 687, 712, 765, 833, 870, 883, 908, 945, 994, 1019, 1044, 1069, 1082, 1107, 1132, 1145, 1158, 1183, 1232, 1281, 1306, 1331, 1356, 1405, 1442, 1479, 1492, 1517, 1542, 1555, 1568, 1605, 1642, 1667, 1692, 1705, 1730, 1755, 1780, 1805, 1830]
section
variable {g : zG} {d : Nat} {μ : zM} {nn : Int} {b L i : Nat} {xs : Nat → Int32}
variable {p : Program} {e : Env} {R : Room} {s : State} {m : MethodId} {args : Array Value} {below : List Frame} {meth : Method} {cc : Code} {H : Heap} {locs : List Loc} {cells slots : Nat} {Q : State → Prop} {ls : Array Slot}
theorem zl_all0 (hl : g.1.stackTraces = false) (hd : 401 ≤ d) (C : zCx g d mLaw p R s m args cc cells slots) (hx : zXs g s) (hX : va_X b L xs s s.heap) (hb : b < s.heap.size) (hbA : ¬ zA g b) (hi : i + 4 < L) (hL : L ≤ 2560) (hr : zRel g μ H) (hS : va_S (zA g) s.heap H locs) (hlv : lv_has ls 7 (zLl g b i)) (hf : cells + 1 ≤ R.cells ∧ slots + 6 ≤ R.slots) (inv : zInv nn μ) (hn : nn + 1 ≤ 512)
    (nx : ∀ (μ' : zM) (H' : Heap) (locs' : List Loc) (ls' : Array Slot), zRel g μ' H' → va_S (zA g) s.heap H' locs' → lv_has ls' 7 (zLl g b i) → zInv (nn + 1) μ' → W p g.1 e R s m args below meth cc H' locs' (cells + 1) (slots + 6) Q (F0 m 1886 ls' [])) : ∀ j : Nat, j < 13 → W p g.1 e R s m args below meth cc H locs cells slots Q (F0 m (zLpc.getD (0 + j) 0) ls []) := by
  intro j hj
  match j, hj with
  | 0, _ => exact zl_case (as := [(1, false)]) (pc := 260) (pc1 := 267) (iC := 23) (pc2 := 277) (iM := 26) (idC := 108) (idM := 170) (n := 1) C hX hb hbA hi hL (by omega) hr hS hlv nx rfl (by decide +kernel) zl_23 zl_26 (zb_ring (by omega) inv hn (zLx_ok _ _ _))
  | 1, _ => exact zl_case (as := [(1, false), (2, false), (3, false)]) (pc := 285) (pc1 := 304) (iC := 27) (pc2 := 326) (iM := 31) (idC := 109) (idM := 172) (n := 3) C hX hb hbA hi hL (by omega) hr hS hlv nx rfl (by decide +kernel) zl_27 zl_31 (zb_stall (by omega) inv hn (zLx_ok _ _ _) (zLx_ok _ _ _) (zLx_ok _ _ _))
  | 2, _ => exact zl_case (as := [(1, false), (2, false), (3, false), (4, false)]) (pc := 334) (pc1 := 359) (iC := 32) (pc2 := 387) (iM := 36) (idC := 110) (idM := 173) (n := 4) C hX hb hbA hi hL (by omega) hr hS hlv nx rfl (by decide +kernel) zl_32 zl_36 (zb_sheet (by omega) inv hn (zLx_ok _ _ _) (zLx_ok _ _ _) (zLx_ok _ _ _) (zLx_ok _ _ _))
  | 3, _ => exact zl_case (as := [(1, false), (2, true)]) (pc := 395) (pc1 := 416) (iC := 37) (pc2 := 440) (iM := 41) (idC := 111) (idM := 174) (n := 2) C hX hb hbA hi hL (by omega) hr hS hlv nx rfl (by decide +kernel) zl_37 zl_41 (zb_shut (by omega) inv hn (zLx_ok _ _ _) (zLx_ok _ _ _) (zLx_b _ _ _))
  | 4, _ => exact zl_case (as := [(1, false), (2, false)]) (pc := 448) (pc1 := 461) (iC := 42) (pc2 := 477) (iM := 45) (idC := 112) (idM := 175) (n := 2) C hX hb hbA hi hL (by omega) hr hS hlv nx rfl (by decide +kernel) zl_42 zl_45 (zb_set (by omega) inv hn (zLx_ok _ _ _) (zLx_ok _ _ _))
  | 5, _ => exact zl_case (as := [(1, false), (2, false)]) (pc := 485) (pc1 := 498) (iC := 46) (pc2 := 514) (iM := 49) (idC := 113) (idM := 177) (n := 2) C hX hb hbA hi hL (by omega) hr hS hlv nx rfl (by decide +kernel) zl_46 zl_49 (zb_steps (by omega) inv hn (zLx_ok _ _ _) (zLx_ok _ _ _))
  | 6, _ => exact zl_case (as := [(1, false)]) (pc := 522) (pc1 := 529) (iC := 50) (pc2 := 539) (iM := 53) (idC := 114) (idM := 178) (n := 1) C hX hb hbA hi hL (by omega) hr hS hlv nx rfl (by decide +kernel) zl_50 zl_53 (zb_sign (by omega) inv hn (zLx_ok _ _ _))
  | 7, _ => exact zl_case (as := [(1, false)]) (pc := 547) (pc1 := 554) (iC := 54) (pc2 := 564) (iM := 58) (idC := 115) (idM := 179) (n := 1) C hX hb hbA hi hL (by omega) hr hS hlv nx rfl (by decide +kernel) zl_54 zl_58 (zb_end (by omega) inv hn (zLx_ok _ _ _))
  | 8, _ => exact zl_case (as := []) (pc := 572) (pc1 := 573) (iC := 59) (pc2 := 577) (iM := 63) (idC := 116) (idM := 190) (n := 0) C hX hb hbA hi hL (by omega) hr hS hlv nx rfl (by decide +kernel) zl_59 zl_63 (zb_rule (by omega) inv hn)
  | 9, _ => exact zl_case (as := [(1, false), (2, false), (3, false), (4, true)]) (pc := 585) (pc1 := 618) (iC := 64) (pc2 := 654) (iM := 68) (idC := 117) (idM := 192) (n := 4) C hX hb hbA hi hL (by omega) hr hS hlv nx rfl (by decide +kernel) zl_64 zl_68 (zb_engine (by omega) inv hn (zLx_ok _ _ _) (zLx_ok _ _ _) (zLx_ok _ _ _) (zLx_ok _ _ _) (zLx_b _ _ _))
  | 10, _ => exact zl_case (as := [(1, false)]) (pc := 662) (pc1 := 669) (iC := 69) (pc2 := 679) (iM := 72) (idC := 118) (idM := 195) (n := 1) C hX hb hbA hi hL (by omega) hr hS hlv nx rfl (by decide +kernel) zl_69 zl_72 (zb_light (by omega) inv hn (zLx_ok _ _ _))
  | 11, _ => exact zl_case (as := [(1, false)]) (pc := 687) (pc1 := 694) (iC := 73) (pc2 := 704) (iM := 76) (idC := 119) (idM := 196) (n := 1) C hX hb hbA hi hL (by omega) hr hS hlv nx rfl (by decide +kernel) zl_73 zl_76 (zb_drop (by omega) inv hn (zLx_ok _ _ _))
  | 12, _ => exact zl_case (as := [(1, false), (2, true)]) (pc := 712) (pc1 := 733) (iC := 77) (pc2 := 757) (iM := 80) (idC := 120) (idM := 197) (n := 2) C hX hb hbA hi hL (by omega) hr hS hlv nx rfl (by decide +kernel) zl_77 zl_80 (zb_dead (by omega) inv hn (zLx_ok _ _ _) (zLx_ok _ _ _) (zLx_b _ _ _))
  | n + 13, h => exact absurd h (by omega)
theorem zl_all1 (hl : g.1.stackTraces = false) (hd : 401 ≤ d) (C : zCx g d mLaw p R s m args cc cells slots) (hx : zXs g s) (hX : va_X b L xs s s.heap) (hb : b < s.heap.size) (hbA : ¬ zA g b) (hi : i + 4 < L) (hL : L ≤ 2560) (hr : zRel g μ H) (hS : va_S (zA g) s.heap H locs) (hlv : lv_has ls 7 (zLl g b i)) (hf : cells + 1 ≤ R.cells ∧ slots + 6 ≤ R.slots) (inv : zInv nn μ) (hn : nn + 1 ≤ 512)
    (nx : ∀ (μ' : zM) (H' : Heap) (locs' : List Loc) (ls' : Array Slot), zRel g μ' H' → va_S (zA g) s.heap H' locs' → lv_has ls' 7 (zLl g b i) → zInv (nn + 1) μ' → W p g.1 e R s m args below meth cc H' locs' (cells + 1) (slots + 6) Q (F0 m 1886 ls' [])) : ∀ j : Nat, j < 13 → W p g.1 e R s m args below meth cc H locs cells slots Q (F0 m (zLpc.getD (13 + j) 0) ls []) := by
  intro j hj
  match j, hj with
  | 0, _ => exact zl_tcase (as := [(1, false), (2, false)]) (pc := 765) (pc1 := 778) (iC := 81) (pc2 := 797) (iM := 86) (idM := 202) (n := 2) C hx hX hb hbA hi hL (by omega) hr hS hlv hf nx rfl (by decide +kernel) zs_81 zl_86 (zb_of hl (by omega) inv hn)
  | 1, _ => exact zl_case (as := [(1, false), (2, false)]) (pc := 833) (pc1 := 846) (iC := 90) (pc2 := 862) (iM := 93) (idC := 122) (idM := 204) (n := 2) C hX hb hbA hi hL (by omega) hr hS hlv nx rfl (by decide +kernel) zl_90 zl_93 (zb_takes (by omega) inv hn (zLx_ok _ _ _) (zLx_ok _ _ _))
  | 2, _ => exact zl_case (as := []) (pc := 870) (pc1 := 871) (iC := 94) (pc2 := 875) (iM := 97) (idC := 123) (idM := 206) (n := 0) C hX hb hbA hi hL (by omega) hr hS hlv nx rfl (by decide +kernel) zl_94 zl_97 (zb_smoke (by omega) inv hn)
  | 3, _ => exact zl_case (as := [(1, false)]) (pc := 883) (pc1 := 890) (iC := 98) (pc2 := 900) (iM := 101) (idC := 124) (idM := 207) (n := 1) C hX hb hbA hi hL (by omega) hr hS hlv nx rfl (by decide +kernel) zl_98 zl_101 (zb_pass (by omega) inv hn (zLx_ok _ _ _))
  | 4, _ => exact zl_case (as := [(1, false), (2, false)]) (pc := 908) (pc1 := 921) (iC := 102) (pc2 := 937) (iM := 105) (idC := 125) (idM := 214) (n := 2) C hX hb hbA hi hL (by omega) hr hS hlv nx rfl (by decide +kernel) zl_102 zl_105 (zb_move (by omega) inv hn (zLx_ok _ _ _) (zLx_ok _ _ _))
  | 5, _ => exact zl_case (as := [(1, false), (2, false), (3, false)]) (pc := 945) (pc1 := 964) (iC := 106) (pc2 := 986) (iM := 110) (idC := 126) (idM := 215) (n := 3) C hX hb hbA hi hL (by omega) hr hS hlv nx rfl (by decide +kernel) zl_106 zl_110 (zb_drag (by omega) inv hn (zLx_ok _ _ _) (zLx_ok _ _ _) (zLx_ok _ _ _))
  | 6, _ => exact zl_case (as := [(1, false)]) (pc := 994) (pc1 := 1001) (iC := 111) (pc2 := 1011) (iM := 114) (idC := 127) (idM := 217) (n := 1) C hX hb hbA hi hL (by omega) hr hS hlv nx rfl (by decide +kernel) zl_111 zl_114 (zb_free (by omega) inv hn (zLx_ok _ _ _))
  | 7, _ => exact zl_case (as := [(1, false)]) (pc := 1019) (pc1 := 1026) (iC := 115) (pc2 := 1036) (iM := 118) (idC := 128) (idM := 222) (n := 1) C hX hb hbA hi hL (by omega) hr hS hlv nx rfl (by decide +kernel) zl_115 zl_118 (zb_order (by omega) inv hn (zLx_ok _ _ _))
  | 8, _ => exact zl_case (as := [(1, false)]) (pc := 1044) (pc1 := 1051) (iC := 119) (pc2 := 1061) (iM := 122) (idC := 129) (idM := 224) (n := 1) C hX hb hbA hi hL (by omega) hr hS hlv nx rfl (by decide +kernel) zl_119 zl_122 (zb_clear (by omega) inv hn (zLx_ok _ _ _))
  | 9, _ => exact zl_case (as := []) (pc := 1069) (pc1 := 1070) (iC := 123) (pc2 := 1074) (iM := 126) (idC := 130) (idM := 226) (n := 0) C hX hb hbA hi hL (by omega) hr hS hlv nx rfl (by decide +kernel) zl_123 zl_126 (zb_under (by omega) inv hn)
  | 10, _ => exact zl_case (as := [(1, false)]) (pc := 1082) (pc1 := 1089) (iC := 127) (pc2 := 1099) (iM := 130) (idC := 131) (idM := 227) (n := 1) C hX hb hbA hi hL (by omega) hr hS hlv nx rfl (by decide +kernel) zl_127 zl_130 (zb_comes (by omega) inv hn (zLx_ok _ _ _))
  | 11, _ => exact zl_case (as := [(1, false)]) (pc := 1107) (pc1 := 1114) (iC := 131) (pc2 := 1124) (iM := 134) (idC := 132) (idM := 228) (n := 1) C hX hb hbA hi hL (by omega) hr hS hlv nx rfl (by decide +kernel) zl_131 zl_134 (zb_leaves (by omega) inv hn (zLx_ok _ _ _))
  | 12, _ => exact zl_case (as := []) (pc := 1132) (pc1 := 1133) (iC := 135) (pc2 := 1137) (iM := 138) (idC := 133) (idM := 230) (n := 0) C hX hb hbA hi hL (by omega) hr hS hlv nx rfl (by decide +kernel) zl_135 zl_138 (zb_nobody (by omega) inv hn)
  | n + 13, h => exact absurd h (by omega)
theorem zl_all2 (hl : g.1.stackTraces = false) (hd : 401 ≤ d) (C : zCx g d mLaw p R s m args cc cells slots) (hx : zXs g s) (hX : va_X b L xs s s.heap) (hb : b < s.heap.size) (hbA : ¬ zA g b) (hi : i + 4 < L) (hL : L ≤ 2560) (hr : zRel g μ H) (hS : va_S (zA g) s.heap H locs) (hlv : lv_has ls 7 (zLl g b i)) (hf : cells + 1 ≤ R.cells ∧ slots + 6 ≤ R.slots) (inv : zInv nn μ) (hn : nn + 1 ≤ 512)
    (nx : ∀ (μ' : zM) (H' : Heap) (locs' : List Loc) (ls' : Array Slot), zRel g μ' H' → va_S (zA g) s.heap H' locs' → lv_has ls' 7 (zLl g b i) → zInv (nn + 1) μ' → W p g.1 e R s m args below meth cc H' locs' (cells + 1) (slots + 6) Q (F0 m 1886 ls' [])) : ∀ j : Nat, j < 13 → W p g.1 e R s m args below meth cc H locs cells slots Q (F0 m (zLpc.getD (26 + j) 0) ls []) := by
  intro j hj
  match j, hj with
  | 0, _ => exact zl_case (as := []) (pc := 1145) (pc1 := 1146) (iC := 139) (pc2 := 1150) (iM := 142) (idC := 134) (idM := 236) (n := 0) C hX hb hbA hi hL (by omega) hr hS hlv nx rfl (by decide +kernel) zl_139 zl_142 (zb_put (by omega) inv hn)
  | 1, _ => exact zl_case (as := [(1, false)]) (pc := 1158) (pc1 := 1165) (iC := 143) (pc2 := 1175) (iM := 146) (idC := 135) (idM := 239) (n := 1) C hX hb hbA hi hL (by omega) hr hS hlv nx rfl (by decide +kernel) zl_143 zl_146 (zb_room (by omega) inv hn (zLx_ok _ _ _))
  | 2, _ => exact zl_case (as := [(1, false), (2, false), (3, false)]) (pc := 1183) (pc1 := 1202) (iC := 147) (pc2 := 1224) (iM := 150) (idC := 136) (idM := 240) (n := 3) C hX hb hbA hi hL (by omega) hr hS hlv nx rfl (by decide +kernel) zl_147 zl_150 (zb_coal (by omega) inv hn (zLx_ok _ _ _) (zLx_ok _ _ _) (zLx_ok _ _ _))
  | 3, _ => exact zl_case (as := [(1, false), (2, false), (3, false)]) (pc := 1232) (pc1 := 1251) (iC := 151) (pc2 := 1273) (iM := 154) (idC := 137) (idM := 241) (n := 3) C hX hb hbA hi hL (by omega) hr hS hlv nx rfl (by decide +kernel) zl_151 zl_154 (zb_wants (by omega) inv hn (zLx_ok _ _ _) (zLx_ok _ _ _) (zLx_ok _ _ _))
  | 4, _ => exact zl_case (as := [(1, false)]) (pc := 1281) (pc1 := 1288) (iC := 155) (pc2 := 1298) (iM := 158) (idC := 138) (idM := 245) (n := 1) C hX hb hbA hi hL (by omega) hr hS hlv nx rfl (by decide +kernel) zl_155 zl_158 (zb_coaled (by omega) inv hn (zLx_ok _ _ _))
  | 5, _ => exact zl_case (as := [(1, false)]) (pc := 1306) (pc1 := 1313) (iC := 159) (pc2 := 1323) (iM := 162) (idC := 139) (idM := 246) (n := 1) C hX hb hbA hi hL (by omega) hr hS hlv nx rfl (by decide +kernel) zl_159 zl_162 (zb_fill (by omega) inv hn (zLx_ok _ _ _))
  | 6, _ => exact zl_case (as := [(1, false)]) (pc := 1331) (pc1 := 1338) (iC := 163) (pc2 := 1348) (iM := 166) (idC := 140) (idM := 248) (n := 1) C hX hb hbA hi hL (by omega) hr hS hlv nx rfl (by decide +kernel) zl_163 zl_166 (zb_burns (by omega) inv hn (zLx_ok _ _ _))
  | 7, _ => exact zl_case (as := [(1, false), (2, false), (3, false)]) (pc := 1356) (pc1 := 1375) (iC := 167) (pc2 := 1397) (iM := 170) (idC := 141) (idM := 249) (n := 3) C hX hb hbA hi hL (by omega) hr hS hlv nx rfl (by decide +kernel) zl_167 zl_170 (zb_train (by omega) inv hn (zLx_ok _ _ _) (zLx_ok _ _ _) (zLx_ok _ _ _))
  | 8, _ => exact zl_case (as := [(1, false), (2, false)]) (pc := 1405) (pc1 := 1418) (iC := 171) (pc2 := 1434) (iM := 175) (idC := 142) (idM := 251) (n := 2) C hX hb hbA hi hL (by omega) hr hS hlv nx rfl (by decide +kernel) zl_171 zl_175 (zb_plan (by omega) inv hn (zLx_ok _ _ _) (zLx_ok _ _ _))
  | 9, _ => exact zl_case (as := [(1, false), (2, false)]) (pc := 1442) (pc1 := 1455) (iC := 176) (pc2 := 1471) (iM := 179) (idC := 143) (idM := 253) (n := 2) C hX hb hbA hi hL (by omega) hr hS hlv nx rfl (by decide +kernel) zl_176 zl_179 (zb_fits (by omega) inv hn (zLx_ok _ _ _) (zLx_ok _ _ _))
  | 10, _ => exact zl_case (as := []) (pc := 1479) (pc1 := 1480) (iC := 180) (pc2 := 1484) (iM := 183) (idC := 144) (idM := 257) (n := 0) C hX hb hbA hi hL (by omega) hr hS hlv nx rfl (by decide +kernel) zl_180 zl_183 (zb_most (by omega) inv hn)
  | 11, _ => exact zl_case (as := [(1, false)]) (pc := 1492) (pc1 := 1499) (iC := 184) (pc2 := 1509) (iM := 187) (idC := 145) (idM := 258) (n := 1) C hX hb hbA hi hL (by omega) hr hS hlv nx rfl (by decide +kernel) zl_184 zl_187 (zb_fails (by omega) inv hn (zLx_ok _ _ _))
  | 12, _ => exact zl_case (as := [(1, false)]) (pc := 1517) (pc1 := 1524) (iC := 188) (pc2 := 1534) (iM := 191) (idC := 146) (idM := 259) (n := 1) C hX hb hbA hi hL (by omega) hr hS hlv nx rfl (by decide +kernel) zl_188 zl_191 (zb_soonest (by omega) inv hn (zLx_ok _ _ _))
  | n + 13, h => exact absurd h (by omega)
theorem zl_all3 (hl : g.1.stackTraces = false) (hd : 401 ≤ d) (C : zCx g d mLaw p R s m args cc cells slots) (hx : zXs g s) (hX : va_X b L xs s s.heap) (hb : b < s.heap.size) (hbA : ¬ zA g b) (hi : i + 4 < L) (hL : L ≤ 2560) (hr : zRel g μ H) (hS : va_S (zA g) s.heap H locs) (hlv : lv_has ls 7 (zLl g b i)) (hf : cells + 1 ≤ R.cells ∧ slots + 6 ≤ R.slots) (inv : zInv nn μ) (hn : nn + 1 ≤ 512)
    (nx : ∀ (μ' : zM) (H' : Heap) (locs' : List Loc) (ls' : Array Slot), zRel g μ' H' → va_S (zA g) s.heap H' locs' → lv_has ls' 7 (zLl g b i) → zInv (nn + 1) μ' → W p g.1 e R s m args below meth cc H' locs' (cells + 1) (slots + 6) Q (F0 m 1886 ls' [])) : ∀ j : Nat, j < 13 → W p g.1 e R s m args below meth cc H locs cells slots Q (F0 m (zLpc.getD (39 + j) 0) ls []) := by
  intro j hj
  match j, hj with
  | 0, _ => exact zl_case (as := []) (pc := 1542) (pc1 := 1543) (iC := 192) (pc2 := 1547) (iM := 195) (idC := 147) (idM := 260) (n := 0) C hX hb hbA hi hL (by omega) hr hS hlv nx rfl (by decide +kernel) zl_192 zl_195 (zb_wrong (by omega) inv hn)
  | 1, _ => exact zl_case (as := []) (pc := 1555) (pc1 := 1556) (iC := 196) (pc2 := 1560) (iM := 199) (idC := 148) (idM := 262) (n := 0) C hX hb hbA hi hL (by omega) hr hS hlv nx rfl (by decide +kernel) zl_196 zl_199 (zb_exchange (by omega) inv hn)
  | 2, _ => exact zl_case (as := [(1, false), (2, false)]) (pc := 1568) (pc1 := 1581) (iC := 200) (pc2 := 1597) (iM := 203) (idC := 149) (idM := 265) (n := 2) C hX hb hbA hi hL (by omega) hr hS hlv nx rfl (by decide +kernel) zl_200 zl_203 (zb_crews (by omega) inv hn (zLx_ok _ _ _) (zLx_ok _ _ _))
  | 3, _ => exact zl_case (as := [(1, false), (2, false)]) (pc := 1605) (pc1 := 1618) (iC := 204) (pc2 := 1634) (iM := 207) (idC := 150) (idM := 268) (n := 2) C hX hb hbA hi hL (by omega) hr hS hlv nx rfl (by decide +kernel) zl_204 zl_207 (zb_fires (by omega) inv hn (zLx_ok _ _ _) (zLx_ok _ _ _))
  | 4, _ => exact zl_case (as := [(1, false)]) (pc := 1642) (pc1 := 1649) (iC := 208) (pc2 := 1659) (iM := 211) (idC := 151) (idM := 269) (n := 1) C hX hb hbA hi hL (by omega) hr hS hlv nx rfl (by decide +kernel) zl_208 zl_211 (zb_men (by omega) inv hn (zLx_ok _ _ _))
  | 5, _ => exact zl_case (as := [(1, false)]) (pc := 1667) (pc1 := 1674) (iC := 212) (pc2 := 1684) (iM := 215) (idC := 152) (idM := 270) (n := 1) C hX hb hbA hi hL (by omega) hr hS hlv nx rfl (by decide +kernel) zl_212 zl_215 (zb_frost (by omega) inv hn (zLx_ok _ _ _))
  | 6, _ => exact zl_case (as := []) (pc := 1692) (pc1 := 1693) (iC := 216) (pc2 := 1697) (iM := 219) (idC := 153) (idM := 275) (n := 0) C hX hb hbA hi hL (by omega) hr hS hlv nx rfl (by decide +kernel) zl_216 zl_219 (zb_morning (by omega) inv hn)
  | 7, _ => exact zl_case (as := [(1, false)]) (pc := 1705) (pc1 := 1712) (iC := 220) (pc2 := 1722) (iM := 223) (idC := 154) (idM := 276) (n := 1) C hX hb hbA hi hL (by omega) hr hS hlv nx rfl (by decide +kernel) zl_220 zl_223 (zb_why (by omega) inv hn (zLx_ok _ _ _))
  | 8, _ => exact zl_case (as := [(1, false)]) (pc := 1730) (pc1 := 1737) (iC := 224) (pc2 := 1747) (iM := 227) (idC := 155) (idM := 277) (n := 1) C hX hb hbA hi hL (by omega) hr hS hlv nx rfl (by decide +kernel) zl_224 zl_227 (zb_keep (by omega) inv hn (zLx_ok _ _ _))
  | 9, _ => exact zl_case (as := [(1, false)]) (pc := 1755) (pc1 := 1762) (iC := 228) (pc2 := 1772) (iM := 231) (idC := 156) (idM := 278) (n := 1) C hX hb hbA hi hL (by omega) hr hS hlv nx rfl (by decide +kernel) zl_228 zl_231 (zb_again (by omega) inv hn (zLx_ok _ _ _))
  | 10, _ => exact zl_case (as := [(1, false)]) (pc := 1780) (pc1 := 1787) (iC := 232) (pc2 := 1797) (iM := 235) (idC := 157) (idM := 279) (n := 1) C hX hb hbA hi hL (by omega) hr hS hlv nx rfl (by decide +kernel) zl_232 zl_235 (zb_count (by omega) inv hn (zLx_ok _ _ _))
  | 11, _ => exact zl_case (as := [(1, false)]) (pc := 1805) (pc1 := 1812) (iC := 236) (pc2 := 1822) (iM := 239) (idC := 158) (idM := 280) (n := 1) C hX hb hbA hi hL (by omega) hr hS hlv nx rfl (by decide +kernel) zl_236 zl_239 (zb_inside (by omega) inv hn (zLx_ok _ _ _))
  | 12, _ => exact zl_tcase (as := [(1, false)]) (pc := 1830) (pc1 := 1837) (iC := 240) (pc2 := 1850) (iM := 243) (idM := 281) (n := 1) C hx hX hb hbA hi hL (by omega) hr hS hlv hf nx rfl (by decide +kernel) zs_240 zl_243 (zb_row hl (by omega) inv hn)
  | n + 13, h => exact absurd h (by omega)
theorem zl_all (hl : g.1.stackTraces = false) (hd : 401 ≤ d) (C : zCx g d mLaw p R s m args cc cells slots) (hx : zXs g s) (hX : va_X b L xs s s.heap) (hb : b < s.heap.size) (hbA : ¬ zA g b) (hi : i + 4 < L) (hL : L ≤ 2560) (hr : zRel g μ H) (hS : va_S (zA g) s.heap H locs) (hlv : lv_has ls 7 (zLl g b i)) (hf : cells + 1 ≤ R.cells ∧ slots + 6 ≤ R.slots) (inv : zInv nn μ) (hn : nn + 1 ≤ 512)
    (nx : ∀ (μ' : zM) (H' : Heap) (locs' : List Loc) (ls' : Array Slot), zRel g μ' H' → va_S (zA g) s.heap H' locs' → lv_has ls' 7 (zLl g b i) → zInv (nn + 1) μ' → W p g.1 e R s m args below meth cc H' locs' (cells + 1) (slots + 6) Q (F0 m 1886 ls' [])) : ∀ j : Nat, j < 52 → W p g.1 e R s m args below meth cc H locs cells slots Q (F0 m (zLpc.getD j 0) ls []) := by
  intro j hj
  rcases Nat.lt_or_ge j 13 with h | h
  · have := zl_all0 hl hd C hx hX hb hbA hi hL hr hS hlv hf inv hn nx (j - 0) (by omega)
    rw [show 0 + (j - 0) = j from by omega] at this
    exact this
  rcases Nat.lt_or_ge j 26 with h | h
  · have := zl_all1 hl hd C hx hX hb hbA hi hL hr hS hlv hf inv hn nx (j - 13) (by omega)
    rw [show 13 + (j - 13) = j from by omega] at this
    exact this
  rcases Nat.lt_or_ge j 39 with h | h
  · have := zl_all2 hl hd C hx hX hb hbA hi hL hr hS hlv hf inv hn nx (j - 26) (by omega)
    rw [show 26 + (j - 26) = j from by omega] at this
    exact this
  have := zl_all3 hl hd C hx hX hb hbA hi hL hr hS hlv hf inv hn nx (j - 39) (by omega)
  rw [show 39 + (j - 39) = j from by omega] at this
  exact this
def zLof : Array Int := #[221, 246, 295, 356, 409, 446, 483, 508, 533, 546, 623, 648, 673, 726, 794, 831, 844, 869, 906, 955, 980, 1005, 1030, 1043, 1068, 1093, 1106, 1119, 1144, 1193, 1242, 1267, 1292, 1317, 1366, 1403, 1440, 1453, 1478, 1503, 1516, 1529, 1566, 1603, 1628, 1653, 1666, 1691, 1716, 1741, 1766, 1791]
theorem zLof_ok : ∀ j : Nat, j < 52 → zLof[j]? = some ((zLpc.getD j 0 : Int) - 39) := by decide +kernel
theorem zL_23 : decode mLaw.2.1 23 = .ok (.iload 4, 2) := by decide +kernel
theorem zL_25 : decode mLaw.2.1 25 = .ok (.aload_n 0, 1) := by decide +kernel
theorem zL_26 : decode mLaw.2.1 26 = .ok (.arraylength, 1) := by decide +kernel
theorem zL_27 : decode mLaw.2.1 27 = .ok (.iconst 5, 1) := by decide +kernel
theorem zL_28 : decode mLaw.2.1 28 = .ok (.isub, 1) := by decide +kernel
theorem zL_29 : decode mLaw.2.1 29 = .ok (.if_icmp .gt 1863, 3) := by decide +kernel
theorem zL_32 : decode mLaw.2.1 32 = .ok (.aload_n 0, 1) := by decide +kernel
theorem zL_33 : decode mLaw.2.1 33 = .ok (.iload 4, 2) := by decide +kernel
theorem zL_35 : decode mLaw.2.1 35 = .ok (.iaload, 1) := by decide +kernel
theorem zL_36 : decode mLaw.2.1 36 = .ok (.bipush 63, 2) := by decide +kernel
theorem zL_38 : decode mLaw.2.1 38 = .ok (.iand, 1) := by decide +kernel
theorem zL_39 : decode mLaw.2.1 39 = .ok (.tableswitch 1847 0 51 zLof, 221) := by decide +kernel
theorem zL_1886 : decode mLaw.2.1 1886 = .ok (.iinc 4 5, 3) := by decide +kernel
theorem zL_1889 : decode mLaw.2.1 1889 = .ok (.goto (-1866), 3) := by decide +kernel
theorem zL_1892 : decode mLaw.2.1 1892 = .ok (.iconst 1, 1) := by decide +kernel
theorem zl_loop (hl : g.1.stackTraces = false) (hd : 401 ≤ d) (C0 : zCx g d mLaw p R s m args cc 0 0) (hx : zXs g s) (hX : va_X b L xs s s.heap) (hb : b < s.heap.size) (hbA : ¬ zA g b) (hL : L ≤ 2560) {cmax smax : Nat} (hm : cmax ≤ R.cells ∧ smax ≤ R.slots)
    (fin : ∀ (H' : Heap) (locs' : List Loc) (ls' : Array Slot), va_S (zA g) s.heap H' locs' → W p g.1 e R s m args below meth cc H' locs' cmax smax Q (F0 m 1893 ls' [.int 1])) :
    ∀ (r k cells slots : Nat) (μ : zM) (H : Heap) (locs : List Loc) (ls : Array Slot), L ≤ 5 * k + 5 * r + 4 → cells + r ≤ cmax → slots + 6 * r ≤ smax → zRel g μ H → va_S (zA g) s.heap H locs → lv_has ls 7 (zLl g b (5 * k)) → zInv (k : Int) μ → W p g.1 e R s m args below meth cc H locs cells slots Q (F0 m 23 ls []) := by
  intro r
  induction r with
  | zero =>
    intro k cells slots μ H locs ls h1 h2 h3 hr hS hlv inv
    have C : zCx g d mLaw p R s m args cc cells slots := ⟨C0.1, C0.2.1, C0.2.2.1, C0.2.2.2.1, C0.2.2.2.2.1, C0.2.2.2.2.2.1, C0.2.2.2.2.2.2.1, C0.2.2.2.2.2.2.2.1, by omega, by omega⟩
    have kle : (k : Int) ≤ 512 := by obtain ⟨S, _, _, hI⟩ := inv; exact hI.1.2
    refine lv_iload (x := Int32.ofInt ((5 * k : Nat) : Int)) C.1 C.2.1 zL_23 (lv_at hlv 0 rfl) ?_
    refine lv_aload_n (i := 0) (x := b) C.1 C.2.1 zL_25 rfl (lv_at hlv 4 rfl) ?_
    refine va_slen C.1 C.2.1 hX hb hbA hS zL_26 ?_
    refine lv_iconst (v := Int32.ofInt 5) C.1 C.2.1 zL_27 rfl ?_
    refine lv_isub C.1 C.2.1 zL_28 ?_
    rw [← Int32.ofInt_eq_ofNat, ← Int32.ofInt_sub]
    have a1 : zI32 ((L : Int) - 5) := by unfold zI32; omega
    have a2 : zI32 ((5 * k : Nat) : Int) := by unfold zI32; omega
    refine lv_icmp_gt (tgt := 1892) C.1 C.2.1 zL_29 rfl (fun _ => ?_) (fun hc => absurd ((zof_lt a1 a2).mpr (by omega)) hc)
    refine lv_iconst (v := 1) C.1 C.2.1 zL_1892 rfl ?_
    refine W.widen (k := cmax) (n := smax) (by omega) (by omega) ?_
    exact fin H locs ls hS
  | succ r ih =>
    intro k cells slots μ H locs ls h1 h2 h3 hr hS hlv inv
    have C : zCx g d mLaw p R s m args cc cells slots := ⟨C0.1, C0.2.1, C0.2.2.1, C0.2.2.2.1, C0.2.2.2.2.1, C0.2.2.2.2.2.1, C0.2.2.2.2.2.2.1, C0.2.2.2.2.2.2.2.1, by omega, by omega⟩
    have C1 : zCx g d mLaw p R s m args cc (cells + 1) (slots + 6) := ⟨C0.1, C0.2.1, C0.2.2.1, C0.2.2.2.1, C0.2.2.2.2.1, C0.2.2.2.2.2.1, C0.2.2.2.2.2.2.1, C0.2.2.2.2.2.2.2.1, by omega, by omega⟩
    have kle : (k : Int) ≤ 512 := by obtain ⟨S, _, _, hI⟩ := inv; exact hI.1.2
    refine lv_iload (x := Int32.ofInt ((5 * k : Nat) : Int)) C.1 C.2.1 zL_23 (lv_at hlv 0 rfl) ?_
    refine lv_aload_n (i := 0) (x := b) C.1 C.2.1 zL_25 rfl (lv_at hlv 4 rfl) ?_
    refine va_slen C.1 C.2.1 hX hb hbA hS zL_26 ?_
    refine lv_iconst (v := Int32.ofInt 5) C.1 C.2.1 zL_27 rfl ?_
    refine lv_isub C.1 C.2.1 zL_28 ?_
    rw [← Int32.ofInt_eq_ofNat, ← Int32.ofInt_sub]
    have a1 : zI32 ((L : Int) - 5) := by unfold zI32; omega
    have a2 : zI32 ((5 * k : Nat) : Int) := by unfold zI32; omega
    refine lv_icmp_gt (tgt := 1892) C.1 C.2.1 zL_29 rfl (fun _ => ?_) (fun hc => ?_)
    · refine lv_iconst (v := 1) C.1 C.2.1 zL_1892 rfl ?_
      refine W.widen (k := cmax) (n := smax) (by omega) (by omega) ?_
      exact fin H locs ls hS
    have hi : 5 * k + 4 < L := by
      have : ¬ (L : Int) - 5 < ((5 * k : Nat) : Int) := fun z => hc ((zof_lt a1 a2).mpr z)
      omega
    have nx : ∀ (μ' : zM) (H' : Heap) (locs' : List Loc) (ls' : Array Slot), zRel g μ' H' → va_S (zA g) s.heap H' locs' → lv_has ls' 7 (zLl g b (5 * k)) → zInv ((k : Int) + 1) μ' → W p g.1 e R s m args below meth cc H' locs' (cells + 1) (slots + 6) Q (F0 m 1886 ls' []) := by
      intro μ' H' locs' ls' hr' hS' hlv' inv'
      refine lv_iinc (nL := 7) (k := 0) (x := Int32.ofInt ((5 * k : Nat) : Int)) (v := Int32.ofInt ((5 * k + 5 : Nat) : Int)) C1.1 C1.2.1 zL_1886 hlv' rfl (by rw [← Int32.ofInt_add]; rfl) (by decide) rfl (fun ls9 h9 => ?_)
      refine lv_goto (tgt := 23) C1.1 C1.2.1 zL_1889 rfl ?_
      exact ih (k + 1) (cells + 1) (slots + 6) μ' H' locs' ls9 (by omega) (by omega) (by omega) hr' hS' h9 inv'
    refine lv_aload_n (i := 0) (x := b) C.1 C.2.1 zL_32 rfl (lv_at hlv 4 rfl) ?_
    refine lv_iload (x := Int32.ofInt ((5 * k : Nat) : Int)) C.1 C.2.1 zL_33 (lv_at hlv 0 rfl) ?_
    refine va_sld (i := Int32.ofInt ((5 * k : Nat) : Int)) C.1 C.2.1 hX hb hbA hS (zvp_in a2 (by omega)) zL_35 ?_
    refine lv_bipush (v := 63) C.1 C.2.1 zL_36 rfl ?_
    refine lv_iand C.1 C.2.1 zL_38 ?_
    generalize xs (Int32.ofInt ((5 * k : Nat) : Int)).toNatClampNeg &&& 63 = z
    by_cases hz : z.toInt < 0 ∨ 51 < z.toInt
    · refine lv_tableOut (tgt := 1886) C.1 C.2.1 zL_39 hz rfl ?_
      refine W.widen (k := cells + 1) (n := slots + 6) (by omega) (by omega) ?_
      refine nx μ H locs ls hr hS hlv ?_
      obtain ⟨S, q1, q2, q3⟩ := inv
      exact ⟨S, q1, q2, q3.up (by omega)⟩
    · refine lv_tableIn (off := (zLpc.getD z.toInt.toNat 0 : Int) - 39) (tgt := zLpc.getD z.toInt.toNat 0) C.1 C.2.1 zL_39 (fun q => hz (Or.inl q)) (fun q => hz (Or.inr q)) ?_ (by omega) ?_
      · rw [Int.sub_zero]
        exact zLof_ok _ (by omega)
      · exact zl_all hl hd C hx hX hb hbA hi hL hr hS hlv ⟨by omega, by omega⟩ inv (by omega) nx _ (by omega)
end

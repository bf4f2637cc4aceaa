set_option maxRecDepth 20000 in
theorem zq101 : (Jvm.Cond.classLink "UnsoldPriceLaw" (8 : Nat) "UnsoldPrice") ∈ zTB := zt0 25 rfl rfl
set_option maxRecDepth 20000 in
theorem zq102 : (Jvm.Cond.instantiable "UnsoldPrice" (17 : Nat)) ∈ zTB := zt0 26 rfl rfl
set_option maxRecDepth 20000 in
theorem zq103 : (Jvm.Cond.methodLink "UnsoldPriceLaw" (15 : Nat) ({ cls := "UnsoldPrice", name := "<init>", desc := "()V" } : Jvm.MethodName)) ∈ zTB := zt0 27 rfl rfl
set_option maxRecDepth 20000 in
theorem zq586 : (Jvm.Cond.methodLink "UnsoldPriceLaw" (19 : Nat) ({ cls := "UnsoldPrice", name := "feed", desc := "(IIIII)I" } : Jvm.MethodName)) ∈ zTB := zt2 30 rfl rfl
set_option maxRecDepth 20000 in
theorem zq597 : (Jvm.Cond.methodLink "UnsoldPriceLaw" (24 : Nat) ({ cls := "UnsoldPrice", name := "end", desc := "(I)Z" } : Jvm.MethodName)) ∈ zTB := zt2 41 rfl rfl
set_option maxRecDepth 20000 in
theorem zq601 : (Jvm.Cond.methodLink "UnsoldPriceLaw" (29 : Nat) ({ cls := "UnsoldPrice", name := "fault", desc := "(I)I" } : Jvm.MethodName)) ∈ zTB := zt2 45 rfl rfl
set_option maxRecDepth 20000 in
theorem zq794 : (Jvm.Cond.methodLink "UnsoldPriceLaw" (34 : Nat) ({ cls := "UnsoldPrice", name := "text", desc := "(I)I" } : Jvm.MethodName)) ∈ zTB := zt2 238 rfl rfl
set_option maxRecDepth 20000 in
theorem zq810 : (Jvm.Cond.methodLink "UnsoldPriceLaw" (48 : Nat) ({ cls := "UnsoldPrice", name := "buyers", desc := "(II)I" } : Jvm.MethodName)) ∈ zTB := zt3 14 rfl rfl
set_option maxRecDepth 20000 in
theorem zq822 : (Jvm.Cond.methodLink "UnsoldPriceLaw" (52 : Nat) ({ cls := "UnsoldPrice", name := "rule", desc := "(II)Z" } : Jvm.MethodName)) ∈ zTB := zt3 26 rfl rfl
set_option maxRecDepth 20000 in
theorem zq830 : (Jvm.Cond.methodLink "UnsoldPriceLaw" (57 : Nat) ({ cls := "UnsoldPrice", name := "hold", desc := "(IZ)Z" } : Jvm.MethodName)) ∈ zTB := zt3 34 rfl rfl
set_option maxRecDepth 20000 in
theorem zq842 : (Jvm.Cond.methodLink "UnsoldPriceLaw" (62 : Nat) ({ cls := "UnsoldPrice", name := "risk", desc := "(I)Z" } : Jvm.MethodName)) ∈ zTB := zt3 46 rfl rfl
set_option maxRecDepth 20000 in
theorem zq846 : (Jvm.Cond.methodLink "UnsoldPriceLaw" (68 : Nat) ({ cls := "UnsoldPrice", name := "seed", desc := "(J)Z" } : Jvm.MethodName)) ∈ zTB := zt3 50 rfl rfl
set_option maxRecDepth 20000 in
theorem zq850 : (Jvm.Cond.methodLink "UnsoldPriceLaw" (73 : Nat) ({ cls := "UnsoldPrice", name := "days", desc := "(I)I" } : Jvm.MethodName)) ∈ zTB := zt3 54 rfl rfl
set_option maxRecDepth 20000 in
theorem zq927 : (Jvm.Cond.methodLink "UnsoldPriceLaw" (77 : Nat) ({ cls := "UnsoldPrice", name := "ahead", desc := "(I)I" } : Jvm.MethodName)) ∈ zTB := zt3 131 rfl rfl
set_option maxRecDepth 20000 in
theorem zq967 : (Jvm.Cond.methodLink "UnsoldPriceLaw" (81 : Nat) ({ cls := "UnsoldPrice", name := "falls", desc := "(II)I" } : Jvm.MethodName)) ∈ zTB := zt3 171 rfl rfl
set_option maxRecDepth 20000 in
theorem zq974 : (Jvm.Cond.methodLink "UnsoldPriceLaw" (85 : Nat) ({ cls := "UnsoldPrice", name := "ring", desc := "(I)I" } : Jvm.MethodName)) ∈ zTB := zt3 178 rfl rfl
set_option maxRecDepth 20000 in
theorem zq997 : (Jvm.Cond.methodLink "UnsoldPriceLaw" (89 : Nat) ({ cls := "UnsoldPrice", name := "best", desc := "(III)I" } : Jvm.MethodName)) ∈ zTB := zt3 201 rfl rfl
set_option maxRecDepth 20000 in
theorem zq1011 : (Jvm.Cond.methodLink "UnsoldPriceLaw" (94 : Nat) ({ cls := "UnsoldPrice", name := "rest", desc := "(I)I" } : Jvm.MethodName)) ∈ zTB := zt3 215 rfl rfl
set_option maxRecDepth 20000 in
theorem zq1036 : (Jvm.Cond.methodLink "UnsoldPriceLaw" (98 : Nat) ({ cls := "UnsoldPrice", name := "fool", desc := "(III)I" } : Jvm.MethodName)) ∈ zTB := zt4 0 rfl rfl
set_option maxRecDepth 20000 in
theorem zq1055 : (Jvm.Cond.methodLink "UnsoldPriceLaw" (102 : Nat) ({ cls := "UnsoldPrice", name := "up", desc := "(II)I" } : Jvm.MethodName)) ∈ zTB := zt4 19 rfl rfl
set_option maxRecDepth 20000 in
theorem zq1068 : (Jvm.Cond.methodLink "UnsoldPriceLaw" (106 : Nat) ({ cls := "UnsoldPrice", name := "when", desc := "(II)I" } : Jvm.MethodName)) ∈ zTB := zt4 32 rfl rfl
set_option maxRecDepth 20000 in
theorem zq1072 : (Jvm.Cond.methodLink "UnsoldPriceLaw" (110 : Nat) ({ cls := "UnsoldPrice", name := "stranger", desc := "(III)I" } : Jvm.MethodName)) ∈ zTB := zt4 36 rfl rfl
set_option maxRecDepth 20000 in
theorem zq1080 : (Jvm.Cond.methodLink "UnsoldPriceLaw" (114 : Nat) ({ cls := "UnsoldPrice", name := "see", desc := "(II)I" } : Jvm.MethodName)) ∈ zTB := zt4 44 rfl rfl
set_option maxRecDepth 20000 in
theorem zq1088 : (Jvm.Cond.methodLink "UnsoldPriceLaw" (118 : Nat) ({ cls := "UnsoldPrice", name := "fits", desc := "(I)I" } : Jvm.MethodName)) ∈ zTB := zt4 52 rfl rfl
set_option maxRecDepth 20000 in
theorem zq1098 : (Jvm.Cond.methodLink "UnsoldPriceLaw" (122 : Nat) ({ cls := "UnsoldPrice", name := "other", desc := "(III)I" } : Jvm.MethodName)) ∈ zTB := zt4 62 rfl rfl
set_option maxRecDepth 20000 in
theorem zq1102 : (Jvm.Cond.methodLink "UnsoldPriceLaw" (126 : Nat) ({ cls := "UnsoldPrice", name := "ask", desc := "(III)I" } : Jvm.MethodName)) ∈ zTB := zt4 66 rfl rfl
set_option maxRecDepth 20000 in
theorem zq1106 : (Jvm.Cond.methodLink "UnsoldPriceLaw" (130 : Nat) ({ cls := "UnsoldPrice", name := "month", desc := "(II)I" } : Jvm.MethodName)) ∈ zTB := zt4 70 rfl rfl
set_option maxRecDepth 20000 in
theorem zq1114 : (Jvm.Cond.methodLink "UnsoldPriceLaw" (134 : Nat) ({ cls := "UnsoldPrice", name := "inTurn", desc := "(II)I" } : Jvm.MethodName)) ∈ zTB := zt4 78 rfl rfl
set_option maxRecDepth 20000 in
theorem zq1122 : (Jvm.Cond.methodLink "UnsoldPriceLaw" (138 : Nat) ({ cls := "UnsoldPrice", name := "bribe", desc := "(II)I" } : Jvm.MethodName)) ∈ zTB := zt4 86 rfl rfl
set_option maxRecDepth 20000 in
theorem zq1126 : (Jvm.Cond.methodLink "UnsoldPriceLaw" (142 : Nat) ({ cls := "UnsoldPrice", name := "spread", desc := "(II)I" } : Jvm.MethodName)) ∈ zTB := zt4 90 rfl rfl
set_option maxRecDepth 20000 in
theorem zq1130 : (Jvm.Cond.methodLink "UnsoldPriceLaw" (146 : Nat) ({ cls := "UnsoldPrice", name := "served", desc := "(III)I" } : Jvm.MethodName)) ∈ zTB := zt4 94 rfl rfl
set_option maxRecDepth 20000 in
theorem zq1134 : (Jvm.Cond.methodLink "UnsoldPriceLaw" (150 : Nat) ({ cls := "UnsoldPrice", name := "odds", desc := "(II)I" } : Jvm.MethodName)) ∈ zTB := zt4 98 rfl rfl
set_option maxRecDepth 20000 in
theorem zq1148 : (Jvm.Cond.methodLink "UnsoldPriceLaw" (154 : Nat) ({ cls := "UnsoldPrice", name := "lone", desc := "(II)I" } : Jvm.MethodName)) ∈ zTB := zt4 112 rfl rfl
set_option maxRecDepth 20000 in
theorem zq1152 : (Jvm.Cond.methodLink "UnsoldPriceLaw" (158 : Nat) ({ cls := "UnsoldPrice", name := "glut", desc := "(II)I" } : Jvm.MethodName)) ∈ zTB := zt4 116 rfl rfl
set_option maxRecDepth 20000 in
theorem zq1160 : (Jvm.Cond.methodLink "UnsoldPriceLaw" (162 : Nat) ({ cls := "UnsoldPrice", name := "image", desc := "()I" } : Jvm.MethodName)) ∈ zTB := zt4 124 rfl rfl
set_option maxRecDepth 20000 in
theorem zq1165 : (Jvm.Cond.methodLink "UnsoldPriceLaw" (166 : Nat) ({ cls := "UnsoldPrice", name := "back", desc := "()I" } : Jvm.MethodName)) ∈ zTB := zt4 129 rfl rfl
set_option maxRecDepth 20000 in
theorem zq1169 : (Jvm.Cond.methodLink "UnsoldPriceLaw" (170 : Nat) ({ cls := "UnsoldPrice", name := "count", desc := "(I)I" } : Jvm.MethodName)) ∈ zTB := zt4 133 rfl rfl
set_option maxRecDepth 20000 in
theorem zq1173 : (Jvm.Cond.methodLink "UnsoldPriceLaw" (38 : Nat) ({ cls := "UnsoldPriceLaw", name := "seller", desc := "(LUnsoldPrice;II[J)I" } : Jvm.MethodName)) ∈ zTB := zt4 137 rfl rfl
set_option maxRecDepth 20000 in
theorem zq1242 : (Jvm.Cond.classLink "UnsoldPriceLaw" (16 : Nat) "UnsoldPriceModel") ∈ zTB := zt4 206 rfl rfl
set_option maxRecDepth 20000 in
theorem zq1243 : (Jvm.Cond.instantiable "UnsoldPriceModel" (74 : Nat)) ∈ zTB := zt4 207 rfl rfl
set_option maxRecDepth 20000 in
theorem zq1244 : (Jvm.Cond.methodLink "UnsoldPriceLaw" (18 : Nat) ({ cls := "UnsoldPriceModel", name := "<init>", desc := "()V" } : Jvm.MethodName)) ∈ zTB := zt4 208 rfl rfl
set_option maxRecDepth 20000 in
theorem zq1473 : (Jvm.Cond.methodLink "UnsoldPriceLaw" (44 : Nat) ({ cls := "UnsoldPriceModel", name := "thrown", desc := "()I" } : Jvm.MethodName)) ∈ zTB := zt5 197 rfl rfl
set_option maxRecDepth 20000 in
theorem zq1477 : (Jvm.Cond.methodLink "UnsoldPriceLaw" (23 : Nat) ({ cls := "UnsoldPriceModel", name := "feed", desc := "(IIIII)I" } : Jvm.MethodName)) ∈ zTB := zt5 201 rfl rfl
set_option maxRecDepth 20000 in
theorem zq1488 : (Jvm.Cond.methodLink "UnsoldPriceLaw" (28 : Nat) ({ cls := "UnsoldPriceModel", name := "end", desc := "(I)Z" } : Jvm.MethodName)) ∈ zTB := zt5 212 rfl rfl
set_option maxRecDepth 20000 in
theorem zq1492 : (Jvm.Cond.methodLink "UnsoldPriceLaw" (33 : Nat) ({ cls := "UnsoldPriceModel", name := "fault", desc := "(I)I" } : Jvm.MethodName)) ∈ zTB := zt5 216 rfl rfl
set_option maxRecDepth 20000 in
theorem zq1605 : (Jvm.Cond.methodLink "UnsoldPriceLaw" (37 : Nat) ({ cls := "UnsoldPriceModel", name := "text", desc := "(I)I" } : Jvm.MethodName)) ∈ zTB := zt6 89 rfl rfl
set_option maxRecDepth 20000 in
theorem zq1610 : (Jvm.Cond.methodLink "UnsoldPriceLaw" (43 : Nat) ({ cls := "UnsoldPriceModel", name := "seller", desc := "(II)I" } : Jvm.MethodName)) ∈ zTB := zt6 94 rfl rfl
set_option maxRecDepth 20000 in
theorem zq1619 : (Jvm.Cond.methodLink "UnsoldPriceLaw" (51 : Nat) ({ cls := "UnsoldPriceModel", name := "buyers", desc := "(II)I" } : Jvm.MethodName)) ∈ zTB := zt6 103 rfl rfl
set_option maxRecDepth 20000 in
theorem zq1628 : (Jvm.Cond.methodLink "UnsoldPriceLaw" (56 : Nat) ({ cls := "UnsoldPriceModel", name := "rule", desc := "(II)Z" } : Jvm.MethodName)) ∈ zTB := zt6 112 rfl rfl
set_option maxRecDepth 20000 in
theorem zq1632 : (Jvm.Cond.methodLink "UnsoldPriceLaw" (61 : Nat) ({ cls := "UnsoldPriceModel", name := "hold", desc := "(IZ)Z" } : Jvm.MethodName)) ∈ zTB := zt6 116 rfl rfl
set_option maxRecDepth 20000 in
theorem zq1636 : (Jvm.Cond.methodLink "UnsoldPriceLaw" (65 : Nat) ({ cls := "UnsoldPriceModel", name := "risk", desc := "(I)Z" } : Jvm.MethodName)) ∈ zTB := zt6 120 rfl rfl
set_option maxRecDepth 20000 in
theorem zq1641 : (Jvm.Cond.methodLink "UnsoldPriceLaw" (72 : Nat) ({ cls := "UnsoldPriceModel", name := "seed", desc := "(J)Z" } : Jvm.MethodName)) ∈ zTB := zt6 125 rfl rfl
set_option maxRecDepth 20000 in
theorem zq1645 : (Jvm.Cond.methodLink "UnsoldPriceLaw" (76 : Nat) ({ cls := "UnsoldPriceModel", name := "days", desc := "(I)I" } : Jvm.MethodName)) ∈ zTB := zt6 129 rfl rfl
set_option maxRecDepth 20000 in
theorem zq1697 : (Jvm.Cond.methodLink "UnsoldPriceLaw" (80 : Nat) ({ cls := "UnsoldPriceModel", name := "ahead", desc := "(I)I" } : Jvm.MethodName)) ∈ zTB := zt6 181 rfl rfl
set_option maxRecDepth 20000 in
theorem zq1713 : (Jvm.Cond.methodLink "UnsoldPriceLaw" (84 : Nat) ({ cls := "UnsoldPriceModel", name := "falls", desc := "(II)I" } : Jvm.MethodName)) ∈ zTB := zt6 197 rfl rfl
set_option maxRecDepth 20000 in
theorem zq1721 : (Jvm.Cond.methodLink "UnsoldPriceLaw" (88 : Nat) ({ cls := "UnsoldPriceModel", name := "ring", desc := "(I)I" } : Jvm.MethodName)) ∈ zTB := zt6 205 rfl rfl
set_option maxRecDepth 20000 in
theorem zq1733 : (Jvm.Cond.methodLink "UnsoldPriceLaw" (93 : Nat) ({ cls := "UnsoldPriceModel", name := "best", desc := "(III)I" } : Jvm.MethodName)) ∈ zTB := zt6 217 rfl rfl
set_option maxRecDepth 20000 in
theorem zq1742 : (Jvm.Cond.methodLink "UnsoldPriceLaw" (97 : Nat) ({ cls := "UnsoldPriceModel", name := "rest", desc := "(I)I" } : Jvm.MethodName)) ∈ zTB := zt6 226 rfl rfl
set_option maxRecDepth 20000 in
theorem zq1758 : (Jvm.Cond.methodLink "UnsoldPriceLaw" (101 : Nat) ({ cls := "UnsoldPriceModel", name := "fool", desc := "(III)I" } : Jvm.MethodName)) ∈ zTB := zt7 2 rfl rfl
set_option maxRecDepth 20000 in
theorem zq1766 : (Jvm.Cond.methodLink "UnsoldPriceLaw" (105 : Nat) ({ cls := "UnsoldPriceModel", name := "up", desc := "(II)I" } : Jvm.MethodName)) ∈ zTB := zt7 10 rfl rfl
set_option maxRecDepth 20000 in
theorem zq1772 : (Jvm.Cond.methodLink "UnsoldPriceLaw" (109 : Nat) ({ cls := "UnsoldPriceModel", name := "when", desc := "(II)I" } : Jvm.MethodName)) ∈ zTB := zt7 16 rfl rfl
set_option maxRecDepth 20000 in
theorem zq1776 : (Jvm.Cond.methodLink "UnsoldPriceLaw" (113 : Nat) ({ cls := "UnsoldPriceModel", name := "stranger", desc := "(III)I" } : Jvm.MethodName)) ∈ zTB := zt7 20 rfl rfl
set_option maxRecDepth 20000 in
theorem zq1786 : (Jvm.Cond.methodLink "UnsoldPriceLaw" (117 : Nat) ({ cls := "UnsoldPriceModel", name := "see", desc := "(II)I" } : Jvm.MethodName)) ∈ zTB := zt7 30 rfl rfl
set_option maxRecDepth 20000 in
theorem zq1790 : (Jvm.Cond.methodLink "UnsoldPriceLaw" (121 : Nat) ({ cls := "UnsoldPriceModel", name := "fits", desc := "(I)I" } : Jvm.MethodName)) ∈ zTB := zt7 34 rfl rfl
set_option maxRecDepth 20000 in
theorem zq1794 : (Jvm.Cond.methodLink "UnsoldPriceLaw" (125 : Nat) ({ cls := "UnsoldPriceModel", name := "other", desc := "(III)I" } : Jvm.MethodName)) ∈ zTB := zt7 38 rfl rfl
set_option maxRecDepth 20000 in
theorem zq1798 : (Jvm.Cond.methodLink "UnsoldPriceLaw" (129 : Nat) ({ cls := "UnsoldPriceModel", name := "ask", desc := "(III)I" } : Jvm.MethodName)) ∈ zTB := zt7 42 rfl rfl
set_option maxRecDepth 20000 in
theorem zq1803 : (Jvm.Cond.methodLink "UnsoldPriceLaw" (133 : Nat) ({ cls := "UnsoldPriceModel", name := "month", desc := "(II)I" } : Jvm.MethodName)) ∈ zTB := zt7 47 rfl rfl
set_option maxRecDepth 20000 in
theorem zq1807 : (Jvm.Cond.methodLink "UnsoldPriceLaw" (137 : Nat) ({ cls := "UnsoldPriceModel", name := "inTurn", desc := "(II)I" } : Jvm.MethodName)) ∈ zTB := zt7 51 rfl rfl
set_option maxRecDepth 20000 in
theorem zq1811 : (Jvm.Cond.methodLink "UnsoldPriceLaw" (141 : Nat) ({ cls := "UnsoldPriceModel", name := "bribe", desc := "(II)I" } : Jvm.MethodName)) ∈ zTB := zt7 55 rfl rfl
set_option maxRecDepth 20000 in
theorem zq1815 : (Jvm.Cond.methodLink "UnsoldPriceLaw" (145 : Nat) ({ cls := "UnsoldPriceModel", name := "spread", desc := "(II)I" } : Jvm.MethodName)) ∈ zTB := zt7 59 rfl rfl
set_option maxRecDepth 20000 in
theorem zq1819 : (Jvm.Cond.methodLink "UnsoldPriceLaw" (149 : Nat) ({ cls := "UnsoldPriceModel", name := "served", desc := "(III)I" } : Jvm.MethodName)) ∈ zTB := zt7 63 rfl rfl
set_option maxRecDepth 20000 in
theorem zq1823 : (Jvm.Cond.methodLink "UnsoldPriceLaw" (153 : Nat) ({ cls := "UnsoldPriceModel", name := "odds", desc := "(II)I" } : Jvm.MethodName)) ∈ zTB := zt7 67 rfl rfl
set_option maxRecDepth 20000 in
theorem zq1833 : (Jvm.Cond.methodLink "UnsoldPriceLaw" (157 : Nat) ({ cls := "UnsoldPriceModel", name := "lone", desc := "(II)I" } : Jvm.MethodName)) ∈ zTB := zt7 77 rfl rfl
set_option maxRecDepth 20000 in
theorem zq1837 : (Jvm.Cond.methodLink "UnsoldPriceLaw" (161 : Nat) ({ cls := "UnsoldPriceModel", name := "glut", desc := "(II)I" } : Jvm.MethodName)) ∈ zTB := zt7 81 rfl rfl
set_option maxRecDepth 20000 in
theorem zq1841 : (Jvm.Cond.methodLink "UnsoldPriceLaw" (165 : Nat) ({ cls := "UnsoldPriceModel", name := "image", desc := "()I" } : Jvm.MethodName)) ∈ zTB := zt7 85 rfl rfl
set_option maxRecDepth 20000 in
theorem zq1845 : (Jvm.Cond.methodLink "UnsoldPriceLaw" (169 : Nat) ({ cls := "UnsoldPriceModel", name := "back", desc := "()I" } : Jvm.MethodName)) ∈ zTB := zt7 89 rfl rfl
set_option maxRecDepth 20000 in
theorem zq1849 : (Jvm.Cond.methodLink "UnsoldPriceLaw" (173 : Nat) ({ cls := "UnsoldPriceModel", name := "count", desc := "(I)I" } : Jvm.MethodName)) ∈ zTB := zt7 93 rfl rfl
set_option maxRecDepth 20000 in
theorem zq1853 : (Jvm.Cond.constantLong "UnsoldPriceLaw" (66 : Nat) (4294967295 : Int64)) ∈ zTB := zt7 97 rfl rfl
set_option maxRecDepth 20000 in
theorem zq1854 : (Jvm.Cond.arrayClass Jvm.ClassFile.FieldType.long) ∈ zTB := zt7 98 rfl rfl
/-! ===== the law: what its cases need ===== -/
theorem zl_in {t k L : Nat} {x : Int32} (hx : x = nI k) (hk : k < 6) (h : 6 * t + 6 ≤ L) (hL : L ≤ 3072) : vp_in (nI (6 * t) + x) L := by
  rw [hx, n_add]
  exact vp_in_nI (by omega) (by omega)
theorem zr0 {ce sl : Nat} (hce : ce + 1 ≤ 601024) (hsl : sl + 6 ≤ 7293034) : ce + 0 ≤ room_1.cells ∧ sl + 0 ≤ room_1.slots := ⟨by show ce + 0 ≤ 601024; omega, by show sl + 0 ≤ 7293034; omega⟩
theorem zr1 {ce sl : Nat} (hce : ce + 1 ≤ 601024) (hsl : sl + 6 ≤ 7293034) : ce + 1 ≤ room_1.cells ∧ sl + 6 ≤ room_1.slots := ⟨hce, hsl⟩
theorem zc_im {p : Program} {l : Launch} {e : Env} {R : Room} {s : State} {m : MethodId} {args : Array Value} {below : List Frame} {meth : Method} {c : Code} {H : Heap} {locs : List Loc} {cells slots mc ms : Nat} {Q : State → Prop}
    {D : va_G} {A0 : Nat} {σ : Mm} {G : Gm} {n : Nat} {pc : Nat} {ls : Array Slot} {rest st : List Value} {a2 : Array Value} {r : Int32} {σ1 : Mm} {G1 : Gm} {n1 : Nat} (Z : zh D A0 σ G n s.heap H locs) (hr : va_Run p l e R s m args below meth c H locs cells slots mc ms (F0 m pc ls st) rest (zQi D A0 r σ1 G1 n1 a2) (zA A0))
    (kk : ∀ (H1 : Heap) (locs1 : List Loc), zh D A0 σ1 G1 n1 s.heap H1 locs1 → W p l e R s m args below meth c H1 locs1 (cells + mc) (slots + ms) Q (F0 m (pc + 3) ls (.int r :: rest))) : W p l e R s m args below meth c H locs cells slots Q (F0 m pc ls st) :=
  va_calli hr Z.2 (fun _ _ h => h) (fun _ h => h) (fun r1 _ t H1 locs1 ht _ hp hb _ _ hS => by subst hp; exact kk H1 locs1 ⟨by rw [← ht]; exact hb.1, hS⟩)

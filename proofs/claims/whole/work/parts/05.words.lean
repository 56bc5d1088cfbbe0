/-! THE WORDS: each link of the tables stands among the words that the statement gives. -/
/-- the words -/
def nestH : String := "SyllableMaker"
theorem fld_ok : (fldT.all fun e => mb e.2.2.2.2 (.fieldLink (onN e.1) e.2.1 (clTb e.2.2.1 e.2.2.2.1).1 (clTb e.2.2.1 e.2.2.2.1).2.1 (clTb e.2.2.1 e.2.2.2.1).2.2.1) && Nat.blt e.2.2.1 13 && Nat.blt e.2.2.2.1 (nF e.2.2.1)) = true := by decide +kernel
theorem met_ok : (metT.all fun e => if e.2.2.2.1 == 0 then mb e.2.2.2.2 (.methodLink (onN e.1) e.2.1 (nmY e.2.2.1)) else decide (lw_tbl[e.2.2.2.2]? = some (.methodLinkNest (onN e.1) e.2.1 (nmY e.2.2.1) nestH))) = true := by decide +kernel
theorem obj_ok : (objT.all fun e => mb e.2.2 (.methodLink (onN e.1) e.2.1 Lib.objectInit)) = true := by decide +kernel
def matN (op : Nat) : MethodName := if op == 84 then Lib.Math.min.name else if op == 85 then Lib.Math.max.name else if op == 86 then Lib.Math.abs.name else arraycopyName
theorem mat_ok : (matT.all fun e => mb e.2.2.2 (.methodLink (onN e.1) e.2.1 (matN e.2.2.1)) && Nat.ble 84 e.2.2.1 && Nat.ble e.2.2.1 87) = true := by decide +kernel
theorem ci_ok : (ciT.all fun e => mb e.2.2.2 (.constant (onN e.1) e.2.1 (Int32.ofInt e.2.2.1))) = true := by decide +kernel
theorem cl_ok : (clT.all fun e => mb e.2.2.2 (.constantLong (onN e.1) e.2.1 (Int64.ofInt e.2.2.1))) = true := by decide +kernel
theorem new_ok : (newT.all fun e => mb e.2.2.2 (.classLink (onN e.1) e.2.1 (onN e.2.2.1)) && Nat.blt e.2.2.1 13) = true := by decide +kernel
theorem mna_ok : (mnaT.all fun e => mb e.2.2.2 (.classLink (onN e.1) e.2.1 (if e.2.2.1 == 25 then "[[J" else "[[I"))) = true := by decide +kernel
theorem gs_ok : (gsT.all fun e => mb e.2.2.2 (.fieldLink (onN e.1) e.2.1 (stT.getD e.2.2.1 ("", "", "", 0)).1 (stT.getD e.2.2.1 ("", "", "", 0)).2.1 (stT.getD e.2.2.1 ("", "", "", 0)).2.2.1)) = true := by decide +kernel

def wdOk (z : Nat) : Bool := (nmY z).cls == onN (oxY z) && clO z == (if Nat.blt (oxY z) 13 then oxY z else if oxY z == 13 then 40 else 99) && plainName (nmY z).cls && mb (wdT.getD z (0, 0, 0, 0)).1 (.code (nmY z) (bcY z) (mxL z) (rtY z)) && mb (wdT.getD z (0, 0, 0, 0)).2.1 (if isSt z then .static (nmY z) else .instanceMethod (nmY z)) && (isSt z || isIni z || mb (wdT.getD z (0, 0, 0, 0)).2.2.1 (.selects (onN (oxY z)) (nmY z) (nmY z))) && mb (wdT.getD z (0, 0, 0, 0)).2.2.2 (.initialized (onN (oxY z)))
def rtOk (z : Nat) : Bool := match rtY z with
  | none => rtK z == 0
  | some .int => rtK z == 1
  | some .boolean => rtK z == 2
  | some .long => rtK z == 3
  | some (.object _) => rtK z == 4
  | some (.array _) => rtK z == 4
  | some .byte => rtK z == 5
  | some .char => rtK z == 6
  | _ => false
set_option maxRecDepth 100000 in
theorem wd_0 : ((List.range 50).all fun k => wdOk (0 + k) && rtOk (0 + k)) = true := by decide +kernel
set_option maxRecDepth 100000 in
theorem wd_50 : ((List.range 50).all fun k => wdOk (50 + k) && rtOk (50 + k)) = true := by decide +kernel
set_option maxRecDepth 100000 in
theorem wd_100 : ((List.range 50).all fun k => wdOk (100 + k) && rtOk (100 + k)) = true := by decide +kernel
set_option maxRecDepth 100000 in
theorem wd_150 : ((List.range 50).all fun k => wdOk (150 + k) && rtOk (150 + k)) = true := by decide +kernel
set_option maxRecDepth 100000 in
theorem wd_200 : ((List.range 50).all fun k => wdOk (200 + k) && rtOk (200 + k)) = true := by decide +kernel
set_option maxRecDepth 100000 in
theorem wd_250 : ((List.range 48).all fun k => wdOk (250 + k) && rtOk (250 + k)) = true := by decide +kernel
def clsT : List vw_C := [(RX0, TX0, nF 0), (RX1, TX1, nF 1), (RX2, TX2, nF 2), (RX3, TX3, nF 3), (RX4, TX4, nF 4), (RX5, TX5, nF 5), (RX6, TX6, nF 6), (RX7, TX7, nF 7), (RX8, TX8, nF 8), (RX9, TX9, nF 9), (RX10, TX10, nF 10), (RX11, TX11, nF 11), (RX12, TX12, nF 12)]
def inT : List (Nat × Nat) := [(351, 120), (224, 115), (376, 121), (333, 119), (174, 113), (180, 114), (382, 122), (265, 116), (306, 118), (139, 112), (271, 117), (131, 111), (1336, 123)]
theorem in_ok : ((List.range 13).all fun a => mb (inT.getD a (0, 0)).1 (.instantiable (onN a) (nF a)) && mb (inT.getD a (0, 0)).2 (.initialized (onN a))) = true := by decide +kernel
theorem arr_ok : (mb 205 (.arrayClass .int) && mb 172 (.arrayClass .byte) && mb 222 (.arrayClass .boolean) && mb 331 (.arrayClass .long)) = true := by decide +kernel
theorem over_ok : (decide (lw_tbl[277]? = some (.arrayOver (.object RX5))) && decide (lw_tbl[312]? = some (.arrayOver (.array .long))) && decide (lw_tbl[314]? = some (.arrayOver (.array .int)))) = true := by decide +kernel
theorem oi_ok : (mb 136 (.instanceMethod Lib.objectInit) && mb 137 (.code Lib.objectInit ⟨#[0xb1]⟩ 1 none)) = true := by decide +kernel
theorem min_ok : (mb 579 (.static Lib.Math.min.name) && mb 124 (.initialized "java/lang/Math") && mb 580 (.code Lib.Math.min.name Lib.Math.min.code 2 (some .int))) = true := by decide +kernel
theorem max_ok : (mb 582 (.static Lib.Math.max.name) && mb 124 (.initialized "java/lang/Math") && mb 583 (.code Lib.Math.max.name Lib.Math.max.code 2 (some .int))) = true := by decide +kernel
theorem abs_ok : (mb 1098 (.static Lib.Math.abs.name) && mb 124 (.initialized "java/lang/Math") && mb 1099 (.code Lib.Math.abs.name Lib.Math.abs.code 1 (some .int))) = true := by decide +kernel
theorem cp_ok : (mb 911 (.native arraycopyName) && mb 910 (.static arraycopyName) && mb 129 (.initialized "java/lang/System")) = true := by decide +kernel
def srP : List Nat := [600, 653, 654, 655, 656, 657, 658, 659, 660, 661, 662, 698, 778, 779, 780, 781, 782, 783]
def strN : List String := ["sound", "open", "glide", "word", "cost", "rise", "close", "weigh", "stress", "help", "move", "peak", "bare", "shut", "rough", "wild", "burst", "clash"]
def smB : Bool := srT.all fun e => decide (lw_tbl[srP.getD e.2.2 0]? = some (.stringRef (onN e.1) e.2.1 (strN.getD e.2.2 "")))
theorem sr_ok : smB = true := by decide +kernel
theorem vf_ok : (mb 2105 (.fieldLink "java/lang/String" 9 "java/lang/String" "value" "[B") && mb 2106 (.fieldLink "java/lang/String" 15 "java/lang/String" "coder" "B")) = true := by decide +kernel
theorem fm_ok : mb fmT.2.2 (.fieldLink (onN fmT.1) fmT.2.1 "jdk/internal/util/Preconditions" "SIOOBE_FORMATTER" "Ljava/util/function/BiFunction;") = true := by decide +kernel
def lyT : List Nat := [364, 366, 368, 370, 372, 0, 0, 0, 0, 0, 0, 0, 0, 0, 0, 0, 0, 0, 0, 0, 0, 0, 0, 0, 0, 0, 0, 0, 0, 0, 0, 0, 0, 0, 0, 0, 0, 0, 0, 0, 0, 0, 0, 0, 0, 0, 0, 0, 0, 0, 0, 0, 0, 0, 0, 0, 0, 0, 0, 0, 0, 0, 0, 0, 0, 0, 0, 0, 0, 0, 0, 0, 0, 0, 0, 0, 0, 0, 0, 0, 0, 0, 0, 0, 0, 0, 0, 0, 243, 245, 247, 249, 251, 253, 255, 257, 259, 261, 0, 0, 0, 0, 0, 0, 0, 0, 0, 0, 0, 0, 0, 0, 0, 0, 0, 0, 0, 0, 0, 0, 0, 0, 0, 0, 0, 0, 0, 0, 0, 0, 0, 0, 0, 0, 0, 0, 0, 0, 0, 0, 0, 0, 0, 0, 0, 0, 0, 0, 0, 0, 0, 0, 0, 0, 0, 0, 0, 0, 0, 0, 0, 0, 0, 0, 0, 0, 0, 0, 0, 0, 0, 0, 0, 0, 0, 0, 472, 474, 476, 478, 480, 482, 484, 486, 488, 490, 492, 494, 496, 498, 500, 502, 504, 506, 0, 0, 0, 0, 0, 0, 0, 0, 0, 0, 0, 0, 0, 0, 0, 0, 0, 0, 0, 0, 0, 0, 0, 0, 0, 0, 0, 0, 0, 0, 0, 0, 0, 0, 0, 0, 0, 0, 0, 0, 0, 0, 0, 0, 0, 0, 0, 0, 0, 0, 0, 0, 0, 0, 0, 0, 0, 0, 0, 0, 0, 0, 0, 0, 0, 0, 0, 0, 0, 0, 343, 345, 347, 0, 0, 0, 0, 0, 0, 0, 0, 0, 0, 0, 0, 0, 0, 0, 0, 0, 0, 0, 0, 0, 0, 0, 0, 0, 0, 0, 0, 0, 0, 0, 0, 0, 0, 0, 0, 0, 0, 0, 0, 0, 0, 0, 0, 0, 0, 0, 0, 0, 0, 0, 0, 0, 0, 0, 0, 0, 0, 0, 0, 0, 0, 0, 0, 0, 0, 0, 0, 0, 0, 0, 0, 0, 0, 0, 0, 0, 0, 0, 0, 0, 0, 0, 0, 0, 211, 213, 215, 217, 219, 0, 0, 0, 0, 0, 0, 0, 0, 0, 0, 0, 0, 0, 0, 0, 0, 0, 0, 0, 0, 0, 0, 0, 0, 0, 0, 0, 0, 0, 0, 0, 0, 0, 0, 0, 0, 0, 0, 0, 0, 0, 0, 0, 0, 0, 0, 0, 0, 0, 0, 0, 0, 0, 0, 0, 0, 0, 0, 0, 0, 0, 0, 0, 0, 0, 0, 0, 0, 0, 0, 0, 0, 0, 0, 0, 0, 0, 0, 0, 0, 0, 0, 0, 198, 200, 202, 0, 0, 0, 0, 0, 0, 0, 0, 0, 0, 0, 0, 0, 0, 0, 0, 0, 0, 0, 0, 0, 0, 0, 0, 0, 0, 0, 0, 0, 0, 0, 0, 0, 0, 0, 0, 0, 0, 0, 0, 0, 0, 0, 0, 0, 0, 0, 0, 0, 0, 0, 0, 0, 0, 0, 0, 0, 0, 0, 0, 0, 0, 0, 0, 0, 0, 0, 0, 0, 0, 0, 0, 0, 0, 0, 0, 0, 0, 0, 0, 0, 0, 0, 0, 0, 396, 398, 400, 402, 404, 406, 408, 0, 0, 0, 0, 0, 0, 0, 0, 0, 0, 0, 0, 0, 0, 0, 0, 0, 0, 0, 0, 0, 0, 0, 0, 0, 0, 0, 0, 0, 0, 0, 0, 0, 0, 0, 0, 0, 0, 0, 0, 0, 0, 0, 0, 0, 0, 0, 0, 0, 0, 0, 0, 0, 0, 0, 0, 0, 0, 0, 0, 0, 0, 0, 0, 0, 0, 0, 0, 0, 0, 0, 0, 0, 0, 0, 0, 0, 0, 0, 0, 0, 298, 300, 302, 0, 0, 0, 0, 0, 0, 0, 0, 0, 0, 0, 0, 0, 0, 0, 0, 0, 0, 0, 0, 0, 0, 0, 0, 0, 0, 0, 0, 0, 0, 0, 0, 0, 0, 0, 0, 0, 0, 0, 0, 0, 0, 0, 0, 0, 0, 0, 0, 0, 0, 0, 0, 0, 0, 0, 0, 0, 0, 0, 0, 0, 0, 0, 0, 0, 0, 0, 0, 0, 0, 0, 0, 0, 0, 0, 0, 0, 0, 0, 0, 0, 0, 0, 0, 0, 320, 322, 324, 326, 328, 0, 0, 0, 0, 0, 0, 0, 0, 0, 0, 0, 0, 0, 0, 0, 0, 0, 0, 0, 0, 0, 0, 0, 0, 0, 0, 0, 0, 0, 0, 0, 0, 0, 0, 0, 0, 0, 0, 0, 0, 0, 0, 0, 0, 0, 0, 0, 0, 0, 0, 0, 0, 0, 0, 0, 0, 0, 0, 0, 0, 0, 0, 0, 0, 0, 0, 0, 0, 0, 0, 0, 0, 0, 0, 0, 0, 0, 0, 0, 0, 0, 0, 0, 157, 159, 161, 163, 165, 167, 169, 0, 0, 0, 0, 0, 0, 0, 0, 0, 0, 0, 0, 0, 0, 0, 0, 0, 0, 0, 0, 0, 0, 0, 0, 0, 0, 0, 0, 0, 0, 0, 0, 0, 0, 0, 0, 0, 0, 0, 0, 0, 0, 0, 0, 0, 0, 0, 0, 0, 0, 0, 0, 0, 0, 0, 0, 0, 0, 0, 0, 0, 0, 0, 0, 0, 0, 0, 0, 0, 0, 0, 0, 0, 0, 0, 0, 0, 0, 0, 0, 0, 286, 288, 290, 0, 0, 0, 0, 0, 0, 0, 0, 0, 0, 0, 0, 0, 0, 0, 0, 0, 0, 0, 0, 0, 0, 0, 0, 0, 0, 0, 0, 0, 0, 0, 0, 0, 0, 0, 0, 0, 0, 0, 0, 0, 0, 0, 0, 0, 0, 0, 0, 0, 0, 0, 0, 0, 0, 0, 0, 0, 0, 0, 0, 0, 0, 0, 0, 0, 0, 0, 0, 0, 0, 0, 0, 0, 0, 0, 0, 0, 0, 0, 0, 0, 0, 0, 0, 0, 518, 520, 522, 524, 526, 528, 530, 532, 534, 0, 0, 0, 0, 0, 0, 0, 0, 0, 0, 0, 0, 0, 0, 0, 0, 0, 0, 0, 0, 0, 0, 0, 0, 0, 0, 0, 0, 0, 0, 0, 0, 0, 0, 0, 0, 0, 0, 0, 0, 0, 0, 0, 0, 0, 0, 0, 0, 0, 0, 0, 0, 0, 0, 0, 0, 0, 0, 0, 0, 0, 0, 0, 0, 0, 0, 0, 0, 0, 0, 0, 0, 0, 0, 0, 0, 0, 0, 0, 1441, 1443, 1445, 1447, 1449, 1451, 1453, 1455, 1457, 1459, 1461, 1463, 1465, 1467, 1469, 1471, 1473, 1475, 1477, 1479, 1481, 1483, 1485, 1487, 1489, 1491, 1493, 1495, 1497, 1499, 1501, 1503, 1505, 1507, 1509, 1511, 1513, 1515, 1517, 1519, 1521, 1523, 1525, 1527, 1529, 1531, 1533, 1535, 1537, 1539, 1541, 1543, 1545, 1547, 1549, 1551, 1553, 1555, 1557, 1559, 1561, 1563, 1565, 1567, 1569, 1571, 1573, 1575, 1577, 1579, 1581, 1583, 1585, 1587, 1589, 1591, 1593, 1595, 1597, 1599, 1601, 1603, 1605, 1607, 1609, 1611, 1613, 1615]
theorem lay_ok : ((List.range 13).all fun a => (List.range (nF a)).all fun k => mb (lyT.getD (88 * a + k) 0) (u_lay (onN a) (clTb a) k)) = true := by decide +kernel

def uP_X0 : List Nat := [350, 352, 354, 356, 358, 360, 362, 364, 366, 368, 370, 372, 374, 376, 378, 380, 382, 384, 386, 388]
def uP_X2 : List Nat := [440, 442]
def uP_X3 : List Nat := [569, 571, 573]
def uP_X4 : List Nat := [494, 496]
def uP_X5 : List Nat := [467, 469, 471, 473, 475, 477, 479, 481]
def uP_X6 : List Nat := [221, 223, 225, 227, 229, 231, 233, 235, 237, 239, 241, 243, 245, 247, 249, 251]
def uP_X7 : List Nat := [546, 548, 550, 552, 554, 556, 558, 560, 562]
def uP_X8 : List Nat := [415, 417, 419, 421, 423, 425, 427, 429, 431, 433]
def uP_X9 : List Nat := [592, 594, 596, 598, 600, 602, 604, 606, 608, 610, 612, 614]
def uP_X10 : List Nat := [1350, 1352, 1354, 1356, 1358, 1360, 1362, 1364, 1366, 1368, 1370, 1372, 1374, 1376, 1378, 1380, 1382, 1384, 1386, 1388, 1390, 1392, 1394, 1396, 1398, 1400, 1402, 1404, 1406, 1408, 1410, 1412, 1414, 1416, 1418, 1420, 1422, 1424, 1426, 1428, 1430, 1432, 1434, 1436, 1438, 1440, 1442, 1444, 1446, 1448, 1450, 1452, 1454, 1456, 1458, 1460, 1462, 1464, 1466, 1468, 1470, 1472, 1474, 1476, 1478, 1480, 1482, 1484, 1486, 1488, 1490, 1492, 1494, 1496, 1498, 1500, 1502, 1504, 1506]
/-- a word of the tables that may be handed on, by its place -/
def hasW (pl : Nat) (w : Jvm.Cond) : Bool := decide (lw_tbl[pl]? = some w) && goodWord w
def GW : List Jvm.Cond := lw_tbl.filter goodWord
theorem hasW_mem {pl : Nat} {w : Jvm.Cond} (h : hasW pl w = true) : w ∈ GW := by
  simp only [hasW, Bool.and_eq_true, decide_eq_true_eq] at h
  exact List.mem_filter.mpr ⟨List.mem_of_getElem? h.1, h.2⟩
theorem uK_X0 : (List.range uP_X0.length).all (fun k => hasW (uP_X0.getD k 0) (u_lay RX0 TX0 k)) = true := by decide +kernel
theorem uL_X0 : uP_X0.length = 20 := rfl
theorem uK_X2 : (List.range uP_X2.length).all (fun k => hasW (uP_X2.getD k 0) (u_lay RX2 TX2 k)) = true := by decide +kernel
theorem uL_X2 : uP_X2.length = 2 := rfl
theorem uK_X3 : (List.range uP_X3.length).all (fun k => hasW (uP_X3.getD k 0) (u_lay RX3 TX3 k)) = true := by decide +kernel
theorem uL_X3 : uP_X3.length = 3 := rfl
theorem uK_X4 : (List.range uP_X4.length).all (fun k => hasW (uP_X4.getD k 0) (u_lay RX4 TX4 k)) = true := by decide +kernel
theorem uL_X4 : uP_X4.length = 2 := rfl
theorem uK_X5 : (List.range uP_X5.length).all (fun k => hasW (uP_X5.getD k 0) (u_lay RX5 TX5 k)) = true := by decide +kernel
theorem uL_X5 : uP_X5.length = 8 := rfl
theorem uK_X6 : (List.range uP_X6.length).all (fun k => hasW (uP_X6.getD k 0) (u_lay RX6 TX6 k)) = true := by decide +kernel
theorem uL_X6 : uP_X6.length = 16 := rfl
theorem uK_X7 : (List.range uP_X7.length).all (fun k => hasW (uP_X7.getD k 0) (u_lay RX7 TX7 k)) = true := by decide +kernel
theorem uL_X7 : uP_X7.length = 9 := rfl
theorem uK_X8 : (List.range uP_X8.length).all (fun k => hasW (uP_X8.getD k 0) (u_lay RX8 TX8 k)) = true := by decide +kernel
theorem uL_X8 : uP_X8.length = 10 := rfl
theorem uK_X9 : (List.range uP_X9.length).all (fun k => hasW (uP_X9.getD k 0) (u_lay RX9 TX9 k)) = true := by decide +kernel
theorem uL_X9 : uP_X9.length = 12 := rfl
theorem uK_X10 : (List.range uP_X10.length).all (fun k => hasW (uP_X10.getD k 0) (u_lay RX10 TX10 k)) = true := by decide +kernel
theorem uL_X10 : uP_X10.length = 79 := rfl
def hasN (pl : Nat) (w : Jvm.Cond) : Bool := decide (lw_tbl[pl]? = some w)
def isNst : Jvm.Cond → Bool
  | .methodLinkNest .. => true
  | _ => false
def NW : List Jvm.Cond := lw_tbl.filter isNst
theorem hasN_mem {pl : Nat} {w : Jvm.Cond} (h : hasN pl w = true) (h2 : isNst w = true) : w ∈ NW := by
  simp only [hasN, decide_eq_true_eq] at h
  exact List.mem_filter.mpr ⟨List.mem_of_getElem? h, h2⟩
def yOf (m : Nat) : MethodName := mYs.getD m yL_law
def cOf (m : Nat) : ByteArray := mCs.getD m cL_law
def rtOf (m : Nat) : Option FieldType := mRt.getD m none
theorem lwIn_1 {w : Jvm.Cond} (h : w ∈ tables_1_1) : w ∈ lw_tbl := List.mem_append_right _ (show w ∈ tables_1 from (List.mem_append_left _ h))
theorem lwIn_2 {w : Jvm.Cond} (h : w ∈ tables_1_2) : w ∈ lw_tbl := List.mem_append_right _ (show w ∈ tables_1 from (List.mem_append_right _ (List.mem_append_left _ h)))
theorem lwIn_3 {w : Jvm.Cond} (h : w ∈ tables_1_3) : w ∈ lw_tbl := List.mem_append_right _ (show w ∈ tables_1 from (List.mem_append_right _ (List.mem_append_right _ (List.mem_append_left _ h))))
theorem lwIn_4 {w : Jvm.Cond} (h : w ∈ tables_1_4) : w ∈ lw_tbl := List.mem_append_right _ (show w ∈ tables_1 from (List.mem_append_right _ (List.mem_append_right _ (List.mem_append_right _ (List.mem_append_left _ h)))))
theorem lwIn_5 {w : Jvm.Cond} (h : w ∈ tables_1_5) : w ∈ lw_tbl := List.mem_append_right _ (show w ∈ tables_1 from (List.mem_append_right _ (List.mem_append_right _ (List.mem_append_right _ (List.mem_append_right _ (List.mem_append_left _ h))))))
theorem lwIn_6 {w : Jvm.Cond} (h : w ∈ tables_1_6) : w ∈ lw_tbl := List.mem_append_right _ (show w ∈ tables_1 from (List.mem_append_right _ (List.mem_append_right _ (List.mem_append_right _ (List.mem_append_right _ (List.mem_append_right _ (List.mem_append_left _ h)))))))
theorem lwIn_7 {w : Jvm.Cond} (h : w ∈ tables_1_7) : w ∈ lw_tbl := List.mem_append_right _ (show w ∈ tables_1 from (List.mem_append_right _ (List.mem_append_right _ (List.mem_append_right _ (List.mem_append_right _ (List.mem_append_right _ (List.mem_append_right _ (List.mem_append_left _ h))))))))
theorem lwIn_8 {w : Jvm.Cond} (h : w ∈ tables_1_8) : w ∈ lw_tbl := List.mem_append_right _ (show w ∈ tables_1 from (List.mem_append_right _ (List.mem_append_right _ (List.mem_append_right _ (List.mem_append_right _ (List.mem_append_right _ (List.mem_append_right _ (List.mem_append_right _ h))))))))
def cwd (m : Nat) : Jvm.Cond := .code (yOf m) (cOf m) (mMl.getD m 0) (rtOf m)
set_option maxRecDepth 20000 in
theorem cw_0 : Jvm.Cond.code yX0_init cX0_init 1 (Option.none : Option FieldType) ∈ GW := List.mem_filter.mpr ⟨lwIn_1 (List.mem_of_getElem? (i := 138) rfl), rfl⟩
set_option maxRecDepth 20000 in
theorem cw_1 : Jvm.Cond.code yX0_clear cX0_clear 1 (Option.none : Option FieldType) ∈ GW := List.mem_filter.mpr ⟨lwIn_3 (List.mem_of_getElem? (i := 38) rfl), rfl⟩
set_option maxRecDepth 20000 in
theorem cw_2 : Jvm.Cond.code yX0_allFacts cX0_allFacts 1 (Option.some FieldType.int) ∈ GW := List.mem_filter.mpr ⟨lwIn_5 (List.mem_of_getElem? (i := 111) rfl), rfl⟩
set_option maxRecDepth 20000 in
theorem cw_3 : Jvm.Cond.code yX0_commonAt cX0_commonAt 4 (Option.some FieldType.int) ∈ GW := List.mem_filter.mpr ⟨lwIn_3 (List.mem_of_getElem? (i := 210) rfl), rfl⟩
set_option maxRecDepth 20000 in
theorem cw_4 : Jvm.Cond.code yX0_worthOf cX0_worthOf 4 (Option.some FieldType.int) ∈ GW := List.mem_filter.mpr ⟨lwIn_4 (List.mem_of_getElem? (i := 80) rfl), rfl⟩
set_option maxRecDepth 20000 in
theorem cw_5 : Jvm.Cond.code yX0_countGiving cX0_countGiving 4 (Option.some FieldType.int) ∈ GW := List.mem_filter.mpr ⟨lwIn_4 (List.mem_of_getElem? (i := 106) rfl), rfl⟩
set_option maxRecDepth 20000 in
theorem cw_6 : Jvm.Cond.code yX0_neededFor cX0_neededFor 4 (Option.some FieldType.int) ∈ GW := List.mem_filter.mpr ⟨lwIn_4 (List.mem_of_getElem? (i := 110) rfl), rfl⟩
set_option maxRecDepth 20000 in
theorem cw_7 : Jvm.Cond.code yX0_givesNew cX0_givesNew 4 (Option.some FieldType.boolean) ∈ GW := List.mem_filter.mpr ⟨lwIn_3 (List.mem_of_getElem? (i := 218) rfl), rfl⟩
set_option maxRecDepth 20000 in
theorem cw_8 : Jvm.Cond.code yX0_isClosed cX0_isClosed 3 (Option.some FieldType.boolean) ∈ GW := List.mem_filter.mpr ⟨lwIn_5 (List.mem_of_getElem? (i := 116) rfl), rfl⟩
set_option maxRecDepth 20000 in
theorem cw_9 : Jvm.Cond.code yX0_closed cX0_closed 6 (Option.some FieldType.int) ∈ GW := List.mem_filter.mpr ⟨lwIn_5 (List.mem_of_getElem? (i := 31) rfl), rfl⟩
set_option maxRecDepth 20000 in
theorem cw_10 : Jvm.Cond.code yX2_init cX2_init 1 (Option.none : Option FieldType) ∈ GW := List.mem_filter.mpr ⟨lwIn_1 (List.mem_of_getElem? (i := 132) rfl), rfl⟩
set_option maxRecDepth 20000 in
theorem cw_11 : Jvm.Cond.code yX2_setOut cX2_setOut 3 (Option.none : Option FieldType) ∈ GW := List.mem_filter.mpr ⟨lwIn_3 (List.mem_of_getElem? (i := 189) rfl), rfl⟩
set_option maxRecDepth 20000 in
theorem cw_12 : Jvm.Cond.code yX2_nextDay cX2_nextDay 5 (Option.none : Option FieldType) ∈ GW := List.mem_filter.mpr ⟨lwIn_3 (List.mem_of_getElem? (i := 202) rfl), rfl⟩
set_option maxRecDepth 20000 in
theorem cw_13 : Jvm.Cond.code yX2_meet cX2_meet 5 (Option.none : Option FieldType) ∈ GW := List.mem_filter.mpr ⟨lwIn_3 (List.mem_of_getElem? (i := 238) rfl), rfl⟩
set_option maxRecDepth 20000 in
theorem cw_14 : Jvm.Cond.code yX2_onesToTell cX2_onesToTell 4 (Option.some FieldType.int) ∈ GW := List.mem_filter.mpr ⟨lwIn_4 (List.mem_of_getElem? (i := 21) rfl), rfl⟩
set_option maxRecDepth 20000 in
theorem cw_15 : Jvm.Cond.code yX2_inferAll cX2_inferAll 6 (Option.none : Option FieldType) ∈ GW := List.mem_filter.mpr ⟨lwIn_3 (List.mem_of_getElem? (i := 214) rfl), rfl⟩
set_option maxRecDepth 20000 in
theorem cw_16 : Jvm.Cond.code yX2_hearAtDoor cX2_hearAtDoor 5 (Option.some FieldType.int) ∈ GW := List.mem_filter.mpr ⟨lwIn_4 (List.mem_of_getElem? (i := 188) rfl), rfl⟩
set_option maxRecDepth 20000 in
theorem cw_17 : Jvm.Cond.code yX2_inStock cX2_inStock 2 (Option.some FieldType.int) ∈ GW := List.mem_filter.mpr ⟨lwIn_4 (List.mem_of_getElem? (i := 6) rfl), rfl⟩
set_option maxRecDepth 20000 in
theorem cw_18 : Jvm.Cond.code yX2_blissOf cX2_blissOf 3 (Option.some FieldType.int) ∈ GW := List.mem_filter.mpr ⟨lwIn_4 (List.mem_of_getElem? (i := 76) rfl), rfl⟩
set_option maxRecDepth 20000 in
theorem cw_19 : Jvm.Cond.code yX2_blissOfAll cX2_blissOfAll 4 (Option.some FieldType.int) ∈ GW := List.mem_filter.mpr ⟨lwIn_4 (List.mem_of_getElem? (i := 72) rfl), rfl⟩
set_option maxRecDepth 20000 in
theorem cw_20 : Jvm.Cond.code yX2_priceOf cX2_priceOf 5 (Option.some FieldType.int) ∈ GW := List.mem_filter.mpr ⟨lwIn_4 (List.mem_of_getElem? (i := 139) rfl), rfl⟩
set_option maxRecDepth 20000 in
theorem cw_21 : Jvm.Cond.code yX2_lookAt cX2_lookAt 3 (Option.none : Option FieldType) ∈ GW := List.mem_filter.mpr ⟨lwIn_4 (List.mem_of_getElem? (i := 2) rfl), rfl⟩
set_option maxRecDepth 20000 in
theorem cw_22 : Jvm.Cond.code yX3_init cX3_init 2 (Option.none : Option FieldType) ∈ GW := List.mem_filter.mpr ⟨lwIn_2 (List.mem_of_getElem? (i := 134) rfl), rfl⟩
set_option maxRecDepth 20000 in
theorem cw_23 : Jvm.Cond.code yX3_forget cX3_forget 1 (Option.none : Option FieldType) ∈ GW := List.mem_filter.mpr ⟨lwIn_3 (List.mem_of_getElem? (i := 185) rfl), rfl⟩
set_option maxRecDepth 20000 in
theorem cw_24 : Jvm.Cond.code yX3_remember cX3_remember 2 (Option.none : Option FieldType) ∈ GW := List.mem_filter.mpr ⟨lwIn_4 (List.mem_of_getElem? (i := 163) rfl), rfl⟩
set_option maxRecDepth 20000 in
theorem cw_25 : Jvm.Cond.code yX3_bringBack cX3_bringBack 2 (Option.none : Option FieldType) ∈ GW := List.mem_filter.mpr ⟨lwIn_4 (List.mem_of_getElem? (i := 220) rfl), rfl⟩
set_option maxRecDepth 20000 in
theorem cw_26 : Jvm.Cond.code yX4_init cX4_init 1 (Option.none : Option FieldType) ∈ GW := List.mem_filter.mpr ⟨lwIn_2 (List.mem_of_getElem? (i := 119) rfl), rfl⟩
set_option maxRecDepth 20000 in
theorem cw_27 : Jvm.Cond.code yX4_draw cX4_draw 5 (Option.none : Option FieldType) ∈ GW := List.mem_filter.mpr ⟨lwIn_5 (List.mem_of_getElem? (i := 138) rfl), rfl⟩
set_option maxRecDepth 20000 in
theorem cw_28 : Jvm.Cond.code yX4_putTwo cX4_putTwo 2 (Option.none : Option FieldType) ∈ GW := List.mem_filter.mpr ⟨lwIn_5 (List.mem_of_getElem? (i := 142) rfl), rfl⟩
set_option maxRecDepth 20000 in
theorem cw_29 : Jvm.Cond.code yX4_putByte cX4_putByte 2 (Option.none : Option FieldType) ∈ GW := List.mem_filter.mpr ⟨lwIn_5 (List.mem_of_getElem? (i := 146) rfl), rfl⟩
set_option maxRecDepth 20000 in
theorem cw_30 : Jvm.Cond.code yX4_checkOf cX4_checkOf 4 (Option.some FieldType.int) ∈ GW := List.mem_filter.mpr ⟨lwIn_5 (List.mem_of_getElem? (i := 150) rfl), rfl⟩
set_option maxRecDepth 20000 in
theorem cw_31 : Jvm.Cond.code yX4_isRead cX4_isRead 7 (Option.some FieldType.boolean) ∈ GW := List.mem_filter.mpr ⟨lwIn_5 (List.mem_of_getElem? (i := 162) rfl), rfl⟩
set_option maxRecDepth 20000 in
theorem cw_32 : Jvm.Cond.code yX4_isPersonRead cX4_isPersonRead 7 (Option.some FieldType.boolean) ∈ GW := List.mem_filter.mpr ⟨lwIn_5 (List.mem_of_getElem? (i := 168) rfl), rfl⟩
set_option maxRecDepth 20000 in
theorem cw_33 : Jvm.Cond.code yX4_two cX4_two 2 (Option.some FieldType.int) ∈ GW := List.mem_filter.mpr ⟨lwIn_5 (List.mem_of_getElem? (i := 165) rfl), rfl⟩
set_option maxRecDepth 20000 in
theorem cw_34 : Jvm.Cond.code yX5_init cX5_init 1 (Option.none : Option FieldType) ∈ GW := List.mem_filter.mpr ⟨lwIn_2 (List.mem_of_getElem? (i := 80) rfl), rfl⟩
set_option maxRecDepth 20000 in
theorem cw_35 : Jvm.Cond.code yX5_prove cX5_prove 8 (Option.some FieldType.int) ∈ GW := List.mem_filter.mpr ⟨lwIn_5 (List.mem_of_getElem? (i := 40) rfl), rfl⟩
set_option maxRecDepth 20000 in
theorem cw_36 : Jvm.Cond.code yX5_writeRow cX5_writeRow 7 (Option.some FieldType.int) ∈ GW := List.mem_filter.mpr ⟨lwIn_5 (List.mem_of_getElem? (i := 44) rfl), rfl⟩
set_option maxRecDepth 20000 in
theorem cw_37 : Jvm.Cond.code yX5_givenBy cX5_givenBy 5 (Option.some FieldType.int) ∈ GW := List.mem_filter.mpr ⟨lwIn_5 (List.mem_of_getElem? (i := 49) rfl), rfl⟩
set_option maxRecDepth 20000 in
theorem cw_38 : Jvm.Cond.code yX5_dropGaps cX5_dropGaps 4 (Option.some FieldType.int) ∈ GW := List.mem_filter.mpr ⟨lwIn_5 (List.mem_of_getElem? (i := 53) rfl), rfl⟩
set_option maxRecDepth 20000 in
theorem cw_39 : Jvm.Cond.code yX5_leastCut cX5_leastCut 11 (Option.some FieldType.int) ∈ GW := List.mem_filter.mpr ⟨lwIn_5 (List.mem_of_getElem? (i := 62) rfl), rfl⟩
set_option maxRecDepth 20000 in
theorem cw_40 : Jvm.Cond.code yX5_costOf cX5_costOf 4 (Option.some FieldType.int) ∈ GW := List.mem_filter.mpr ⟨lwIn_5 (List.mem_of_getElem? (i := 66) rfl), rfl⟩
set_option maxRecDepth 20000 in
theorem cw_41 : Jvm.Cond.code yX5_askPrices cX5_askPrices 5 (Option.none : Option FieldType) ∈ GW := List.mem_filter.mpr ⟨lwIn_5 (List.mem_of_getElem? (i := 76) rfl), rfl⟩
set_option maxRecDepth 20000 in
theorem cw_42 : Jvm.Cond.code yX5_seeds cX5_seeds 7 (Option.some FieldType.int) ∈ GW := List.mem_filter.mpr ⟨lwIn_5 (List.mem_of_getElem? (i := 87) rfl), rfl⟩
set_option maxRecDepth 20000 in
theorem cw_43 : Jvm.Cond.code yX5_seedAt cX5_seedAt 5 (Option.some FieldType.int) ∈ GW := List.mem_filter.mpr ⟨lwIn_5 (List.mem_of_getElem? (i := 98) rfl), rfl⟩
set_option maxRecDepth 20000 in
theorem cw_44 : Jvm.Cond.code yX5_seedBit cX5_seedBit 1 (Option.some FieldType.int) ∈ GW := List.mem_filter.mpr ⟨lwIn_5 (List.mem_of_getElem? (i := 90) rfl), rfl⟩
set_option maxRecDepth 20000 in
theorem cw_45 : Jvm.Cond.code yX5_reached cX5_reached 7 (Option.some FieldType.int) ∈ GW := List.mem_filter.mpr ⟨lwIn_5 (List.mem_of_getElem? (i := 94) rfl), rfl⟩
set_option maxRecDepth 20000 in
theorem cw_46 : Jvm.Cond.code yX5_lookAtFace cX5_lookAtFace 7 (Option.none : Option FieldType) ∈ GW := List.mem_filter.mpr ⟨lwIn_5 (List.mem_of_getElem? (i := 106) rfl), rfl⟩
set_option maxRecDepth 20000 in
theorem cw_47 : Jvm.Cond.code yX5_comeToRest cX5_comeToRest 6 (Option.none : Option FieldType) ∈ GW := List.mem_filter.mpr ⟨lwIn_5 (List.mem_of_getElem? (i := 124) rfl), rfl⟩
set_option maxRecDepth 20000 in
theorem cw_48 : Jvm.Cond.code yX5_buyBest cX5_buyBest 11 (Option.none : Option FieldType) ∈ GW := List.mem_filter.mpr ⟨lwIn_5 (List.mem_of_getElem? (i := 128) rfl), rfl⟩
set_option maxRecDepth 20000 in
theorem cw_49 : Jvm.Cond.code yX6_init cX6_init 4 (Option.none : Option FieldType) ∈ GW := List.mem_filter.mpr ⟨lwIn_1 (List.mem_of_getElem? (i := 31) rfl), rfl⟩
set_option maxRecDepth 20000 in
theorem cw_50 : Jvm.Cond.code yX6_readText cX6_readText 5 (Option.some FieldType.int) ∈ GW := List.mem_filter.mpr ⟨lwIn_3 (List.mem_of_getElem? (i := 31) rfl), rfl⟩
set_option maxRecDepth 20000 in
theorem cw_51 : Jvm.Cond.code yX6_fail cX6_fail 3 (Option.some FieldType.boolean) ∈ GW := List.mem_filter.mpr ⟨lwIn_3 (List.mem_of_getElem? (i := 55) rfl), rfl⟩
set_option maxRecDepth 20000 in
theorem cw_52 : Jvm.Cond.code yX6_readNext cX6_readNext 3 (Option.none : Option FieldType) ∈ GW := List.mem_filter.mpr ⟨lwIn_3 (List.mem_of_getElem? (i := 43) rfl), rfl⟩
set_option maxRecDepth 20000 in
theorem cw_53 : Jvm.Cond.code yX6_readWord cX6_readWord 4 (Option.none : Option FieldType) ∈ GW := List.mem_filter.mpr ⟨lwIn_3 (List.mem_of_getElem? (i := 47) rfl), rfl⟩
set_option maxRecDepth 20000 in
theorem cw_54 : Jvm.Cond.code yX6_readDigits cX6_readDigits 1 (Option.none : Option FieldType) ∈ GW := List.mem_filter.mpr ⟨lwIn_3 (List.mem_of_getElem? (i := 51) rfl), rfl⟩
set_option maxRecDepth 20000 in
theorem cw_55 : Jvm.Cond.code yX6_pass cX6_pass 2 (Option.some FieldType.boolean) ∈ GW := List.mem_filter.mpr ⟨lwIn_3 (List.mem_of_getElem? (i := 79) rfl), rfl⟩
set_option maxRecDepth 20000 in
theorem cw_56 : Jvm.Cond.code yX6_passNumber cX6_passNumber 3 (Option.some FieldType.int) ∈ GW := List.mem_filter.mpr ⟨lwIn_3 (List.mem_of_getElem? (i := 83) rfl), rfl⟩
set_option maxRecDepth 20000 in
theorem cw_57 : Jvm.Cond.code yX6_passNewName cX6_passNewName 2 (Option.some FieldType.int) ∈ GW := List.mem_filter.mpr ⟨lwIn_3 (List.mem_of_getElem? (i := 71) rfl), rfl⟩
set_option maxRecDepth 20000 in
theorem cw_58 : Jvm.Cond.code yX6_passName cX6_passName 5 (Option.some FieldType.int) ∈ GW := List.mem_filter.mpr ⟨lwIn_3 (List.mem_of_getElem? (i := 91) rfl), rfl⟩
set_option maxRecDepth 20000 in
theorem cw_59 : Jvm.Cond.code yX6_find cX6_find 4 (Option.some FieldType.int) ∈ GW := List.mem_filter.mpr ⟨lwIn_3 (List.mem_of_getElem? (i := 75) rfl), rfl⟩
set_option maxRecDepth 20000 in
theorem cw_60 : Jvm.Cond.code yX6_readStatement cX6_readStatement 3 (Option.some FieldType.boolean) ∈ GW := List.mem_filter.mpr ⟨lwIn_3 (List.mem_of_getElem? (i := 59) rfl), rfl⟩
set_option maxRecDepth 20000 in
theorem cw_61 : Jvm.Cond.code yX6_isOneTooMany cX6_isOneTooMany 1 (Option.some FieldType.boolean) ∈ GW := List.mem_filter.mpr ⟨lwIn_3 (List.mem_of_getElem? (i := 63) rfl), rfl⟩
set_option maxRecDepth 20000 in
theorem cw_62 : Jvm.Cond.code yX6_readFact cX6_readFact 4 (Option.some FieldType.boolean) ∈ GW := List.mem_filter.mpr ⟨lwIn_3 (List.mem_of_getElem? (i := 67) rfl), rfl⟩
set_option maxRecDepth 20000 in
theorem cw_63 : Jvm.Cond.code yX6_readRule cX6_readRule 5 (Option.some FieldType.boolean) ∈ GW := List.mem_filter.mpr ⟨lwIn_3 (List.mem_of_getElem? (i := 87) rfl), rfl⟩
set_option maxRecDepth 20000 in
theorem cw_64 : Jvm.Cond.code yX6_readPerson cX6_readPerson 4 (Option.some FieldType.boolean) ∈ GW := List.mem_filter.mpr ⟨lwIn_3 (List.mem_of_getElem? (i := 95) rfl), rfl⟩
set_option maxRecDepth 20000 in
theorem cw_65 : Jvm.Cond.code yX6_readMeeting cX6_readMeeting 4 (Option.some FieldType.boolean) ∈ GW := List.mem_filter.mpr ⟨lwIn_3 (List.mem_of_getElem? (i := 99) rfl), rfl⟩
set_option maxRecDepth 20000 in
theorem cw_66 : Jvm.Cond.code yX6_readLicence cX6_readLicence 4 (Option.some FieldType.boolean) ∈ GW := List.mem_filter.mpr ⟨lwIn_3 (List.mem_of_getElem? (i := 103) rfl), rfl⟩
set_option maxRecDepth 20000 in
theorem cw_67 : Jvm.Cond.code yX6_passKnownFact cX6_passKnownFact 3 (Option.some FieldType.int) ∈ GW := List.mem_filter.mpr ⟨lwIn_3 (List.mem_of_getElem? (i := 107) rfl), rfl⟩
set_option maxRecDepth 20000 in
theorem cw_68 : Jvm.Cond.code yX6_readStock cX6_readStock 2 (Option.some FieldType.boolean) ∈ GW := List.mem_filter.mpr ⟨lwIn_3 (List.mem_of_getElem? (i := 111) rfl), rfl⟩
set_option maxRecDepth 20000 in
theorem cw_69 : Jvm.Cond.code yX6_keepPrice cX6_keepPrice 1 (Option.some FieldType.boolean) ∈ GW := List.mem_filter.mpr ⟨lwIn_3 (List.mem_of_getElem? (i := 147) rfl), rfl⟩
set_option maxRecDepth 20000 in
theorem cw_70 : Jvm.Cond.code yX6_keepTells cX6_keepTells 1 (Option.some FieldType.boolean) ∈ GW := List.mem_filter.mpr ⟨lwIn_3 (List.mem_of_getElem? (i := 181) rfl), rfl⟩
set_option maxRecDepth 20000 in
theorem cw_71 : Jvm.Cond.code yX6_put cX6_put 2 (Option.none : Option FieldType) ∈ GW := List.mem_filter.mpr ⟨lwIn_3 (List.mem_of_getElem? (i := 127) rfl), rfl⟩
set_option maxRecDepth 20000 in
theorem cw_72 : Jvm.Cond.code yX6_passOpening cX6_passOpening 1 (Option.some FieldType.boolean) ∈ GW := List.mem_filter.mpr ⟨lwIn_3 (List.mem_of_getElem? (i := 135) rfl), rfl⟩
set_option maxRecDepth 20000 in
theorem cw_73 : Jvm.Cond.code yX6_readTest cX6_readTest 3 (Option.some FieldType.boolean) ∈ GW := List.mem_filter.mpr ⟨lwIn_3 (List.mem_of_getElem? (i := 165) rfl), rfl⟩
set_option maxRecDepth 20000 in
theorem cw_74 : Jvm.Cond.code yX6_readBoth cX6_readBoth 3 (Option.some FieldType.boolean) ∈ GW := List.mem_filter.mpr ⟨lwIn_3 (List.mem_of_getElem? (i := 169) rfl), rfl⟩
set_option maxRecDepth 20000 in
theorem cw_75 : Jvm.Cond.code yX6_readFacet cX6_readFacet 2 (Option.some FieldType.boolean) ∈ GW := List.mem_filter.mpr ⟨lwIn_3 (List.mem_of_getElem? (i := 173) rfl), rfl⟩
set_option maxRecDepth 20000 in
theorem cw_76 : Jvm.Cond.code yX6_readPlainFacet cX6_readPlainFacet 2 (Option.some FieldType.boolean) ∈ GW := List.mem_filter.mpr ⟨lwIn_3 (List.mem_of_getElem? (i := 177) rfl), rfl⟩
set_option maxRecDepth 20000 in
theorem cw_77 : Jvm.Cond.code yX6_readSum cX6_readSum 4 (Option.some FieldType.boolean) ∈ GW := List.mem_filter.mpr ⟨lwIn_3 (List.mem_of_getElem? (i := 115) rfl), rfl⟩
set_option maxRecDepth 20000 in
theorem cw_78 : Jvm.Cond.code yX6_readProduct cX6_readProduct 4 (Option.some FieldType.boolean) ∈ GW := List.mem_filter.mpr ⟨lwIn_3 (List.mem_of_getElem? (i := 119) rfl), rfl⟩
set_option maxRecDepth 20000 in
theorem cw_79 : Jvm.Cond.code yX6_isEither cX6_isEither 5 (Option.some FieldType.boolean) ∈ GW := List.mem_filter.mpr ⟨lwIn_3 (List.mem_of_getElem? (i := 143) rfl), rfl⟩
set_option maxRecDepth 20000 in
theorem cw_80 : Jvm.Cond.code yX6_readPart cX6_readPart 1 (Option.some FieldType.boolean) ∈ GW := List.mem_filter.mpr ⟨lwIn_3 (List.mem_of_getElem? (i := 123) rfl), rfl⟩
set_option maxRecDepth 20000 in
theorem cw_81 : Jvm.Cond.code yX6_readInner cX6_readInner 2 (Option.some FieldType.boolean) ∈ GW := List.mem_filter.mpr ⟨lwIn_3 (List.mem_of_getElem? (i := 131) rfl), rfl⟩
set_option maxRecDepth 20000 in
theorem cw_82 : Jvm.Cond.code yX6_readPair cX6_readPair 3 (Option.some FieldType.boolean) ∈ GW := List.mem_filter.mpr ⟨lwIn_3 (List.mem_of_getElem? (i := 139) rfl), rfl⟩
set_option maxRecDepth 20000 in
theorem cw_83 : Jvm.Cond.code yX7_init cX7_init 1 (Option.none : Option FieldType) ∈ GW := List.mem_filter.mpr ⟨lwIn_2 (List.mem_of_getElem? (i := 141) rfl), rfl⟩
set_option maxRecDepth 20000 in
theorem cw_84 : Jvm.Cond.code yX7_clear cX7_clear 1 (Option.none : Option FieldType) ∈ GW := List.mem_filter.mpr ⟨lwIn_3 (List.mem_of_getElem? (i := 193) rfl), rfl⟩
set_option maxRecDepth 20000 in
theorem cw_85 : Jvm.Cond.code yX7_copyFrom cX7_copyFrom 2 (Option.none : Option FieldType) ∈ GW := List.mem_filter.mpr ⟨lwIn_4 (List.mem_of_getElem? (i := 167) rfl), rfl⟩
set_option maxRecDepth 20000 in
theorem cw_86 : Jvm.Cond.code yX7_countAnew cX7_countAnew 1 (Option.none : Option FieldType) ∈ GW := List.mem_filter.mpr ⟨lwIn_3 (List.mem_of_getElem? (i := 197) rfl), rfl⟩
set_option maxRecDepth 20000 in
theorem cw_87 : Jvm.Cond.code yX7_doesKnow cX7_doesKnow 3 (Option.some FieldType.boolean) ∈ GW := List.mem_filter.mpr ⟨lwIn_4 (List.mem_of_getElem? (i := 159) rfl), rfl⟩
set_option maxRecDepth 20000 in
theorem cw_88 : Jvm.Cond.code yX7_isValid cX7_isValid 3 (Option.some FieldType.boolean) ∈ GW := List.mem_filter.mpr ⟨lwIn_3 (List.mem_of_getElem? (i := 226) rfl), rfl⟩
set_option maxRecDepth 20000 in
theorem cw_89 : Jvm.Cond.code yX7_isOpenTo cX7_isOpenTo 3 (Option.some FieldType.boolean) ∈ GW := List.mem_filter.mpr ⟨lwIn_4 (List.mem_of_getElem? (i := 155) rfl), rfl⟩
set_option maxRecDepth 20000 in
theorem cw_90 : Jvm.Cond.code yX7_findValid cX7_findValid 4 (Option.none : Option FieldType) ∈ GW := List.mem_filter.mpr ⟨lwIn_3 (List.mem_of_getElem? (i := 206) rfl), rfl⟩
set_option maxRecDepth 20000 in
theorem cw_91 : Jvm.Cond.code yX7_countValid cX7_countValid 3 (Option.some FieldType.int) ∈ GW := List.mem_filter.mpr ⟨lwIn_4 (List.mem_of_getElem? (i := 10) rfl), rfl⟩
set_option maxRecDepth 20000 in
theorem cw_92 : Jvm.Cond.code yX7_countCoins cX7_countCoins 4 (Option.some FieldType.int) ∈ GW := List.mem_filter.mpr ⟨lwIn_4 (List.mem_of_getElem? (i := 68) rfl), rfl⟩
set_option maxRecDepth 20000 in
theorem cw_93 : Jvm.Cond.code yX7_countKeptOf cX7_countKeptOf 4 (Option.some FieldType.int) ∈ GW := List.mem_filter.mpr ⟨lwIn_4 (List.mem_of_getElem? (i := 123) rfl), rfl⟩
set_option maxRecDepth 20000 in
theorem cw_94 : Jvm.Cond.code yX7_take cX7_take 5 (Option.none : Option FieldType) ∈ GW := List.mem_filter.mpr ⟨lwIn_4 (List.mem_of_getElem? (i := 172) rfl), rfl⟩
set_option maxRecDepth 20000 in
theorem cw_95 : Jvm.Cond.code yX7_giveBack cX7_giveBack 3 (Option.none : Option FieldType) ∈ GW := List.mem_filter.mpr ⟨lwIn_4 (List.mem_of_getElem? (i := 180) rfl), rfl⟩
set_option maxRecDepth 20000 in
theorem cw_96 : Jvm.Cond.code yX7_infer cX7_infer 4 (Option.none : Option FieldType) ∈ GW := List.mem_filter.mpr ⟨lwIn_3 (List.mem_of_getElem? (i := 222) rfl), rfl⟩
set_option maxRecDepth 20000 in
theorem cw_97 : Jvm.Cond.code yX7_keep cX7_keep 2 (Option.none : Option FieldType) ∈ GW := List.mem_filter.mpr ⟨lwIn_3 (List.mem_of_getElem? (i := 233) rfl), rfl⟩
set_option maxRecDepth 20000 in
theorem cw_98 : Jvm.Cond.code yX8_init cX8_init 1 (Option.none : Option FieldType) ∈ GW := List.mem_filter.mpr ⟨lwIn_2 (List.mem_of_getElem? (i := 26) rfl), rfl⟩
set_option maxRecDepth 20000 in
theorem cw_99 : Jvm.Cond.code yX8_value cX8_value 4 (Option.some FieldType.int) ∈ GW := List.mem_filter.mpr ⟨lwIn_4 (List.mem_of_getElem? (i := 25) rfl), rfl⟩
set_option maxRecDepth 20000 in
theorem cw_100 : Jvm.Cond.code yX8_push cX8_push 2 (Option.none : Option FieldType) ∈ GW := List.mem_filter.mpr ⟨lwIn_4 (List.mem_of_getElem? (i := 29) rfl), rfl⟩
set_option maxRecDepth 20000 in
theorem cw_101 : Jvm.Cond.code yX8_part cX8_part 2 (Option.some FieldType.int) ∈ GW := List.mem_filter.mpr ⟨lwIn_4 (List.mem_of_getElem? (i := 33) rfl), rfl⟩
set_option maxRecDepth 20000 in
theorem cw_102 : Jvm.Cond.code yX8_join cX8_join 5 (Option.some FieldType.long) ∈ GW := List.mem_filter.mpr ⟨lwIn_4 (List.mem_of_getElem? (i := 36) rfl), rfl⟩
set_option maxRecDepth 20000 in
theorem cw_103 : Jvm.Cond.code yX8_bounded cX8_bounded 2 (Option.some FieldType.int) ∈ GW := List.mem_filter.mpr ⟨lwIn_4 (List.mem_of_getElem? (i := 51) rfl), rfl⟩
set_option maxRecDepth 20000 in
theorem cw_104 : Jvm.Cond.code yX9_init cX9_init 1 (Option.none : Option FieldType) ∈ GW := List.mem_filter.mpr ⟨lwIn_1 (List.mem_of_getElem? (i := 23) rfl), rfl⟩
set_option maxRecDepth 20000 in
theorem cw_105 : Jvm.Cond.code yX9_feed cX9_feed 6 (Option.some FieldType.int) ∈ GW := List.mem_filter.mpr ⟨lwIn_3 (List.mem_of_getElem? (i := 11) rfl), rfl⟩
set_option maxRecDepth 20000 in
theorem cw_106 : Jvm.Cond.code yX9_end cX9_end 2 (Option.some FieldType.boolean) ∈ GW := List.mem_filter.mpr ⟨lwIn_3 (List.mem_of_getElem? (i := 23) rfl), rfl⟩
set_option maxRecDepth 20000 in
theorem cw_107 : Jvm.Cond.code yX9_capital cX9_capital 4 (Option.some FieldType.int) ∈ GW := List.mem_filter.mpr ⟨lwIn_3 (List.mem_of_getElem? (i := 27) rfl), rfl⟩
set_option maxRecDepth 20000 in
theorem cw_108 : Jvm.Cond.code yX9_fault cX9_fault 2 (Option.some FieldType.int) ∈ GW := List.mem_filter.mpr ⟨lwIn_4 (List.mem_of_getElem? (i := 57) rfl), rfl⟩
set_option maxRecDepth 20000 in
theorem cw_109 : Jvm.Cond.code yX9_has cX9_has 3 (Option.some FieldType.int) ∈ GW := List.mem_filter.mpr ⟨lwIn_4 (List.mem_of_getElem? (i := 61) rfl), rfl⟩
set_option maxRecDepth 20000 in
theorem cw_110 : Jvm.Cond.code yX9_letter cX9_letter 4 (Option.some FieldType.int) ∈ GW := List.mem_filter.mpr ⟨lwIn_4 (List.mem_of_getElem? (i := 84) rfl), rfl⟩
set_option maxRecDepth 20000 in
theorem cw_111 : Jvm.Cond.code yX9_fact cX9_fact 4 (Option.some FieldType.int) ∈ GW := List.mem_filter.mpr ⟨lwIn_4 (List.mem_of_getElem? (i := 99) rfl), rfl⟩
set_option maxRecDepth 20000 in
theorem cw_112 : Jvm.Cond.code yX9_rule cX9_rule 3 (Option.some FieldType.int) ∈ GW := List.mem_filter.mpr ⟨lwIn_4 (List.mem_of_getElem? (i := 114) rfl), rfl⟩
set_option maxRecDepth 20000 in
theorem cw_113 : Jvm.Cond.code yX9_person cX9_person 3 (Option.some FieldType.int) ∈ GW := List.mem_filter.mpr ⟨lwIn_4 (List.mem_of_getElem? (i := 118) rfl), rfl⟩
set_option maxRecDepth 20000 in
theorem cw_114 : Jvm.Cond.code yX9_licence cX9_licence 3 (Option.some FieldType.int) ∈ GW := List.mem_filter.mpr ⟨lwIn_4 (List.mem_of_getElem? (i := 130) rfl), rfl⟩
set_option maxRecDepth 20000 in
theorem cw_115 : Jvm.Cond.code yX9_price cX9_price 4 (Option.some FieldType.int) ∈ GW := List.mem_filter.mpr ⟨lwIn_4 (List.mem_of_getElem? (i := 135) rfl), rfl⟩
set_option maxRecDepth 20000 in
theorem cw_116 : Jvm.Cond.code yX9_buy cX9_buy 5 (Option.some FieldType.int) ∈ GW := List.mem_filter.mpr ⟨lwIn_4 (List.mem_of_getElem? (i := 147) rfl), rfl⟩
set_option maxRecDepth 20000 in
theorem cw_117 : Jvm.Cond.code yX9_back cX9_back 3 (Option.some FieldType.boolean) ∈ GW := List.mem_filter.mpr ⟨lwIn_4 (List.mem_of_getElem? (i := 176) rfl), rfl⟩
set_option maxRecDepth 20000 in
theorem cw_118 : Jvm.Cond.code yX9_word cX9_word 3 (Option.some FieldType.int) ∈ GW := List.mem_filter.mpr ⟨lwIn_4 (List.mem_of_getElem? (i := 184) rfl), rfl⟩
set_option maxRecDepth 20000 in
theorem cw_119 : Jvm.Cond.code yX9_days cX9_days 3 (Option.some FieldType.int) ∈ GW := List.mem_filter.mpr ⟨lwIn_4 (List.mem_of_getElem? (i := 192) rfl), rfl⟩
set_option maxRecDepth 20000 in
theorem cw_120 : Jvm.Cond.code yX9_rumours cX9_rumours 3 (Option.some FieldType.int) ∈ GW := List.mem_filter.mpr ⟨lwIn_4 (List.mem_of_getElem? (i := 202) rfl), rfl⟩
set_option maxRecDepth 20000 in
theorem cw_121 : Jvm.Cond.code yX9_undo cX9_undo 1 (Option.some FieldType.boolean) ∈ GW := List.mem_filter.mpr ⟨lwIn_4 (List.mem_of_getElem? (i := 216) rfl), rfl⟩
set_option maxRecDepth 20000 in
theorem cw_122 : Jvm.Cond.code yX9_seed cX9_seed 2 (Option.some FieldType.boolean) ∈ GW := List.mem_filter.mpr ⟨lwIn_4 (List.mem_of_getElem? (i := 224) rfl), rfl⟩
set_option maxRecDepth 20000 in
theorem cw_123 : Jvm.Cond.code yX9_kept cX9_kept 3 (Option.some FieldType.int) ∈ GW := List.mem_filter.mpr ⟨lwIn_4 (List.mem_of_getElem? (i := 228) rfl), rfl⟩
set_option maxRecDepth 20000 in
theorem cw_124 : Jvm.Cond.code yX9_when cX9_when 4 (Option.some FieldType.int) ∈ GW := List.mem_filter.mpr ⟨lwIn_4 (List.mem_of_getElem? (i := 233) rfl), rfl⟩
set_option maxRecDepth 20000 in
theorem cw_125 : Jvm.Cond.code yX9_breach cX9_breach 3 (Option.some FieldType.int) ∈ GW := List.mem_filter.mpr ⟨lwIn_5 (List.mem_of_getElem? (i := 3) rfl), rfl⟩
set_option maxRecDepth 20000 in
theorem cw_126 : Jvm.Cond.code yX9_bliss cX9_bliss 3 (Option.some FieldType.int) ∈ GW := List.mem_filter.mpr ⟨lwIn_5 (List.mem_of_getElem? (i := 7) rfl), rfl⟩
set_option maxRecDepth 20000 in
theorem cw_127 : Jvm.Cond.code yX9_surprise cX9_surprise 5 (Option.some FieldType.int) ∈ GW := List.mem_filter.mpr ⟨lwIn_5 (List.mem_of_getElem? (i := 19) rfl), rfl⟩
set_option maxRecDepth 20000 in
theorem cw_128 : Jvm.Cond.code yX9_follows cX9_follows 2 (Option.some FieldType.int) ∈ GW := List.mem_filter.mpr ⟨lwIn_5 (List.mem_of_getElem? (i := 23) rfl), rfl⟩
set_option maxRecDepth 20000 in
theorem cw_129 : Jvm.Cond.code yX9_by cX9_by 5 (Option.some FieldType.int) ∈ GW := List.mem_filter.mpr ⟨lwIn_5 (List.mem_of_getElem? (i := 36) rfl), rfl⟩
set_option maxRecDepth 20000 in
theorem cw_130 : Jvm.Cond.code yX9_barred cX9_barred 5 (Option.some FieldType.int) ∈ GW := List.mem_filter.mpr ⟨lwIn_5 (List.mem_of_getElem? (i := 57) rfl), rfl⟩
set_option maxRecDepth 20000 in
theorem cw_131 : Jvm.Cond.code yX9_cheapest cX9_cheapest 6 (Option.some FieldType.int) ∈ GW := List.mem_filter.mpr ⟨lwIn_5 (List.mem_of_getElem? (i := 72) rfl), rfl⟩
set_option maxRecDepth 20000 in
theorem cw_132 : Jvm.Cond.code yX9_seeded cX9_seeded 4 (Option.some FieldType.int) ∈ GW := List.mem_filter.mpr ⟨lwIn_5 (List.mem_of_getElem? (i := 83) rfl), rfl⟩
set_option maxRecDepth 20000 in
theorem cw_133 : Jvm.Cond.code yX9_face cX9_face 3 (Option.some FieldType.int) ∈ GW := List.mem_filter.mpr ⟨lwIn_5 (List.mem_of_getElem? (i := 102) rfl), rfl⟩
set_option maxRecDepth 20000 in
theorem cw_134 : Jvm.Cond.code yX9_rest cX9_rest 2 (Option.some FieldType.int) ∈ GW := List.mem_filter.mpr ⟨lwIn_5 (List.mem_of_getElem? (i := 120) rfl), rfl⟩
set_option maxRecDepth 20000 in
theorem cw_135 : Jvm.Cond.code yX9_image cX9_image 1 (Option.some FieldType.int) ∈ GW := List.mem_filter.mpr ⟨lwIn_5 (List.mem_of_getElem? (i := 134) rfl), rfl⟩
set_option maxRecDepth 20000 in
theorem cw_136 : Jvm.Cond.code yX9_octet cX9_octet 2 (Option.some FieldType.int) ∈ GW := List.mem_filter.mpr ⟨lwIn_5 (List.mem_of_getElem? (i := 154) rfl), rfl⟩
set_option maxRecDepth 20000 in
theorem cw_137 : Jvm.Cond.code yX9_on cX9_on 2 (Option.some FieldType.boolean) ∈ GW := List.mem_filter.mpr ⟨lwIn_5 (List.mem_of_getElem? (i := 158) rfl), rfl⟩
set_option maxRecDepth 20000 in
theorem cw_138 : Jvm.Cond.code yX9_status cX9_status 2 (Option.some FieldType.int) ∈ GW := List.mem_filter.mpr ⟨lwIn_5 (List.mem_of_getElem? (i := 175) rfl), rfl⟩
set_option maxRecDepth 20000 in
theorem cw_139 : Jvm.Cond.code yX9_refuse cX9_refuse 2 (Option.some FieldType.int) ∈ GW := List.mem_filter.mpr ⟨lwIn_3 (List.mem_of_getElem? (i := 15) rfl), rfl⟩
set_option maxRecDepth 20000 in
theorem cw_140 : Jvm.Cond.code yX9_putNumber cX9_putNumber 3 (Option.none : Option FieldType) ∈ GW := List.mem_filter.mpr ⟨lwIn_3 (List.mem_of_getElem? (i := 19) rfl), rfl⟩
set_option maxRecDepth 20000 in
theorem cw_141 : Jvm.Cond.code yX9_isFact cX9_isFact 2 (Option.some FieldType.boolean) ∈ GW := List.mem_filter.mpr ⟨lwIn_4 (List.mem_of_getElem? (i := 88) rfl), rfl⟩
set_option maxRecDepth 20000 in
theorem cw_142 : Jvm.Cond.code yX9_areFacts cX9_areFacts 2 (Option.some FieldType.boolean) ∈ GW := List.mem_filter.mpr ⟨lwIn_5 (List.mem_of_getElem? (i := 27) rfl), rfl⟩
set_option maxRecDepth 20000 in
theorem cw_143 : Jvm.Cond.code yX9_isPerson cX9_isPerson 2 (Option.some FieldType.boolean) ∈ GW := List.mem_filter.mpr ⟨lwIn_4 (List.mem_of_getElem? (i := 95) rfl), rfl⟩
set_option maxRecDepth 20000 in
theorem cw_144 : Jvm.Cond.code yX9_isAhead cX9_isAhead 2 (Option.some FieldType.boolean) ∈ GW := List.mem_filter.mpr ⟨lwIn_5 (List.mem_of_getElem? (i := 11) rfl), rfl⟩
set_option maxRecDepth 20000 in
theorem cw_145 : Jvm.Cond.code yX9_canGoBy cX9_canGoBy 2 (Option.some FieldType.boolean) ∈ GW := List.mem_filter.mpr ⟨lwIn_4 (List.mem_of_getElem? (i := 196) rfl), rfl⟩
set_option maxRecDepth 20000 in
theorem cw_146 : Jvm.Cond.code yX9_canBuy cX9_canBuy 4 (Option.some FieldType.boolean) ∈ GW := List.mem_filter.mpr ⟨lwIn_4 (List.mem_of_getElem? (i := 151) rfl), rfl⟩
set_option maxRecDepth 20000 in
theorem cw_147 : Jvm.Cond.code yX9_lookAhead cX9_lookAhead 1 (Option.none : Option FieldType) ∈ GW := List.mem_filter.mpr ⟨lwIn_4 (List.mem_of_getElem? (i := 237) rfl), rfl⟩
set_option maxRecDepth 20000 in
theorem cw_148 : Jvm.Cond.code yX9_goAhead cX9_goAhead 3 (Option.none : Option FieldType) ∈ GW := List.mem_filter.mpr ⟨lwIn_5 (List.mem_of_getElem? (i := 15) rfl), rfl⟩
set_option maxRecDepth 20000 in
theorem cw_149 : Jvm.Cond.code yX9_spreadRumour cX9_spreadRumour 4 (Option.none : Option FieldType) ∈ GW := List.mem_filter.mpr ⟨lwIn_4 (List.mem_of_getElem? (i := 206) rfl), rfl⟩
set_option maxRecDepth 20000 in
theorem cw_150 : Jvm.Cond.code yX9_draw cX9_draw 2 (Option.some FieldType.int) ∈ GW := List.mem_filter.mpr ⟨lwIn_4 (List.mem_of_getElem? (i := 210) rfl), rfl⟩
set_option maxRecDepth 20000 in
theorem cw_151 : Jvm.Cond.code yX9_letterOf cX9_letterOf 2 (Option.some FieldType.int) ∈ GW := List.mem_filter.mpr ⟨lwIn_4 (List.mem_of_getElem? (i := 91) rfl), rfl⟩
set_option maxRecDepth 20000 in
theorem cw_152 : Jvm.Cond.code yX9_countWith cX9_countWith 4 (Option.some FieldType.int) ∈ GW := List.mem_filter.mpr ⟨lwIn_4 (List.mem_of_getElem? (i := 102) rfl), rfl⟩
set_option maxRecDepth 20000 in
theorem cw_153 : Jvm.Cond.code yX9_packBreach cX9_packBreach 4 (Option.some FieldType.int) ∈ GW := List.mem_filter.mpr ⟨lwIn_3 (List.mem_of_getElem? (i := 229) rfl), rfl⟩
set_option maxRecDepth 20000 in
theorem cw_154 : Jvm.Cond.code yX9_partOfBreach cX9_partOfBreach 2 (Option.some FieldType.int) ∈ GW := List.mem_filter.mpr ⟨lwIn_4 (List.mem_of_getElem? (i := 126) rfl), rfl⟩
set_option maxRecDepth 20000 in
theorem cw_155 : Jvm.Cond.code yX10_init cX10_init 2 (Option.none : Option FieldType) ∈ GW := List.mem_filter.mpr ⟨lwIn_5 (List.mem_of_getElem? (i := 180) rfl), rfl⟩
set_option maxRecDepth 20000 in
theorem cw_156 : Jvm.Cond.code yX10_is cX10_is 3 (Option.some FieldType.boolean) ∈ GW := List.mem_filter.mpr ⟨lwIn_7 (List.mem_of_getElem? (i := 51) rfl), rfl⟩
set_option maxRecDepth 20000 in
theorem cw_157 : Jvm.Cond.code yX10_put cX10_put 3 (Option.none : Option FieldType) ∈ GW := List.mem_filter.mpr ⟨lwIn_6 (List.mem_of_getElem? (i := 192) rfl), rfl⟩
set_option maxRecDepth 20000 in
theorem cw_158 : Jvm.Cond.code yX10_feed cX10_feed 6 (Option.some FieldType.int) ∈ GW := List.mem_filter.mpr ⟨lwIn_6 (List.mem_of_getElem? (i := 184) rfl), rfl⟩
set_option maxRecDepth 20000 in
theorem cw_159 : Jvm.Cond.code yX10_end cX10_end 2 (Option.some FieldType.boolean) ∈ GW := List.mem_filter.mpr ⟨lwIn_6 (List.mem_of_getElem? (i := 196) rfl), rfl⟩
set_option maxRecDepth 20000 in
theorem cw_160 : Jvm.Cond.code yX10_blame cX10_blame 3 (Option.none : Option FieldType) ∈ GW := List.mem_filter.mpr ⟨lwIn_7 (List.mem_of_getElem? (i := 12) rfl), rfl⟩
set_option maxRecDepth 20000 in
theorem cw_161 : Jvm.Cond.code yX10_isLetter cX10_isLetter 1 (Option.some FieldType.boolean) ∈ GW := List.mem_filter.mpr ⟨lwIn_6 (List.mem_of_getElem? (i := 207) rfl), rfl⟩
set_option maxRecDepth 20000 in
theorem cw_162 : Jvm.Cond.code yX10_isDigit cX10_isDigit 1 (Option.some FieldType.boolean) ∈ GW := List.mem_filter.mpr ⟨lwIn_6 (List.mem_of_getElem? (i := 210) rfl), rfl⟩
set_option maxRecDepth 20000 in
theorem cw_163 : Jvm.Cond.code yX10_lex cX10_lex 1 (Option.none : Option FieldType) ∈ GW := List.mem_filter.mpr ⟨lwIn_7 (List.mem_of_getElem? (i := 8) rfl), rfl⟩
set_option maxRecDepth 20000 in
theorem cw_164 : Jvm.Cond.code yX10_ahead cX10_ahead 6 (Option.none : Option FieldType) ∈ GW := List.mem_filter.mpr ⟨lwIn_6 (List.mem_of_getElem? (i := 204) rfl), rfl⟩
set_option maxRecDepth 20000 in
theorem cw_165 : Jvm.Cond.code yX10_isSign cX10_isSign 2 (Option.some FieldType.boolean) ∈ GW := List.mem_filter.mpr ⟨lwIn_7 (List.mem_of_getElem? (i := 105) rfl), rfl⟩
set_option maxRecDepth 20000 in
theorem cw_166 : Jvm.Cond.code yX10_isWord cX10_isWord 3 (Option.some FieldType.boolean) ∈ GW := List.mem_filter.mpr ⟨lwIn_7 (List.mem_of_getElem? (i := 16) rfl), rfl⟩
set_option maxRecDepth 20000 in
theorem cw_167 : Jvm.Cond.code yX10_must cX10_must 2 (Option.none : Option FieldType) ∈ GW := List.mem_filter.mpr ⟨lwIn_7 (List.mem_of_getElem? (i := 140) rfl), rfl⟩
set_option maxRecDepth 20000 in
theorem cw_168 : Jvm.Cond.code yX10_isOwn cX10_isOwn 3 (Option.some FieldType.boolean) ∈ GW := List.mem_filter.mpr ⟨lwIn_6 (List.mem_of_getElem? (i := 214) rfl), rfl⟩
set_option maxRecDepth 20000 in
theorem cw_169 : Jvm.Cond.code yX10_manyOf cX10_manyOf 3 (Option.some FieldType.int) ∈ GW := List.mem_filter.mpr ⟨lwIn_7 (List.mem_of_getElem? (i := 36) rfl), rfl⟩
set_option maxRecDepth 20000 in
theorem cw_170 : Jvm.Cond.code yX10_nameOf cX10_nameOf 4 (Option.some FieldType.long) ∈ GW := List.mem_filter.mpr ⟨lwIn_7 (List.mem_of_getElem? (i := 40) rfl), rfl⟩
set_option maxRecDepth 20000 in
theorem cw_171 : Jvm.Cond.code yX10_named cX10_named 5 (Option.some FieldType.int) ∈ GW := List.mem_filter.mpr ⟨lwIn_7 (List.mem_of_getElem? (i := 32) rfl), rfl⟩
set_option maxRecDepth 20000 in
theorem cw_172 : Jvm.Cond.code yX10_number cX10_number 4 (Option.some FieldType.int) ∈ GW := List.mem_filter.mpr ⟨lwIn_7 (List.mem_of_getElem? (i := 48) rfl), rfl⟩
set_option maxRecDepth 20000 in
theorem cw_173 : Jvm.Cond.code yX10_add cX10_add 3 (Option.none : Option FieldType) ∈ GW := List.mem_filter.mpr ⟨lwIn_7 (List.mem_of_getElem? (i := 113) rfl), rfl⟩
set_option maxRecDepth 20000 in
theorem cw_174 : Jvm.Cond.code yX10_rank cX10_rank 1 (Option.some FieldType.int) ∈ GW := List.mem_filter.mpr ⟨lwIn_7 (List.mem_of_getElem? (i := 124) rfl), rfl⟩
set_option maxRecDepth 20000 in
theorem cw_175 : Jvm.Cond.code yX10_joins cX10_joins 2 (Option.none : Option FieldType) ∈ GW := List.mem_filter.mpr ⟨lwIn_7 (List.mem_of_getElem? (i := 121) rfl), rfl⟩
set_option maxRecDepth 20000 in
theorem cw_176 : Jvm.Cond.code yX10_holdsBack cX10_holdsBack 2 (Option.none : Option FieldType) ∈ GW := List.mem_filter.mpr ⟨lwIn_7 (List.mem_of_getElem? (i := 101) rfl), rfl⟩
set_option maxRecDepth 20000 in
theorem cw_177 : Jvm.Cond.code yX10_pushes cX10_pushes 2 (Option.none : Option FieldType) ∈ GW := List.mem_filter.mpr ⟨lwIn_7 (List.mem_of_getElem? (i := 90) rfl), rfl⟩
set_option maxRecDepth 20000 in
theorem cw_178 : Jvm.Cond.code yX10_opens cX10_opens 2 (Option.none : Option FieldType) ∈ GW := List.mem_filter.mpr ⟨lwIn_7 (List.mem_of_getElem? (i := 109) rfl), rfl⟩
set_option maxRecDepth 20000 in
theorem cw_179 : Jvm.Cond.code yX10_isTest cX10_isTest 1 (Option.some FieldType.boolean) ∈ GW := List.mem_filter.mpr ⟨lwIn_7 (List.mem_of_getElem? (i := 97) rfl), rfl⟩
set_option maxRecDepth 20000 in
theorem cw_180 : Jvm.Cond.code yX10_operand cX10_operand 4 (Option.some FieldType.boolean) ∈ GW := List.mem_filter.mpr ⟨lwIn_7 (List.mem_of_getElem? (i := 94) rfl), rfl⟩
set_option maxRecDepth 20000 in
theorem cw_181 : Jvm.Cond.code yX10_goesOn cX10_goesOn 5 (Option.some FieldType.boolean) ∈ GW := List.mem_filter.mpr ⟨lwIn_7 (List.mem_of_getElem? (i := 117) rfl), rfl⟩
set_option maxRecDepth 20000 in
theorem cw_182 : Jvm.Cond.code yX10_reads cX10_reads 3 (Option.none : Option FieldType) ∈ GW := List.mem_filter.mpr ⟨lwIn_7 (List.mem_of_getElem? (i := 86) rfl), rfl⟩
set_option maxRecDepth 20000 in
theorem cw_183 : Jvm.Cond.code yX10_counts cX10_counts 2 (Option.some FieldType.boolean) ∈ GW := List.mem_filter.mpr ⟨lwIn_7 (List.mem_of_getElem? (i := 24) rfl), rfl⟩
set_option maxRecDepth 20000 in
theorem cw_184 : Jvm.Cond.code yX10_must_ cX10_must_ 3 (Option.none : Option FieldType) ∈ GW := List.mem_filter.mpr ⟨lwIn_7 (List.mem_of_getElem? (i := 44) rfl), rfl⟩
set_option maxRecDepth 20000 in
theorem cw_185 : Jvm.Cond.code yX10_fresh cX10_fresh 3 (Option.some FieldType.long) ∈ GW := List.mem_filter.mpr ⟨lwIn_7 (List.mem_of_getElem? (i := 28) rfl), rfl⟩
set_option maxRecDepth 20000 in
theorem cw_186 : Jvm.Cond.code yX10_looked cX10_looked 3 (Option.some FieldType.int) ∈ GW := List.mem_filter.mpr ⟨lwIn_7 (List.mem_of_getElem? (i := 63) rfl), rfl⟩
set_option maxRecDepth 20000 in
theorem cw_187 : Jvm.Cond.code yX10_asked cX10_asked 3 (Option.some FieldType.int) ∈ GW := List.mem_filter.mpr ⟨lwIn_7 (List.mem_of_getElem? (i := 59) rfl), rfl⟩
set_option maxRecDepth 20000 in
theorem cw_188 : Jvm.Cond.code yX10_facting cX10_facting 2 (Option.none : Option FieldType) ∈ GW := List.mem_filter.mpr ⟨lwIn_7 (List.mem_of_getElem? (i := 20) rfl), rfl⟩
set_option maxRecDepth 20000 in
theorem cw_189 : Jvm.Cond.code yX10_ruling cX10_ruling 5 (Option.none : Option FieldType) ∈ GW := List.mem_filter.mpr ⟨lwIn_7 (List.mem_of_getElem? (i := 55) rfl), rfl⟩
set_option maxRecDepth 20000 in
theorem cw_190 : Jvm.Cond.code yX10_personing cX10_personing 2 (Option.none : Option FieldType) ∈ GW := List.mem_filter.mpr ⟨lwIn_7 (List.mem_of_getElem? (i := 70) rfl), rfl⟩
set_option maxRecDepth 20000 in
theorem cw_191 : Jvm.Cond.code yX10_meeting cX10_meeting 2 (Option.none : Option FieldType) ∈ GW := List.mem_filter.mpr ⟨lwIn_7 (List.mem_of_getElem? (i := 74) rfl), rfl⟩
set_option maxRecDepth 20000 in
theorem cw_192 : Jvm.Cond.code yX10_licensing cX10_licensing 6 (Option.none : Option FieldType) ∈ GW := List.mem_filter.mpr ⟨lwIn_7 (List.mem_of_getElem? (i := 78) rfl), rfl⟩
set_option maxRecDepth 20000 in
theorem cw_193 : Jvm.Cond.code yX10_pricing cX10_pricing 1 (Option.none : Option FieldType) ∈ GW := List.mem_filter.mpr ⟨lwIn_7 (List.mem_of_getElem? (i := 82) rfl), rfl⟩
set_option maxRecDepth 20000 in
theorem cw_194 : Jvm.Cond.code yX10_telling cX10_telling 1 (Option.none : Option FieldType) ∈ GW := List.mem_filter.mpr ⟨lwIn_7 (List.mem_of_getElem? (i := 128) rfl), rfl⟩
set_option maxRecDepth 20000 in
theorem cw_195 : Jvm.Cond.code yX10_stocking cX10_stocking 2 (Option.none : Option FieldType) ∈ GW := List.mem_filter.mpr ⟨lwIn_7 (List.mem_of_getElem? (i := 132) rfl), rfl⟩
set_option maxRecDepth 20000 in
theorem cw_196 : Jvm.Cond.code yX10_statement cX10_statement 1 (Option.none : Option FieldType) ∈ GW := List.mem_filter.mpr ⟨lwIn_7 (List.mem_of_getElem? (i := 4) rfl), rfl⟩
set_option maxRecDepth 20000 in
theorem cw_197 : Jvm.Cond.code yX10_finishes cX10_finishes 3 (Option.none : Option FieldType) ∈ GW := List.mem_filter.mpr ⟨lwIn_7 (List.mem_of_getElem? (i := 136) rfl), rfl⟩
set_option maxRecDepth 20000 in
theorem cw_198 : Jvm.Cond.code yX10_capital cX10_capital 2 (Option.some FieldType.int) ∈ GW := List.mem_filter.mpr ⟨lwIn_6 (List.mem_of_getElem? (i := 200) rfl), rfl⟩
set_option maxRecDepth 20000 in
theorem cw_199 : Jvm.Cond.code yX10_fault cX10_fault 2 (Option.some FieldType.int) ∈ GW := List.mem_filter.mpr ⟨lwIn_7 (List.mem_of_getElem? (i := 210) rfl), rfl⟩
set_option maxRecDepth 20000 in
theorem cw_200 : Jvm.Cond.code yX10_refuses cX10_refuses 2 (Option.some FieldType.int) ∈ GW := List.mem_filter.mpr ⟨lwIn_6 (List.mem_of_getElem? (i := 188) rfl), rfl⟩
set_option maxRecDepth 20000 in
theorem cw_201 : Jvm.Cond.code yX10_status cX10_status 2 (Option.some FieldType.int) ∈ GW := List.mem_filter.mpr ⟨lwIn_7 (List.mem_of_getElem? (i := 214) rfl), rfl⟩
set_option maxRecDepth 20000 in
theorem cw_202 : Jvm.Cond.code yX10_isFact cX10_isFact 2 (Option.some FieldType.boolean) ∈ GW := List.mem_filter.mpr ⟨lwIn_8 (List.mem_of_getElem? (i := 11) rfl), rfl⟩
set_option maxRecDepth 20000 in
theorem cw_203 : Jvm.Cond.code yX10_isPerson cX10_isPerson 2 (Option.some FieldType.boolean) ∈ GW := List.mem_filter.mpr ⟨lwIn_8 (List.mem_of_getElem? (i := 23) rfl), rfl⟩
set_option maxRecDepth 20000 in
theorem cw_204 : Jvm.Cond.code yX10_isSet cX10_isSet 2 (Option.some FieldType.boolean) ∈ GW := List.mem_filter.mpr ⟨lwIn_8 (List.mem_of_getElem? (i := 124) rfl), rfl⟩
set_option maxRecDepth 20000 in
theorem cw_205 : Jvm.Cond.code yX10_holds cX10_holds 2 (Option.some FieldType.boolean) ∈ GW := List.mem_filter.mpr ⟨lwIn_7 (List.mem_of_getElem? (i := 66) rfl), rfl⟩
set_option maxRecDepth 20000 in
theorem cw_206 : Jvm.Cond.code yX10_bits cX10_bits 3 (Option.some FieldType.int) ∈ GW := List.mem_filter.mpr ⟨lwIn_7 (List.mem_of_getElem? (i := 195) rfl), rfl⟩
set_option maxRecDepth 20000 in
theorem cw_207 : Jvm.Cond.code yX10_copies cX10_copies 4 (Option.none : Option FieldType) ∈ GW := List.mem_filter.mpr ⟨lwIn_7 (List.mem_of_getElem? (i := 226) rfl), rfl⟩
set_option maxRecDepth 20000 in
theorem cw_208 : Jvm.Cond.code yX10_begin cX10_begin 2 (Option.none : Option FieldType) ∈ GW := List.mem_filter.mpr ⟨lwIn_7 (List.mem_of_getElem? (i := 144) rfl), rfl⟩
set_option maxRecDepth 20000 in
theorem cw_209 : Jvm.Cond.code yX10_ring cX10_ring 2 (Option.some FieldType.int) ∈ GW := List.mem_filter.mpr ⟨lwIn_7 (List.mem_of_getElem? (i := 222) rfl), rfl⟩
set_option maxRecDepth 20000 in
theorem cw_210 : Jvm.Cond.code yX10_keeps cX10_keeps 1 (Option.none : Option FieldType) ∈ GW := List.mem_filter.mpr ⟨lwIn_8 (List.mem_of_getElem? (i := 44) rfl), rfl⟩
set_option maxRecDepth 20000 in
theorem cw_211 : Jvm.Cond.code yX10_undo cX10_undo 1 (Option.some FieldType.boolean) ∈ GW := List.mem_filter.mpr ⟨lwIn_7 (List.mem_of_getElem? (i := 218) rfl), rfl⟩
set_option maxRecDepth 20000 in
theorem cw_212 : Jvm.Cond.code yX10_isValid cX10_isValid 4 (Option.some FieldType.boolean) ∈ GW := List.mem_filter.mpr ⟨lwIn_7 (List.mem_of_getElem? (i := 160) rfl), rfl⟩
set_option maxRecDepth 20000 in
theorem cw_213 : Jvm.Cond.code yX10_validOf cX10_validOf 5 (Option.some FieldType.int) ∈ GW := List.mem_filter.mpr ⟨lwIn_7 (List.mem_of_getElem? (i := 156) rfl), rfl⟩
set_option maxRecDepth 20000 in
theorem cw_214 : Jvm.Cond.code yX10_leftOf cX10_leftOf 4 (Option.some FieldType.int) ∈ GW := List.mem_filter.mpr ⟨lwIn_7 (List.mem_of_getElem? (i := 192) rfl), rfl⟩
set_option maxRecDepth 20000 in
theorem cw_215 : Jvm.Cond.code yX10_commonOn cX10_commonOn 4 (Option.some FieldType.int) ∈ GW := List.mem_filter.mpr ⟨lwIn_7 (List.mem_of_getElem? (i := 152) rfl), rfl⟩
set_option maxRecDepth 20000 in
theorem cw_216 : Jvm.Cond.code yX10_worthOf cX10_worthOf 4 (Option.some FieldType.int) ∈ GW := List.mem_filter.mpr ⟨lwIn_7 (List.mem_of_getElem? (i := 238) rfl), rfl⟩
set_option maxRecDepth 20000 in
theorem cw_217 : Jvm.Cond.code yX10_blissOf cX10_blissOf 3 (Option.some FieldType.int) ∈ GW := List.mem_filter.mpr ⟨lwIn_7 (List.mem_of_getElem? (i := 234) rfl), rfl⟩
set_option maxRecDepth 20000 in
theorem cw_218 : Jvm.Cond.code yX10_part cX10_part 4 (Option.some FieldType.long) ∈ GW := List.mem_filter.mpr ⟨lwIn_7 (List.mem_of_getElem? (i := 188) rfl), rfl⟩
set_option maxRecDepth 20000 in
theorem cw_219 : Jvm.Cond.code yX10_held cX10_held 2 (Option.some FieldType.long) ∈ GW := List.mem_filter.mpr ⟨lwIn_7 (List.mem_of_getElem? (i := 201) rfl), rfl⟩
set_option maxRecDepth 20000 in
theorem cw_220 : Jvm.Cond.code yX10_floor cX10_floor 6 (Option.some FieldType.long) ∈ GW := List.mem_filter.mpr ⟨lwIn_7 (List.mem_of_getElem? (i := 206) rfl), rfl⟩
set_option maxRecDepth 20000 in
theorem cw_221 : Jvm.Cond.code yX10_two cX10_two 5 (Option.some FieldType.long) ∈ GW := List.mem_filter.mpr ⟨lwIn_7 (List.mem_of_getElem? (i := 198) rfl), rfl⟩
set_option maxRecDepth 20000 in
theorem cw_222 : Jvm.Cond.code yX10_reckons cX10_reckons 6 (Option.some FieldType.long) ∈ GW := List.mem_filter.mpr ⟨lwIn_7 (List.mem_of_getElem? (i := 184) rfl), rfl⟩
set_option maxRecDepth 20000 in
theorem cw_223 : Jvm.Cond.code yX10_priceOf cX10_priceOf 7 (Option.some FieldType.int) ∈ GW := List.mem_filter.mpr ⟨lwIn_8 (List.mem_of_getElem? (i := 35) rfl), rfl⟩
set_option maxRecDepth 20000 in
theorem cw_224 : Jvm.Cond.code yX10_tells cX10_tells 5 (Option.some FieldType.boolean) ∈ GW := List.mem_filter.mpr ⟨lwIn_7 (List.mem_of_getElem? (i := 180) rfl), rfl⟩
set_option maxRecDepth 20000 in
theorem cw_225 : Jvm.Cond.code yX10_breaches cX10_breaches 6 (Option.none : Option FieldType) ∈ GW := List.mem_filter.mpr ⟨lwIn_7 (List.mem_of_getElem? (i := 172) rfl), rfl⟩
set_option maxRecDepth 20000 in
theorem cw_226 : Jvm.Cond.code yX10_gives cX10_gives 3 (Option.some FieldType.boolean) ∈ GW := List.mem_filter.mpr ⟨lwIn_7 (List.mem_of_getElem? (i := 168) rfl), rfl⟩
set_option maxRecDepth 20000 in
theorem cw_227 : Jvm.Cond.code yX10_infers cX10_infers 7 (Option.none : Option FieldType) ∈ GW := List.mem_filter.mpr ⟨lwIn_7 (List.mem_of_getElem? (i := 164) rfl), rfl⟩
set_option maxRecDepth 20000 in
theorem cw_228 : Jvm.Cond.code yX10_meets cX10_meets 8 (Option.none : Option FieldType) ∈ GW := List.mem_filter.mpr ⟨lwIn_7 (List.mem_of_getElem? (i := 176) rfl), rfl⟩
set_option maxRecDepth 20000 in
theorem cw_229 : Jvm.Cond.code yX10_dayBegins cX10_dayBegins 4 (Option.none : Option FieldType) ∈ GW := List.mem_filter.mpr ⟨lwIn_7 (List.mem_of_getElem? (i := 148) rfl), rfl⟩
set_option maxRecDepth 20000 in
theorem cw_230 : Jvm.Cond.code yX10_dayGoes cX10_dayGoes 2 (Option.none : Option FieldType) ∈ GW := List.mem_filter.mpr ⟨lwIn_8 (List.mem_of_getElem? (i := 64) rfl), rfl⟩
set_option maxRecDepth 20000 in
theorem cw_231 : Jvm.Cond.code yX10_has cX10_has 4 (Option.some FieldType.int) ∈ GW := List.mem_filter.mpr ⟨lwIn_7 (List.mem_of_getElem? (i := 230) rfl), rfl⟩
set_option maxRecDepth 20000 in
theorem cw_232 : Jvm.Cond.code yX10_letter cX10_letter 9 (Option.some FieldType.int) ∈ GW := List.mem_filter.mpr ⟨lwIn_8 (List.mem_of_getElem? (i := 2) rfl), rfl⟩
set_option maxRecDepth 20000 in
theorem cw_233 : Jvm.Cond.code yX10_fact cX10_fact 5 (Option.some FieldType.int) ∈ GW := List.mem_filter.mpr ⟨lwIn_8 (List.mem_of_getElem? (i := 7) rfl), rfl⟩
set_option maxRecDepth 20000 in
theorem cw_234 : Jvm.Cond.code yX10_rule cX10_rule 3 (Option.some FieldType.int) ∈ GW := List.mem_filter.mpr ⟨lwIn_8 (List.mem_of_getElem? (i := 15) rfl), rfl⟩
set_option maxRecDepth 20000 in
theorem cw_235 : Jvm.Cond.code yX10_person cX10_person 5 (Option.some FieldType.int) ∈ GW := List.mem_filter.mpr ⟨lwIn_8 (List.mem_of_getElem? (i := 19) rfl), rfl⟩
set_option maxRecDepth 20000 in
theorem cw_236 : Jvm.Cond.code yX10_licence cX10_licence 3 (Option.some FieldType.int) ∈ GW := List.mem_filter.mpr ⟨lwIn_8 (List.mem_of_getElem? (i := 27) rfl), rfl⟩
set_option maxRecDepth 20000 in
theorem cw_237 : Jvm.Cond.code yX10_price cX10_price 4 (Option.some FieldType.int) ∈ GW := List.mem_filter.mpr ⟨lwIn_8 (List.mem_of_getElem? (i := 31) rfl), rfl⟩
set_option maxRecDepth 20000 in
theorem cw_238 : Jvm.Cond.code yX10_buy cX10_buy 6 (Option.some FieldType.int) ∈ GW := List.mem_filter.mpr ⟨lwIn_8 (List.mem_of_getElem? (i := 40) rfl), rfl⟩
set_option maxRecDepth 20000 in
theorem cw_239 : Jvm.Cond.code yX10_back cX10_back 3 (Option.some FieldType.boolean) ∈ GW := List.mem_filter.mpr ⟨lwIn_8 (List.mem_of_getElem? (i := 48) rfl), rfl⟩
set_option maxRecDepth 20000 in
theorem cw_240 : Jvm.Cond.code yX10_mayHear cX10_mayHear 4 (Option.some FieldType.boolean) ∈ GW := List.mem_filter.mpr ⟨lwIn_8 (List.mem_of_getElem? (i := 56) rfl), rfl⟩
set_option maxRecDepth 20000 in
theorem cw_241 : Jvm.Cond.code yX10_word cX10_word 4 (Option.some FieldType.int) ∈ GW := List.mem_filter.mpr ⟨lwIn_8 (List.mem_of_getElem? (i := 52) rfl), rfl⟩
set_option maxRecDepth 20000 in
theorem cw_242 : Jvm.Cond.code yX10_days cX10_days 3 (Option.some FieldType.int) ∈ GW := List.mem_filter.mpr ⟨lwIn_8 (List.mem_of_getElem? (i := 60) rfl), rfl⟩
set_option maxRecDepth 20000 in
theorem cw_243 : Jvm.Cond.code yX10_draw cX10_draw 2 (Option.some FieldType.int) ∈ GW := List.mem_filter.mpr ⟨lwIn_8 (List.mem_of_getElem? (i := 76) rfl), rfl⟩
set_option maxRecDepth 20000 in
theorem cw_244 : Jvm.Cond.code yX10_rumour cX10_rumour 3 (Option.none : Option FieldType) ∈ GW := List.mem_filter.mpr ⟨lwIn_8 (List.mem_of_getElem? (i := 72) rfl), rfl⟩
set_option maxRecDepth 20000 in
theorem cw_245 : Jvm.Cond.code yX10_rumours cX10_rumours 3 (Option.some FieldType.int) ∈ GW := List.mem_filter.mpr ⟨lwIn_8 (List.mem_of_getElem? (i := 68) rfl), rfl⟩
set_option maxRecDepth 20000 in
theorem cw_246 : Jvm.Cond.code yX10_seed cX10_seed 2 (Option.some FieldType.boolean) ∈ GW := List.mem_filter.mpr ⟨lwIn_8 (List.mem_of_getElem? (i := 84) rfl), rfl⟩
set_option maxRecDepth 20000 in
theorem cw_247 : Jvm.Cond.code yX10_kept cX10_kept 3 (Option.some FieldType.int) ∈ GW := List.mem_filter.mpr ⟨lwIn_8 (List.mem_of_getElem? (i := 88) rfl), rfl⟩
set_option maxRecDepth 20000 in
theorem cw_248 : Jvm.Cond.code yX10_lastAhead cX10_lastAhead 1 (Option.some FieldType.int) ∈ GW := List.mem_filter.mpr ⟨lwIn_8 (List.mem_of_getElem? (i := 96) rfl), rfl⟩
set_option maxRecDepth 20000 in
theorem cw_249 : Jvm.Cond.code yX10_isAhead cX10_isAhead 2 (Option.some FieldType.boolean) ∈ GW := List.mem_filter.mpr ⟨lwIn_8 (List.mem_of_getElem? (i := 108) rfl), rfl⟩
set_option maxRecDepth 20000 in
theorem cw_250 : Jvm.Cond.code yX10_goesAhead cX10_goesAhead 3 (Option.none : Option FieldType) ∈ GW := List.mem_filter.mpr ⟨lwIn_8 (List.mem_of_getElem? (i := 112) rfl), rfl⟩
set_option maxRecDepth 20000 in
theorem cw_251 : Jvm.Cond.code yX10_when cX10_when 4 (Option.some FieldType.int) ∈ GW := List.mem_filter.mpr ⟨lwIn_8 (List.mem_of_getElem? (i := 92) rfl), rfl⟩
set_option maxRecDepth 20000 in
theorem cw_252 : Jvm.Cond.code yX10_breach cX10_breach 3 (Option.some FieldType.int) ∈ GW := List.mem_filter.mpr ⟨lwIn_8 (List.mem_of_getElem? (i := 100) rfl), rfl⟩
set_option maxRecDepth 20000 in
theorem cw_253 : Jvm.Cond.code yX10_bliss cX10_bliss 3 (Option.some FieldType.int) ∈ GW := List.mem_filter.mpr ⟨lwIn_8 (List.mem_of_getElem? (i := 104) rfl), rfl⟩
set_option maxRecDepth 20000 in
theorem cw_254 : Jvm.Cond.code yX10_surprise cX10_surprise 5 (Option.some FieldType.int) ∈ GW := List.mem_filter.mpr ⟨lwIn_8 (List.mem_of_getElem? (i := 116) rfl), rfl⟩
set_option maxRecDepth 20000 in
theorem cw_255 : Jvm.Cond.code yX10_closed cX10_closed 5 (Option.some FieldType.int) ∈ GW := List.mem_filter.mpr ⟨lwIn_8 (List.mem_of_getElem? (i := 128) rfl), rfl⟩
set_option maxRecDepth 20000 in
theorem cw_256 : Jvm.Cond.code yX10_follows cX10_follows 2 (Option.some FieldType.int) ∈ GW := List.mem_filter.mpr ⟨lwIn_8 (List.mem_of_getElem? (i := 120) rfl), rfl⟩
set_option maxRecDepth 20000 in
theorem cw_257 : Jvm.Cond.code yX10_by cX10_by 8 (Option.some FieldType.int) ∈ GW := List.mem_filter.mpr ⟨lwIn_8 (List.mem_of_getElem? (i := 132) rfl), rfl⟩
set_option maxRecDepth 20000 in
theorem cw_258 : Jvm.Cond.code yX10_barred cX10_barred 7 (Option.some FieldType.int) ∈ GW := List.mem_filter.mpr ⟨lwIn_8 (List.mem_of_getElem? (i := 136) rfl), rfl⟩
set_option maxRecDepth 20000 in
theorem cw_259 : Jvm.Cond.code yX10_cheapest cX10_cheapest 11 (Option.some FieldType.int) ∈ GW := List.mem_filter.mpr ⟨lwIn_8 (List.mem_of_getElem? (i := 140) rfl), rfl⟩
set_option maxRecDepth 20000 in
theorem cw_260 : Jvm.Cond.code yX10_reachesAll cX10_reachesAll 7 (Option.some FieldType.boolean) ∈ GW := List.mem_filter.mpr ⟨lwIn_8 (List.mem_of_getElem? (i := 152) rfl), rfl⟩
set_option maxRecDepth 20000 in
theorem cw_261 : Jvm.Cond.code yX10_isAheadOf cX10_isAheadOf 3 (Option.some FieldType.boolean) ∈ GW := List.mem_filter.mpr ⟨lwIn_8 (List.mem_of_getElem? (i := 148) rfl), rfl⟩
set_option maxRecDepth 20000 in
theorem cw_262 : Jvm.Cond.code yX10_seeded cX10_seeded 6 (Option.some FieldType.int) ∈ GW := List.mem_filter.mpr ⟨lwIn_8 (List.mem_of_getElem? (i := 145) rfl), rfl⟩
set_option maxRecDepth 20000 in
theorem cw_263 : Jvm.Cond.code yX10_face cX10_face 8 (Option.some FieldType.int) ∈ GW := List.mem_filter.mpr ⟨lwIn_8 (List.mem_of_getElem? (i := 156) rfl), rfl⟩
set_option maxRecDepth 20000 in
theorem cw_264 : Jvm.Cond.code yX10_wantedBy cX10_wantedBy 8 (Option.some FieldType.int) ∈ GW := List.mem_filter.mpr ⟨lwIn_8 (List.mem_of_getElem? (i := 164) rfl), rfl⟩
set_option maxRecDepth 20000 in
theorem cw_265 : Jvm.Cond.code yX10_rest cX10_rest 9 (Option.some FieldType.int) ∈ GW := List.mem_filter.mpr ⟨lwIn_8 (List.mem_of_getElem? (i := 160) rfl), rfl⟩
set_option maxRecDepth 20000 in
theorem cw_266 : Jvm.Cond.code yX10_writes cX10_writes 2 (Option.none : Option FieldType) ∈ GW := List.mem_filter.mpr ⟨lwIn_8 (List.mem_of_getElem? (i := 176) rfl), rfl⟩
set_option maxRecDepth 20000 in
theorem cw_267 : Jvm.Cond.code yX10_writesTwo cX10_writesTwo 2 (Option.none : Option FieldType) ∈ GW := List.mem_filter.mpr ⟨lwIn_8 (List.mem_of_getElem? (i := 172) rfl), rfl⟩
set_option maxRecDepth 20000 in
theorem cw_268 : Jvm.Cond.code yX10_image cX10_image 3 (Option.some FieldType.int) ∈ GW := List.mem_filter.mpr ⟨lwIn_8 (List.mem_of_getElem? (i := 168) rfl), rfl⟩
set_option maxRecDepth 20000 in
theorem cw_269 : Jvm.Cond.code yX10_octet cX10_octet 2 (Option.some FieldType.int) ∈ GW := List.mem_filter.mpr ⟨lwIn_8 (List.mem_of_getElem? (i := 180) rfl), rfl⟩
set_option maxRecDepth 20000 in
theorem cw_270 : Jvm.Cond.code yX10_twoBytes cX10_twoBytes 2 (Option.some FieldType.int) ∈ GW := List.mem_filter.mpr ⟨lwIn_8 (List.mem_of_getElem? (i := 192) rfl), rfl⟩
set_option maxRecDepth 20000 in
theorem cw_271 : Jvm.Cond.code yX10_comesOn cX10_comesOn 8 (Option.some FieldType.boolean) ∈ GW := List.mem_filter.mpr ⟨lwIn_8 (List.mem_of_getElem? (i := 188) rfl), rfl⟩
set_option maxRecDepth 20000 in
theorem cw_272 : Jvm.Cond.code yX10_on cX10_on 2 (Option.some FieldType.boolean) ∈ GW := List.mem_filter.mpr ⟨lwIn_8 (List.mem_of_getElem? (i := 184) rfl), rfl⟩
set_option maxRecDepth 20000 in
theorem cw_273 : Jvm.Cond.code yJ6_bitCount_0f7a4 cJ6_bitCount_0f7a4 1 (Option.some FieldType.int) ∈ GW := List.mem_filter.mpr ⟨lwIn_4 (List.mem_of_getElem? (i := 13) rfl), rfl⟩
set_option maxRecDepth 20000 in
theorem cw_274 : Jvm.Cond.code yJ9_floorDiv_f86c9 cJ9_floorDiv_f86c9 6 (Option.some FieldType.long) ∈ GW := List.mem_filter.mpr ⟨lwIn_4 (List.mem_of_getElem? (i := 39) rfl), rfl⟩
set_option maxRecDepth 20000 in
theorem cw_275 : Jvm.Cond.code yJ9_floorMod_f86c9 cJ9_floorMod_f86c9 6 (Option.some FieldType.long) ∈ GW := List.mem_filter.mpr ⟨lwIn_4 (List.mem_of_getElem? (i := 42) rfl), rfl⟩
set_option maxRecDepth 20000 in
theorem cw_276 : Jvm.Cond.code yJ9_max_7cf53 cJ9_max_7cf53 2 (Option.some FieldType.int) ∈ GW := List.mem_filter.mpr ⟨lwIn_4 (List.mem_of_getElem? (i := 143) rfl), rfl⟩
set_option maxRecDepth 20000 in
theorem cw_277 : Jvm.Cond.code yJ9_max_f86c9 cJ9_max_f86c9 4 (Option.some FieldType.long) ∈ GW := List.mem_filter.mpr ⟨lwIn_4 (List.mem_of_getElem? (i := 48) rfl), rfl⟩
set_option maxRecDepth 20000 in
theorem cw_278 : Jvm.Cond.code yJ9_min_7cf53 cJ9_min_7cf53 2 (Option.some FieldType.int) ∈ GW := List.mem_filter.mpr ⟨lwIn_3 (List.mem_of_getElem? (i := 34) rfl), rfl⟩
set_option maxRecDepth 20000 in
theorem cw_279 : Jvm.Cond.code yJ9_min_f86c9 cJ9_min_f86c9 4 (Option.some FieldType.long) ∈ GW := List.mem_filter.mpr ⟨lwIn_4 (List.mem_of_getElem? (i := 45) rfl), rfl⟩
set_option maxRecDepth 20000 in
theorem cw_280 : Jvm.Cond.code yJ0_charAt_5068e cJ0_charAt_5068e 2 (Option.some FieldType.char) ∈ GW := List.mem_filter.mpr ⟨lwIn_1 (List.mem_of_getElem? (i := 37) rfl), rfl⟩
set_option maxRecDepth 20000 in
theorem cw_281 : Jvm.Cond.code yJ0_isLatin1_aae02 cJ0_isLatin1_aae02 1 (Option.some FieldType.boolean) ∈ GW := List.mem_filter.mpr ⟨lwIn_1 (List.mem_of_getElem? (i := 41) rfl), rfl⟩
set_option maxRecDepth 20000 in
theorem cw_282 : Jvm.Cond.code yJ0_checkIndex_df160 cJ0_checkIndex_df160 2 (Option.none : Option FieldType) ∈ GW := List.mem_filter.mpr ⟨lwIn_1 (List.mem_of_getElem? (i := 49) rfl), rfl⟩
set_option maxRecDepth 20000 in
theorem cw_283 : Jvm.Cond.code yJ1_charAt_3b067 cJ1_charAt_3b067 2 (Option.some FieldType.char) ∈ GW := List.mem_filter.mpr ⟨lwIn_1 (List.mem_of_getElem? (i := 46) rfl), rfl⟩
set_option maxRecDepth 20000 in
theorem cw_284 : Jvm.Cond.code yJ2_getChar_3b067 cJ2_getChar_3b067 2 (Option.some FieldType.char) ∈ GW := List.mem_filter.mpr ⟨lwIn_1 (List.mem_of_getElem? (i := 67) rfl), rfl⟩
set_option maxRecDepth 20000 in
theorem cw_285 : Jvm.Cond.code yJ2_length_9d52b cJ2_length_9d52b 1 (Option.some FieldType.int) ∈ GW := List.mem_filter.mpr ⟨lwIn_1 (List.mem_of_getElem? (i := 63) rfl), rfl⟩
set_option maxRecDepth 20000 in
theorem cw_286 : Jvm.Cond.code yJ2_charAt_3b067 cJ2_charAt_3b067 2 (Option.some FieldType.char) ∈ GW := List.mem_filter.mpr ⟨lwIn_1 (List.mem_of_getElem? (i := 57) rfl), rfl⟩
set_option maxRecDepth 20000 in
theorem cw_287 : Jvm.Cond.code yJ2_checkIndex_2214a cJ2_checkIndex_2214a 2 (Option.none : Option FieldType) ∈ GW := List.mem_filter.mpr ⟨lwIn_1 (List.mem_of_getElem? (i := 60) rfl), rfl⟩
set_option maxRecDepth 20000 in
theorem cw_288 : Jvm.Cond.code yJ7_fill_53178 cJ7_fill_53178 4 (Option.none : Option FieldType) ∈ GW := List.mem_filter.mpr ⟨lwIn_2 (List.mem_of_getElem? (i := 145) rfl), rfl⟩
set_option maxRecDepth 20000 in
theorem cw_289 : Jvm.Cond.code yJ7_copyOf_59c91 cJ7_copyOf_59c91 3 (Option.some (FieldType.array FieldType.int)) ∈ GW := List.mem_filter.mpr ⟨lwIn_3 (List.mem_of_getElem? (i := 150) rfl), rfl⟩
set_option maxRecDepth 20000 in
theorem cw_290 : Jvm.Cond.code yJ3_checkIndex_8e157 cJ3_checkIndex_8e157 3 (Option.some FieldType.int) ∈ GW := List.mem_filter.mpr ⟨lwIn_1 (List.mem_of_getElem? (i := 54) rfl), rfl⟩
set_option maxRecDepth 20000 in
theorem cws_0 : ∀ m ∈ [0, 1, 2, 3, 4, 5, 6, 7, 8, 9, 10, 11, 12, 13, 14, 15, 16, 17, 18, 19, 20, 21, 22, 23, 24, 25, 26, 27, 28, 29], cwd m ∈ GW := (List.forall_mem_cons.mpr ⟨cw_0, (List.forall_mem_cons.mpr ⟨cw_1, (List.forall_mem_cons.mpr ⟨cw_2, (List.forall_mem_cons.mpr ⟨cw_3, (List.forall_mem_cons.mpr ⟨cw_4, (List.forall_mem_cons.mpr ⟨cw_5, (List.forall_mem_cons.mpr ⟨cw_6, (List.forall_mem_cons.mpr ⟨cw_7, (List.forall_mem_cons.mpr ⟨cw_8, (List.forall_mem_cons.mpr ⟨cw_9, (List.forall_mem_cons.mpr ⟨cw_10, (List.forall_mem_cons.mpr ⟨cw_11, (List.forall_mem_cons.mpr ⟨cw_12, (List.forall_mem_cons.mpr ⟨cw_13, (List.forall_mem_cons.mpr ⟨cw_14, (List.forall_mem_cons.mpr ⟨cw_15, (List.forall_mem_cons.mpr ⟨cw_16, (List.forall_mem_cons.mpr ⟨cw_17, (List.forall_mem_cons.mpr ⟨cw_18, (List.forall_mem_cons.mpr ⟨cw_19, (List.forall_mem_cons.mpr ⟨cw_20, (List.forall_mem_cons.mpr ⟨cw_21, (List.forall_mem_cons.mpr ⟨cw_22, (List.forall_mem_cons.mpr ⟨cw_23, (List.forall_mem_cons.mpr ⟨cw_24, (List.forall_mem_cons.mpr ⟨cw_25, (List.forall_mem_cons.mpr ⟨cw_26, (List.forall_mem_cons.mpr ⟨cw_27, (List.forall_mem_cons.mpr ⟨cw_28, (List.forall_mem_cons.mpr ⟨cw_29, (fun _ h => absurd h List.not_mem_nil)⟩)⟩)⟩)⟩)⟩)⟩)⟩)⟩)⟩)⟩)⟩)⟩)⟩)⟩)⟩)⟩)⟩)⟩)⟩)⟩)⟩)⟩)⟩)⟩)⟩)⟩)⟩)⟩)⟩)⟩)
set_option maxRecDepth 20000 in
theorem cws_1 : ∀ m ∈ [30, 31, 32, 33, 34, 35, 36, 37, 38, 39, 40, 41, 42, 43, 44, 45, 46, 47, 48, 49, 50, 51, 52, 53, 54, 55, 56, 57, 58, 59], cwd m ∈ GW := (List.forall_mem_cons.mpr ⟨cw_30, (List.forall_mem_cons.mpr ⟨cw_31, (List.forall_mem_cons.mpr ⟨cw_32, (List.forall_mem_cons.mpr ⟨cw_33, (List.forall_mem_cons.mpr ⟨cw_34, (List.forall_mem_cons.mpr ⟨cw_35, (List.forall_mem_cons.mpr ⟨cw_36, (List.forall_mem_cons.mpr ⟨cw_37, (List.forall_mem_cons.mpr ⟨cw_38, (List.forall_mem_cons.mpr ⟨cw_39, (List.forall_mem_cons.mpr ⟨cw_40, (List.forall_mem_cons.mpr ⟨cw_41, (List.forall_mem_cons.mpr ⟨cw_42, (List.forall_mem_cons.mpr ⟨cw_43, (List.forall_mem_cons.mpr ⟨cw_44, (List.forall_mem_cons.mpr ⟨cw_45, (List.forall_mem_cons.mpr ⟨cw_46, (List.forall_mem_cons.mpr ⟨cw_47, (List.forall_mem_cons.mpr ⟨cw_48, (List.forall_mem_cons.mpr ⟨cw_49, (List.forall_mem_cons.mpr ⟨cw_50, (List.forall_mem_cons.mpr ⟨cw_51, (List.forall_mem_cons.mpr ⟨cw_52, (List.forall_mem_cons.mpr ⟨cw_53, (List.forall_mem_cons.mpr ⟨cw_54, (List.forall_mem_cons.mpr ⟨cw_55, (List.forall_mem_cons.mpr ⟨cw_56, (List.forall_mem_cons.mpr ⟨cw_57, (List.forall_mem_cons.mpr ⟨cw_58, (List.forall_mem_cons.mpr ⟨cw_59, (fun _ h => absurd h List.not_mem_nil)⟩)⟩)⟩)⟩)⟩)⟩)⟩)⟩)⟩)⟩)⟩)⟩)⟩)⟩)⟩)⟩)⟩)⟩)⟩)⟩)⟩)⟩)⟩)⟩)⟩)⟩)⟩)⟩)⟩)⟩)
set_option maxRecDepth 20000 in
theorem cws_2 : ∀ m ∈ [60, 61, 62, 63, 64, 65, 66, 67, 68, 69, 70, 71, 72, 73, 74, 75, 76, 77, 78, 79, 80, 81, 82, 83, 84, 85, 86, 87, 88, 89], cwd m ∈ GW := (List.forall_mem_cons.mpr ⟨cw_60, (List.forall_mem_cons.mpr ⟨cw_61, (List.forall_mem_cons.mpr ⟨cw_62, (List.forall_mem_cons.mpr ⟨cw_63, (List.forall_mem_cons.mpr ⟨cw_64, (List.forall_mem_cons.mpr ⟨cw_65, (List.forall_mem_cons.mpr ⟨cw_66, (List.forall_mem_cons.mpr ⟨cw_67, (List.forall_mem_cons.mpr ⟨cw_68, (List.forall_mem_cons.mpr ⟨cw_69, (List.forall_mem_cons.mpr ⟨cw_70, (List.forall_mem_cons.mpr ⟨cw_71, (List.forall_mem_cons.mpr ⟨cw_72, (List.forall_mem_cons.mpr ⟨cw_73, (List.forall_mem_cons.mpr ⟨cw_74, (List.forall_mem_cons.mpr ⟨cw_75, (List.forall_mem_cons.mpr ⟨cw_76, (List.forall_mem_cons.mpr ⟨cw_77, (List.forall_mem_cons.mpr ⟨cw_78, (List.forall_mem_cons.mpr ⟨cw_79, (List.forall_mem_cons.mpr ⟨cw_80, (List.forall_mem_cons.mpr ⟨cw_81, (List.forall_mem_cons.mpr ⟨cw_82, (List.forall_mem_cons.mpr ⟨cw_83, (List.forall_mem_cons.mpr ⟨cw_84, (List.forall_mem_cons.mpr ⟨cw_85, (List.forall_mem_cons.mpr ⟨cw_86, (List.forall_mem_cons.mpr ⟨cw_87, (List.forall_mem_cons.mpr ⟨cw_88, (List.forall_mem_cons.mpr ⟨cw_89, (fun _ h => absurd h List.not_mem_nil)⟩)⟩)⟩)⟩)⟩)⟩)⟩)⟩)⟩)⟩)⟩)⟩)⟩)⟩)⟩)⟩)⟩)⟩)⟩)⟩)⟩)⟩)⟩)⟩)⟩)⟩)⟩)⟩)⟩)⟩)
set_option maxRecDepth 20000 in
theorem cws_3 : ∀ m ∈ [90, 91, 92, 93, 94, 95, 96, 97, 98, 99, 100, 101, 102, 103, 104, 105, 106, 107, 108, 109, 110, 111, 112, 113, 114, 115, 116, 117, 118, 119], cwd m ∈ GW := (List.forall_mem_cons.mpr ⟨cw_90, (List.forall_mem_cons.mpr ⟨cw_91, (List.forall_mem_cons.mpr ⟨cw_92, (List.forall_mem_cons.mpr ⟨cw_93, (List.forall_mem_cons.mpr ⟨cw_94, (List.forall_mem_cons.mpr ⟨cw_95, (List.forall_mem_cons.mpr ⟨cw_96, (List.forall_mem_cons.mpr ⟨cw_97, (List.forall_mem_cons.mpr ⟨cw_98, (List.forall_mem_cons.mpr ⟨cw_99, (List.forall_mem_cons.mpr ⟨cw_100, (List.forall_mem_cons.mpr ⟨cw_101, (List.forall_mem_cons.mpr ⟨cw_102, (List.forall_mem_cons.mpr ⟨cw_103, (List.forall_mem_cons.mpr ⟨cw_104, (List.forall_mem_cons.mpr ⟨cw_105, (List.forall_mem_cons.mpr ⟨cw_106, (List.forall_mem_cons.mpr ⟨cw_107, (List.forall_mem_cons.mpr ⟨cw_108, (List.forall_mem_cons.mpr ⟨cw_109, (List.forall_mem_cons.mpr ⟨cw_110, (List.forall_mem_cons.mpr ⟨cw_111, (List.forall_mem_cons.mpr ⟨cw_112, (List.forall_mem_cons.mpr ⟨cw_113, (List.forall_mem_cons.mpr ⟨cw_114, (List.forall_mem_cons.mpr ⟨cw_115, (List.forall_mem_cons.mpr ⟨cw_116, (List.forall_mem_cons.mpr ⟨cw_117, (List.forall_mem_cons.mpr ⟨cw_118, (List.forall_mem_cons.mpr ⟨cw_119, (fun _ h => absurd h List.not_mem_nil)⟩)⟩)⟩)⟩)⟩)⟩)⟩)⟩)⟩)⟩)⟩)⟩)⟩)⟩)⟩)⟩)⟩)⟩)⟩)⟩)⟩)⟩)⟩)⟩)⟩)⟩)⟩)⟩)⟩)⟩)
set_option maxRecDepth 20000 in
theorem cws_4 : ∀ m ∈ [120, 121, 122, 123, 124, 125, 126, 127, 128, 129, 130, 131, 132, 133, 134, 135, 136, 137, 138, 139, 140, 141, 142, 143, 144, 145, 146, 147, 148, 149], cwd m ∈ GW := (List.forall_mem_cons.mpr ⟨cw_120, (List.forall_mem_cons.mpr ⟨cw_121, (List.forall_mem_cons.mpr ⟨cw_122, (List.forall_mem_cons.mpr ⟨cw_123, (List.forall_mem_cons.mpr ⟨cw_124, (List.forall_mem_cons.mpr ⟨cw_125, (List.forall_mem_cons.mpr ⟨cw_126, (List.forall_mem_cons.mpr ⟨cw_127, (List.forall_mem_cons.mpr ⟨cw_128, (List.forall_mem_cons.mpr ⟨cw_129, (List.forall_mem_cons.mpr ⟨cw_130, (List.forall_mem_cons.mpr ⟨cw_131, (List.forall_mem_cons.mpr ⟨cw_132, (List.forall_mem_cons.mpr ⟨cw_133, (List.forall_mem_cons.mpr ⟨cw_134, (List.forall_mem_cons.mpr ⟨cw_135, (List.forall_mem_cons.mpr ⟨cw_136, (List.forall_mem_cons.mpr ⟨cw_137, (List.forall_mem_cons.mpr ⟨cw_138, (List.forall_mem_cons.mpr ⟨cw_139, (List.forall_mem_cons.mpr ⟨cw_140, (List.forall_mem_cons.mpr ⟨cw_141, (List.forall_mem_cons.mpr ⟨cw_142, (List.forall_mem_cons.mpr ⟨cw_143, (List.forall_mem_cons.mpr ⟨cw_144, (List.forall_mem_cons.mpr ⟨cw_145, (List.forall_mem_cons.mpr ⟨cw_146, (List.forall_mem_cons.mpr ⟨cw_147, (List.forall_mem_cons.mpr ⟨cw_148, (List.forall_mem_cons.mpr ⟨cw_149, (fun _ h => absurd h List.not_mem_nil)⟩)⟩)⟩)⟩)⟩)⟩)⟩)⟩)⟩)⟩)⟩)⟩)⟩)⟩)⟩)⟩)⟩)⟩)⟩)⟩)⟩)⟩)⟩)⟩)⟩)⟩)⟩)⟩)⟩)⟩)
set_option maxRecDepth 20000 in
theorem cws_5 : ∀ m ∈ [150, 151, 152, 153, 154, 155, 156, 157, 158, 159, 160, 161, 162, 163, 164, 165, 166, 167, 168, 169, 170, 171, 172, 173, 174, 175, 176, 177, 178, 179], cwd m ∈ GW := (List.forall_mem_cons.mpr ⟨cw_150, (List.forall_mem_cons.mpr ⟨cw_151, (List.forall_mem_cons.mpr ⟨cw_152, (List.forall_mem_cons.mpr ⟨cw_153, (List.forall_mem_cons.mpr ⟨cw_154, (List.forall_mem_cons.mpr ⟨cw_155, (List.forall_mem_cons.mpr ⟨cw_156, (List.forall_mem_cons.mpr ⟨cw_157, (List.forall_mem_cons.mpr ⟨cw_158, (List.forall_mem_cons.mpr ⟨cw_159, (List.forall_mem_cons.mpr ⟨cw_160, (List.forall_mem_cons.mpr ⟨cw_161, (List.forall_mem_cons.mpr ⟨cw_162, (List.forall_mem_cons.mpr ⟨cw_163, (List.forall_mem_cons.mpr ⟨cw_164, (List.forall_mem_cons.mpr ⟨cw_165, (List.forall_mem_cons.mpr ⟨cw_166, (List.forall_mem_cons.mpr ⟨cw_167, (List.forall_mem_cons.mpr ⟨cw_168, (List.forall_mem_cons.mpr ⟨cw_169, (List.forall_mem_cons.mpr ⟨cw_170, (List.forall_mem_cons.mpr ⟨cw_171, (List.forall_mem_cons.mpr ⟨cw_172, (List.forall_mem_cons.mpr ⟨cw_173, (List.forall_mem_cons.mpr ⟨cw_174, (List.forall_mem_cons.mpr ⟨cw_175, (List.forall_mem_cons.mpr ⟨cw_176, (List.forall_mem_cons.mpr ⟨cw_177, (List.forall_mem_cons.mpr ⟨cw_178, (List.forall_mem_cons.mpr ⟨cw_179, (fun _ h => absurd h List.not_mem_nil)⟩)⟩)⟩)⟩)⟩)⟩)⟩)⟩)⟩)⟩)⟩)⟩)⟩)⟩)⟩)⟩)⟩)⟩)⟩)⟩)⟩)⟩)⟩)⟩)⟩)⟩)⟩)⟩)⟩)⟩)
set_option maxRecDepth 20000 in
theorem cws_6 : ∀ m ∈ [180, 181, 182, 183, 184, 185, 186, 187, 188, 189, 190, 191, 192, 193, 194, 195, 196, 197, 198, 199, 200, 201, 202, 203, 204, 205, 206, 207, 208, 209], cwd m ∈ GW := (List.forall_mem_cons.mpr ⟨cw_180, (List.forall_mem_cons.mpr ⟨cw_181, (List.forall_mem_cons.mpr ⟨cw_182, (List.forall_mem_cons.mpr ⟨cw_183, (List.forall_mem_cons.mpr ⟨cw_184, (List.forall_mem_cons.mpr ⟨cw_185, (List.forall_mem_cons.mpr ⟨cw_186, (List.forall_mem_cons.mpr ⟨cw_187, (List.forall_mem_cons.mpr ⟨cw_188, (List.forall_mem_cons.mpr ⟨cw_189, (List.forall_mem_cons.mpr ⟨cw_190, (List.forall_mem_cons.mpr ⟨cw_191, (List.forall_mem_cons.mpr ⟨cw_192, (List.forall_mem_cons.mpr ⟨cw_193, (List.forall_mem_cons.mpr ⟨cw_194, (List.forall_mem_cons.mpr ⟨cw_195, (List.forall_mem_cons.mpr ⟨cw_196, (List.forall_mem_cons.mpr ⟨cw_197, (List.forall_mem_cons.mpr ⟨cw_198, (List.forall_mem_cons.mpr ⟨cw_199, (List.forall_mem_cons.mpr ⟨cw_200, (List.forall_mem_cons.mpr ⟨cw_201, (List.forall_mem_cons.mpr ⟨cw_202, (List.forall_mem_cons.mpr ⟨cw_203, (List.forall_mem_cons.mpr ⟨cw_204, (List.forall_mem_cons.mpr ⟨cw_205, (List.forall_mem_cons.mpr ⟨cw_206, (List.forall_mem_cons.mpr ⟨cw_207, (List.forall_mem_cons.mpr ⟨cw_208, (List.forall_mem_cons.mpr ⟨cw_209, (fun _ h => absurd h List.not_mem_nil)⟩)⟩)⟩)⟩)⟩)⟩)⟩)⟩)⟩)⟩)⟩)⟩)⟩)⟩)⟩)⟩)⟩)⟩)⟩)⟩)⟩)⟩)⟩)⟩)⟩)⟩)⟩)⟩)⟩)⟩)
set_option maxRecDepth 20000 in
theorem cws_7 : ∀ m ∈ [210, 211, 212, 213, 214, 215, 216, 217, 218, 219, 220, 221, 222, 223, 224, 225, 226, 227, 228, 229, 230, 231, 232, 233, 234, 235, 236, 237, 238, 239], cwd m ∈ GW := (List.forall_mem_cons.mpr ⟨cw_210, (List.forall_mem_cons.mpr ⟨cw_211, (List.forall_mem_cons.mpr ⟨cw_212, (List.forall_mem_cons.mpr ⟨cw_213, (List.forall_mem_cons.mpr ⟨cw_214, (List.forall_mem_cons.mpr ⟨cw_215, (List.forall_mem_cons.mpr ⟨cw_216, (List.forall_mem_cons.mpr ⟨cw_217, (List.forall_mem_cons.mpr ⟨cw_218, (List.forall_mem_cons.mpr ⟨cw_219, (List.forall_mem_cons.mpr ⟨cw_220, (List.forall_mem_cons.mpr ⟨cw_221, (List.forall_mem_cons.mpr ⟨cw_222, (List.forall_mem_cons.mpr ⟨cw_223, (List.forall_mem_cons.mpr ⟨cw_224, (List.forall_mem_cons.mpr ⟨cw_225, (List.forall_mem_cons.mpr ⟨cw_226, (List.forall_mem_cons.mpr ⟨cw_227, (List.forall_mem_cons.mpr ⟨cw_228, (List.forall_mem_cons.mpr ⟨cw_229, (List.forall_mem_cons.mpr ⟨cw_230, (List.forall_mem_cons.mpr ⟨cw_231, (List.forall_mem_cons.mpr ⟨cw_232, (List.forall_mem_cons.mpr ⟨cw_233, (List.forall_mem_cons.mpr ⟨cw_234, (List.forall_mem_cons.mpr ⟨cw_235, (List.forall_mem_cons.mpr ⟨cw_236, (List.forall_mem_cons.mpr ⟨cw_237, (List.forall_mem_cons.mpr ⟨cw_238, (List.forall_mem_cons.mpr ⟨cw_239, (fun _ h => absurd h List.not_mem_nil)⟩)⟩)⟩)⟩)⟩)⟩)⟩)⟩)⟩)⟩)⟩)⟩)⟩)⟩)⟩)⟩)⟩)⟩)⟩)⟩)⟩)⟩)⟩)⟩)⟩)⟩)⟩)⟩)⟩)⟩)
set_option maxRecDepth 20000 in
theorem cws_8 : ∀ m ∈ [240, 241, 242, 243, 244, 245, 246, 247, 248, 249, 250, 251, 252, 253, 254, 255, 256, 257, 258, 259, 260, 261, 262, 263, 264, 265, 266, 267, 268, 269], cwd m ∈ GW := (List.forall_mem_cons.mpr ⟨cw_240, (List.forall_mem_cons.mpr ⟨cw_241, (List.forall_mem_cons.mpr ⟨cw_242, (List.forall_mem_cons.mpr ⟨cw_243, (List.forall_mem_cons.mpr ⟨cw_244, (List.forall_mem_cons.mpr ⟨cw_245, (List.forall_mem_cons.mpr ⟨cw_246, (List.forall_mem_cons.mpr ⟨cw_247, (List.forall_mem_cons.mpr ⟨cw_248, (List.forall_mem_cons.mpr ⟨cw_249, (List.forall_mem_cons.mpr ⟨cw_250, (List.forall_mem_cons.mpr ⟨cw_251, (List.forall_mem_cons.mpr ⟨cw_252, (List.forall_mem_cons.mpr ⟨cw_253, (List.forall_mem_cons.mpr ⟨cw_254, (List.forall_mem_cons.mpr ⟨cw_255, (List.forall_mem_cons.mpr ⟨cw_256, (List.forall_mem_cons.mpr ⟨cw_257, (List.forall_mem_cons.mpr ⟨cw_258, (List.forall_mem_cons.mpr ⟨cw_259, (List.forall_mem_cons.mpr ⟨cw_260, (List.forall_mem_cons.mpr ⟨cw_261, (List.forall_mem_cons.mpr ⟨cw_262, (List.forall_mem_cons.mpr ⟨cw_263, (List.forall_mem_cons.mpr ⟨cw_264, (List.forall_mem_cons.mpr ⟨cw_265, (List.forall_mem_cons.mpr ⟨cw_266, (List.forall_mem_cons.mpr ⟨cw_267, (List.forall_mem_cons.mpr ⟨cw_268, (List.forall_mem_cons.mpr ⟨cw_269, (fun _ h => absurd h List.not_mem_nil)⟩)⟩)⟩)⟩)⟩)⟩)⟩)⟩)⟩)⟩)⟩)⟩)⟩)⟩)⟩)⟩)⟩)⟩)⟩)⟩)⟩)⟩)⟩)⟩)⟩)⟩)⟩)⟩)⟩)⟩)
set_option maxRecDepth 20000 in
theorem cws_9 : ∀ m ∈ [270, 271, 272, 273, 274, 275, 276, 277, 278, 279, 280, 281, 282, 283, 284, 285, 286, 287, 288, 289, 290], cwd m ∈ GW := (List.forall_mem_cons.mpr ⟨cw_270, (List.forall_mem_cons.mpr ⟨cw_271, (List.forall_mem_cons.mpr ⟨cw_272, (List.forall_mem_cons.mpr ⟨cw_273, (List.forall_mem_cons.mpr ⟨cw_274, (List.forall_mem_cons.mpr ⟨cw_275, (List.forall_mem_cons.mpr ⟨cw_276, (List.forall_mem_cons.mpr ⟨cw_277, (List.forall_mem_cons.mpr ⟨cw_278, (List.forall_mem_cons.mpr ⟨cw_279, (List.forall_mem_cons.mpr ⟨cw_280, (List.forall_mem_cons.mpr ⟨cw_281, (List.forall_mem_cons.mpr ⟨cw_282, (List.forall_mem_cons.mpr ⟨cw_283, (List.forall_mem_cons.mpr ⟨cw_284, (List.forall_mem_cons.mpr ⟨cw_285, (List.forall_mem_cons.mpr ⟨cw_286, (List.forall_mem_cons.mpr ⟨cw_287, (List.forall_mem_cons.mpr ⟨cw_288, (List.forall_mem_cons.mpr ⟨cw_289, (List.forall_mem_cons.mpr ⟨cw_290, (fun _ h => absurd h List.not_mem_nil)⟩)⟩)⟩)⟩)⟩)⟩)⟩)⟩)⟩)⟩)⟩)⟩)⟩)⟩)⟩)⟩)⟩)⟩)⟩)⟩)⟩)
theorem cws : ∀ m, m < 291 → cwd m ∈ GW := by
  intro m h
  have hd : (m ∈ [0, 1, 2, 3, 4, 5, 6, 7, 8, 9, 10, 11, 12, 13, 14, 15, 16, 17, 18, 19, 20, 21, 22, 23, 24, 25, 26, 27, 28, 29] ∨ m ∈ [30, 31, 32, 33, 34, 35, 36, 37, 38, 39, 40, 41, 42, 43, 44, 45, 46, 47, 48, 49, 50, 51, 52, 53, 54, 55, 56, 57, 58, 59] ∨ m ∈ [60, 61, 62, 63, 64, 65, 66, 67, 68, 69, 70, 71, 72, 73, 74, 75, 76, 77, 78, 79, 80, 81, 82, 83, 84, 85, 86, 87, 88, 89] ∨ m ∈ [90, 91, 92, 93, 94, 95, 96, 97, 98, 99, 100, 101, 102, 103, 104, 105, 106, 107, 108, 109, 110, 111, 112, 113, 114, 115, 116, 117, 118, 119] ∨ m ∈ [120, 121, 122, 123, 124, 125, 126, 127, 128, 129, 130, 131, 132, 133, 134, 135, 136, 137, 138, 139, 140, 141, 142, 143, 144, 145, 146, 147, 148, 149] ∨ m ∈ [150, 151, 152, 153, 154, 155, 156, 157, 158, 159, 160, 161, 162, 163, 164, 165, 166, 167, 168, 169, 170, 171, 172, 173, 174, 175, 176, 177, 178, 179] ∨ m ∈ [180, 181, 182, 183, 184, 185, 186, 187, 188, 189, 190, 191, 192, 193, 194, 195, 196, 197, 198, 199, 200, 201, 202, 203, 204, 205, 206, 207, 208, 209] ∨ m ∈ [210, 211, 212, 213, 214, 215, 216, 217, 218, 219, 220, 221, 222, 223, 224, 225, 226, 227, 228, 229, 230, 231, 232, 233, 234, 235, 236, 237, 238, 239] ∨ m ∈ [240, 241, 242, 243, 244, 245, 246, 247, 248, 249, 250, 251, 252, 253, 254, 255, 256, 257, 258, 259, 260, 261, 262, 263, 264, 265, 266, 267, 268, 269] ∨ m ∈ [270, 271, 272, 273, 274, 275, 276, 277, 278, 279, 280, 281, 282, 283, 284, 285, 286, 287, 288, 289, 290]) := by
    simp only [List.mem_cons, List.not_mem_nil, or_false]
    omega
  rcases hd with hd | hd | hd | hd | hd | hd | hd | hd | hd | hd
  · exact cws_0 m hd
  · exact cws_1 m hd
  · exact cws_2 m hd
  · exact cws_3 m hd
  · exact cws_4 m hd
  · exact cws_5 m hd
  · exact cws_6 m hd
  · exact cws_7 m hd
  · exact cws_8 m hd
  · exact cws_9 m hd
def mtOk (m : Nat) : Bool := decide ((yOf m).cls = ownL.getD (mOi.getD m 99) "") && decide ((parseMethodDescriptor (yOf m).desc).map (fun d => d.parameters.length) = some (mNa.getD m 99)) && decide (mMl.getD m 0 ≤ 20) && (if mSt.getD m false then hasW (mPi.getD m 0) (.static (yOf m)) else hasW (mPi.getD m 0) (.instanceMethod (yOf m)))
theorem mt_0 : (List.range 10).all (fun k => decide (291 ≤ 0 + k) || mtOk (0 + k)) = true := by decide +kernel
theorem mt_1 : (List.range 10).all (fun k => decide (291 ≤ 10 + k) || mtOk (10 + k)) = true := by decide +kernel
theorem mt_2 : (List.range 10).all (fun k => decide (291 ≤ 20 + k) || mtOk (20 + k)) = true := by decide +kernel
theorem mt_3 : (List.range 10).all (fun k => decide (291 ≤ 30 + k) || mtOk (30 + k)) = true := by decide +kernel
theorem mt_4 : (List.range 10).all (fun k => decide (291 ≤ 40 + k) || mtOk (40 + k)) = true := by decide +kernel
theorem mt_5 : (List.range 10).all (fun k => decide (291 ≤ 50 + k) || mtOk (50 + k)) = true := by decide +kernel
theorem mt_6 : (List.range 10).all (fun k => decide (291 ≤ 60 + k) || mtOk (60 + k)) = true := by decide +kernel
theorem mt_7 : (List.range 10).all (fun k => decide (291 ≤ 70 + k) || mtOk (70 + k)) = true := by decide +kernel
theorem mt_8 : (List.range 10).all (fun k => decide (291 ≤ 80 + k) || mtOk (80 + k)) = true := by decide +kernel
theorem mt_9 : (List.range 10).all (fun k => decide (291 ≤ 90 + k) || mtOk (90 + k)) = true := by decide +kernel
theorem mt_10 : (List.range 10).all (fun k => decide (291 ≤ 100 + k) || mtOk (100 + k)) = true := by decide +kernel
theorem mt_11 : (List.range 10).all (fun k => decide (291 ≤ 110 + k) || mtOk (110 + k)) = true := by decide +kernel
theorem mt_12 : (List.range 10).all (fun k => decide (291 ≤ 120 + k) || mtOk (120 + k)) = true := by decide +kernel
theorem mt_13 : (List.range 10).all (fun k => decide (291 ≤ 130 + k) || mtOk (130 + k)) = true := by decide +kernel
theorem mt_14 : (List.range 10).all (fun k => decide (291 ≤ 140 + k) || mtOk (140 + k)) = true := by decide +kernel
theorem mt_15 : (List.range 10).all (fun k => decide (291 ≤ 150 + k) || mtOk (150 + k)) = true := by decide +kernel
theorem mt_16 : (List.range 10).all (fun k => decide (291 ≤ 160 + k) || mtOk (160 + k)) = true := by decide +kernel
theorem mt_17 : (List.range 10).all (fun k => decide (291 ≤ 170 + k) || mtOk (170 + k)) = true := by decide +kernel
theorem mt_18 : (List.range 10).all (fun k => decide (291 ≤ 180 + k) || mtOk (180 + k)) = true := by decide +kernel
theorem mt_19 : (List.range 10).all (fun k => decide (291 ≤ 190 + k) || mtOk (190 + k)) = true := by decide +kernel
theorem mt_20 : (List.range 10).all (fun k => decide (291 ≤ 200 + k) || mtOk (200 + k)) = true := by decide +kernel
theorem mt_21 : (List.range 10).all (fun k => decide (291 ≤ 210 + k) || mtOk (210 + k)) = true := by decide +kernel
theorem mt_22 : (List.range 10).all (fun k => decide (291 ≤ 220 + k) || mtOk (220 + k)) = true := by decide +kernel
theorem mt_23 : (List.range 10).all (fun k => decide (291 ≤ 230 + k) || mtOk (230 + k)) = true := by decide +kernel
theorem mt_24 : (List.range 10).all (fun k => decide (291 ≤ 240 + k) || mtOk (240 + k)) = true := by decide +kernel
theorem mt_25 : (List.range 10).all (fun k => decide (291 ≤ 250 + k) || mtOk (250 + k)) = true := by decide +kernel
theorem mt_26 : (List.range 10).all (fun k => decide (291 ≤ 260 + k) || mtOk (260 + k)) = true := by decide +kernel
theorem mt_27 : (List.range 10).all (fun k => decide (291 ≤ 270 + k) || mtOk (270 + k)) = true := by decide +kernel
theorem mt_28 : (List.range 10).all (fun k => decide (291 ≤ 280 + k) || mtOk (280 + k)) = true := by decide +kernel
theorem mt_29 : (List.range 10).all (fun k => decide (291 ≤ 290 + k) || mtOk (290 + k)) = true := by decide +kernel
def oPn : List Nat := [137, 136, 141, 140, 139, 131, 142, 138, 130, 144, 129, 147, 145, 132, 133, 135, 143, 134]
def owOk (o : Nat) : Bool := decide (ownL.getD o "" ≠ "java/lang/invoke/MethodHandle" ∧ ownL.getD o "" ≠ "java/lang/invoke/VarHandle") && hasW (oPn.getD o 0) (.initialized (ownL.getD o ""))
theorem ow_ok : (List.range 18).all (fun o => owOk o) = true := by decide +kernel
theorem pf_ok : (List.range 291).all (fun m => plainFor (yOf m)) = true := by decide +kernel
def rtCd (t : Option FieldType) : Nat := match t with
  | some .int => 0
  | some .boolean => 1
  | some .long => 2
  | some .char => 5
  | some (.object _) => 3
  | some (.array _) => 3
  | some _ => 9
  | none => 4
theorem rt_ok : (List.range 292).all (fun m => decide (rtCd (rtOf m) = mRk.getD m 99)) = true := by decide +kernel
theorem ini_ok : (List.range 292).all (fun m => !((yOf m).name == "<init>") || decide (mRk.getD m 99 = 4)) = true := by decide +kernel

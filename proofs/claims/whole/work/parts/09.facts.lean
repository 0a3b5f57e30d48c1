theorem cin_0 : ∀ w ∈ u_ws RX0 TX0 4, w ∈ x_ws := x_ins _ [460, 462, 464, 466] (by decide +kernel) (by decide +kernel)
theorem cin_1 : ∀ w ∈ u_ws RX1 TX1 8, w ∈ x_ws := x_ins _ [244, 246, 248, 250, 252, 254, 256, 258] (by decide +kernel) (by decide +kernel)
theorem cin_2 : ∀ w ∈ u_ws RX2 TX2 6, w ∈ x_ws := x_ins _ [358, 360, 362, 364, 366, 368] (by decide +kernel) (by decide +kernel)
theorem cin_3 : ∀ w ∈ u_ws RX3 TX3 8, w ∈ x_ws := x_ins _ [204, 206, 208, 210, 212, 214, 216, 218] (by decide +kernel) (by decide +kernel)
theorem cin_4 : ∀ w ∈ u_ws RX4 TX4 13, w ∈ x_ws := x_ins _ [297, 299, 301, 303, 305, 307, 309, 311, 313, 315, 317, 319, 321] (by decide +kernel) (by decide +kernel)
theorem cin_5 : ∀ w ∈ u_ws RX5 TX5 5, w ∈ x_ws := x_ins _ [335, 337, 339, 341, 343] (by decide +kernel) (by decide +kernel)
theorem cin_6 : ∀ w ∈ u_ws RX6 TX6 5, w ∈ x_ws := x_ins _ [382, 384, 386, 388, 390] (by decide +kernel) (by decide +kernel)
theorem cin_7 : ∀ w ∈ u_ws RX7 TX7 9, w ∈ x_ws := x_ins _ [409, 411, 413, 415, 417, 419, 421, 423, 425] (by decide +kernel) (by decide +kernel)
theorem cin_8 : ∀ w ∈ u_ws RX8 TX8 4, w ∈ x_ws := x_ins _ [130, 132, 134, 136] (by decide +kernel) (by decide +kernel)
theorem cin_9 : ∀ w ∈ u_ws RX9 TX9 5, w ∈ x_ws := x_ins _ [439, 441, 443, 445, 447] (by decide +kernel) (by decide +kernel)
theorem cin_10 : ∀ w ∈ u_ws RX10 TX10 6, w ∈ x_ws := x_ins _ [153, 155, 157, 159, 161, 163] (by decide +kernel) (by decide +kernel)
theorem cin_11 : ∀ w ∈ u_ws RX11 TX11 11, w ∈ x_ws := x_ins _ [480, 482, 484, 486, 488, 490, 492, 494, 496, 498, 500] (by decide +kernel) (by decide +kernel)
theorem cin_12 : ∀ w ∈ u_ws RX12 TX12 72, w ∈ x_ws := x_ins _ [1237, 1239, 1241, 1243, 1245, 1247, 1249, 1251, 1253, 1255, 1257, 1259, 1261, 1263, 1265, 1267, 1269, 1271, 1273, 1275, 1277, 1279, 1281, 1283, 1285, 1287, 1289, 1291, 1293, 1295, 1297, 1299, 1301, 1303, 1305, 1307, 1309, 1311, 1313, 1315, 1317, 1319, 1321, 1323, 1325, 1327, 1329, 1331, 1333, 1335, 1337, 1339, 1341, 1343, 1345, 1347, 1349, 1351, 1353, 1355, 1357, 1359, 1361, 1363, 1365, 1367, 1369, 1371, 1373, 1375, 1377, 1379] (by decide +kernel) (by decide +kernel)
def m0_clearTrace : xM := (yX0_clearTrace, cX0_clearTrace, 1, none)
theorem ok0_clearTrace : x_ok m0_clearTrace := ⟨xw_1072, by decide +kernel, ⟨by decide +kernel, by decide +kernel⟩, xw_102, by decide⟩
def m0_isAsk : xM := (yX0_isAsk, cX0_isAsk, 1, (some .boolean))
theorem ok0_isAsk : x_ok m0_isAsk := ⟨xw_1068, by decide +kernel, ⟨by decide +kernel, by decide +kernel⟩, xw_102, by decide⟩
def m0_isKind : xM := (yX0_isKind, cX0_isKind, 1, (some .boolean))
theorem ok0_isKind : x_ok m0_isKind := ⟨xw_1056, by decide +kernel, ⟨by decide +kernel, by decide +kernel⟩, xw_102, by decide⟩
def m0_isOne : xM := (yX0_isOne, cX0_isOne, 4, (some .boolean))
theorem ok0_isOne : x_ok m0_isOne := ⟨xw_1059, by decide +kernel, ⟨by decide +kernel, by decide +kernel⟩, xw_102, by decide⟩
def m0_kindOf : xM := (yX0_kindOf, cX0_kindOf, 1, (some .int))
theorem ok0_kindOf : x_ok m0_kindOf := ⟨xw_1049, by decide +kernel, ⟨by decide +kernel, by decide +kernel⟩, xw_102, by decide⟩
def m0_leave : xM := (yX0_leave, cX0_leave, 2, none)
theorem ok0_leave : x_ok m0_leave := ⟨xw_1085, by decide +kernel, ⟨by decide +kernel, by decide +kernel⟩, xw_102, by decide⟩
def m0_lentMark : xM := (yX0_lentMark, cX0_lentMark, 2, (some .int))
theorem ok0_lentMark : x_ok m0_lentMark := ⟨xw_1110, by decide +kernel, ⟨by decide +kernel, by decide +kernel⟩, xw_102, by decide⟩
def m0_lentSize : xM := (yX0_lentSize, cX0_lentSize, 2, (some .int))
theorem ok0_lentSize : x_ok m0_lentSize := ⟨xw_1089, by decide +kernel, ⟨by decide +kernel, by decide +kernel⟩, xw_102, by decide⟩
def m0_markOf : xM := (yX0_markOf, cX0_markOf, 2, (some .int))
theorem ok0_markOf : x_ok m0_markOf := ⟨xw_1102, by decide +kernel, ⟨by decide +kernel, by decide +kernel⟩, xw_102, by decide⟩
def m0_markOfAsked : xM := (yX0_markOfAsked, cX0_markOfAsked, 2, (some .int))
theorem ok0_markOfAsked : x_ok m0_markOfAsked := ⟨xw_1106, by decide +kernel, ⟨by decide +kernel, by decide +kernel⟩, xw_102, by decide⟩
def m0_markOfEver : xM := (yX0_markOfEver, cX0_markOfEver, 2, (some .int))
theorem ok0_markOfEver : x_ok m0_markOfEver := ⟨xw_1119, by decide +kernel, ⟨by decide +kernel, by decide +kernel⟩, xw_102, by decide⟩
def m0_sizeOf : xM := (yX0_sizeOf, cX0_sizeOf, 2, (some .int))
theorem ok0_sizeOf : x_ok m0_sizeOf := ⟨xw_1076, by decide +kernel, ⟨by decide +kernel, by decide +kernel⟩, xw_102, by decide⟩
def m0_sizeOfAsked : xM := (yX0_sizeOfAsked, cX0_sizeOfAsked, 2, (some .int))
theorem ok0_sizeOfAsked : x_ok m0_sizeOfAsked := ⟨xw_1098, by decide +kernel, ⟨by decide +kernel, by decide +kernel⟩, xw_102, by decide⟩
def m0_sizeOfNeeding : xM := (yX0_sizeOfNeeding, cX0_sizeOfNeeding, 2, (some .int))
theorem ok0_sizeOfNeeding : x_ok m0_sizeOfNeeding := ⟨xw_1124, by decide +kernel, ⟨by decide +kernel, by decide +kernel⟩, xw_102, by decide⟩
def m0_sizeOfOwned : xM := (yX0_sizeOfOwned, cX0_sizeOfOwned, 2, (some .int))
theorem ok0_sizeOfOwned : x_ok m0_sizeOfOwned := ⟨xw_1094, by decide +kernel, ⟨by decide +kernel, by decide +kernel⟩, xw_102, by decide⟩
def m0_sizeOfSpanned : xM := (yX0_sizeOfSpanned, cX0_sizeOfSpanned, 2, (some .int))
theorem ok0_sizeOfSpanned : x_ok m0_sizeOfSpanned := ⟨xw_1081, by decide +kernel, ⟨by decide +kernel, by decide +kernel⟩, xw_102, by decide⟩
def m0_tracedAt : xM := (yX0_tracedAt, cX0_tracedAt, 2, (some .int))
theorem ok0_tracedAt : x_ok m0_tracedAt := ⟨xw_1139, by decide +kernel, ⟨by decide +kernel, by decide +kernel⟩, xw_102, by decide⟩
def m1_addAct : xM := (yX1_addAct, cX1_addAct, 4, none)
theorem ok1_addAct : x_ok m1_addAct := ⟨xw_790, by decide +kernel, ⟨by decide +kernel, by decide +kernel⟩, xw_96, by decide⟩
def m1_begin : xM := (yX1_begin, cX1_begin, 5, none)
theorem ok1_begin : x_ok m1_begin := ⟨xw_769, by decide +kernel, ⟨by decide +kernel, by decide +kernel⟩, xw_96, by decide⟩
def m1_isFor : xM := (yX1_isFor, cX1_isFor, 3, (some .boolean))
theorem ok1_isFor : x_ok m1_isFor := ⟨xw_914, by decide +kernel, ⟨by decide +kernel, by decide +kernel⟩, xw_96, by decide⟩
def m2_awakeSet : xM := (yX2_awakeSet, cX2_awakeSet, 1, (some .int))
theorem ok2_awakeSet : x_ok m2_awakeSet := ⟨xw_821, by decide +kernel, ⟨by decide +kernel, by decide +kernel⟩, xw_98, by decide⟩
def m2_awakeUnasked : xM := (yX2_awakeUnasked, cX2_awakeUnasked, 3, (some .int))
theorem ok2_awakeUnasked : x_ok m2_awakeUnasked := ⟨xw_825, by decide +kernel, ⟨by decide +kernel, by decide +kernel⟩, xw_98, by decide⟩
def m2_closeDownTo : xM := (yX2_closeDownTo, cX2_closeDownTo, 2, none)
theorem ok2_closeDownTo : x_ok m2_closeDownTo := ⟨xw_991, by decide +kernel, ⟨by decide +kernel, by decide +kernel⟩, xw_98, by decide⟩
def m2_closeLatest : xM := (yX2_closeLatest, cX2_closeLatest, 4, (some .boolean))
theorem ok2_closeLatest : x_ok m2_closeLatest := ⟨xw_894, by decide +kernel, ⟨by decide +kernel, by decide +kernel⟩, xw_98, by decide⟩
def m2_foundAtPoint : xM := (yX2_foundAtPoint, cX2_foundAtPoint, 7, (some .int))
theorem ok2_foundAtPoint : x_ok m2_foundAtPoint := ⟨xw_860, by decide +kernel, ⟨by decide +kernel, by decide +kernel⟩, xw_98, by decide⟩
def m2_foundSet : xM := (yX2_foundSet, cX2_foundSet, 1, (some .int))
theorem ok2_foundSet : x_ok m2_foundSet := ⟨xw_1036, by decide +kernel, ⟨by decide +kernel, by decide +kernel⟩, xw_98, by decide⟩
def m2_isAwake : xM := (yX2_isAwake, cX2_isAwake, 2, (some .boolean))
theorem ok2_isAwake : x_ok m2_isAwake := ⟨xw_817, by decide +kernel, ⟨by decide +kernel, by decide +kernel⟩, xw_98, by decide⟩
def m2_isFactValue : xM := (yX2_isFactValue, cX2_isFactValue, 1, (some .boolean))
theorem ok2_isFactValue : x_ok m2_isFactValue := ⟨xw_836, by decide +kernel, ⟨by decide +kernel, by decide +kernel⟩, xw_98, by decide⟩
def m2_isFound : xM := (yX2_isFound, cX2_isFound, 2, (some .boolean))
theorem ok2_isFound : x_ok m2_isFound := ⟨xw_928, by decide +kernel, ⟨by decide +kernel, by decide +kernel⟩, xw_98, by decide⟩
def m2_latestOpen : xM := (yX2_latestOpen, cX2_latestOpen, 5, (some .int))
theorem ok2_latestOpen : x_ok m2_latestOpen := ⟨xw_923, by decide +kernel, ⟨by decide +kernel, by decide +kernel⟩, xw_98, by decide⟩
def m2_openCount : xM := (yX2_openCount, cX2_openCount, 1, (some .int))
theorem ok2_openCount : x_ok m2_openCount := ⟨xw_886, by decide +kernel, ⟨by decide +kernel, by decide +kernel⟩, xw_98, by decide⟩
def m2_openOf : xM := (yX2_openOf, cX2_openOf, 4, (some .int))
theorem ok2_openOf : x_ok m2_openOf := ⟨xw_829, by decide +kernel, ⟨by decide +kernel, by decide +kernel⟩, xw_98, by decide⟩
def m2_openWaking : xM := (yX2_openWaking, cX2_openWaking, 3, (some .boolean))
theorem ok2_openWaking : x_ok m2_openWaking := ⟨xw_882, by decide +kernel, ⟨by decide +kernel, by decide +kernel⟩, xw_98, by decide⟩
def m2_setFound : xM := (yX2_setFound, cX2_setFound, 2, none)
theorem ok2_setFound : x_ok m2_setFound := ⟨xw_1040, by decide +kernel, ⟨by decide +kernel, by decide +kernel⟩, xw_98, by decide⟩
def m2_settled : xM := (yX2_settled, cX2_settled, 5, (some .int))
theorem ok2_settled : x_ok m2_settled := ⟨xw_868, by decide +kernel, ⟨by decide +kernel, by decide +kernel⟩, xw_98, by decide⟩
def m2_takePoint : xM := (yX2_takePoint, cX2_takePoint, 1, (some .int))
theorem ok2_takePoint : x_ok m2_takePoint := ⟨xw_856, by decide +kernel, ⟨by decide +kernel, by decide +kernel⟩, xw_98, by decide⟩
def m2_tell : xM := (yX2_tell, cX2_tell, 4, (some .int))
theorem ok2_tell : x_ok m2_tell := ⟨xw_840, by decide +kernel, ⟨by decide +kernel, by decide +kernel⟩, xw_98, by decide⟩
def m3_begin : xM := (yX3_begin, cX3_begin, 3, none)
theorem ok3_begin : x_ok m3_begin := ⟨xw_741, by decide +kernel, ⟨by decide +kernel, by decide +kernel⟩, xw_95, by decide⟩
def m3_beginTest : xM := (yX3_beginTest, cX3_beginTest, 4, none)
theorem ok3_beginTest : x_ok m3_beginTest := ⟨xw_749, by decide +kernel, ⟨by decide +kernel, by decide +kernel⟩, xw_95, by decide⟩
def m3_isWoken : xM := (yX3_isWoken, cX3_isWoken, 1, (some .boolean))
theorem ok3_isWoken : x_ok m3_isWoken := ⟨xw_786, by decide +kernel, ⟨by decide +kernel, by decide +kernel⟩, xw_95, by decide⟩
def m3_testHolds : xM := (yX3_testHolds, cX3_testHolds, 3, (some .boolean))
theorem ok3_testHolds : x_ok m3_testHolds := ⟨xw_864, by decide +kernel, ⟨by decide +kernel, by decide +kernel⟩, xw_95, by decide⟩
def m4_addKind : xM := (yX4_addKind, cX4_addKind, 2, none)
theorem ok4_addKind : x_ok m4_addKind := ⟨xw_720, by decide +kernel, ⟨by decide +kernel, by decide +kernel⟩, xw_94, by decide⟩
def m4_addThing : xM := (yX4_addThing, cX4_addThing, 3, none)
theorem ok4_addThing : x_ok m4_addThing := ⟨xw_728, by decide +kernel, ⟨by decide +kernel, by decide +kernel⟩, xw_94, by decide⟩
def m4_bodiesOf : xM := (yX4_bodiesOf, cX4_bodiesOf, 4, (some .int))
theorem ok4_bodiesOf : x_ok m4_bodiesOf := ⟨xw_1114, by decide +kernel, ⟨by decide +kernel, by decide +kernel⟩, xw_94, by decide⟩
def m4_isLayer : xM := (yX4_isLayer, cX4_isLayer, 2, (some .boolean))
theorem ok4_isLayer : x_ok m4_isLayer := ⟨xw_782, by decide +kernel, ⟨by decide +kernel, by decide +kernel⟩, xw_94, by decide⟩
def m4_isThing : xM := (yX4_isThing, cX4_isThing, 2, (some .boolean))
theorem ok4_isThing : x_ok m4_isThing := ⟨xw_877, by decide +kernel, ⟨by decide +kernel, by decide +kernel⟩, xw_94, by decide⟩
def m4_keepCounts : xM := (yX4_keepCounts, cX4_keepCounts, 1, none)
theorem ok4_keepCounts : x_ok m4_keepCounts := ⟨xw_590, by decide +kernel, ⟨by decide +kernel, by decide +kernel⟩, xw_94, by decide⟩
def m4_restoreCounts : xM := (yX4_restoreCounts, cX4_restoreCounts, 1, none)
theorem ok4_restoreCounts : x_ok m4_restoreCounts := ⟨xw_794, by decide +kernel, ⟨by decide +kernel, by decide +kernel⟩, xw_94, by decide⟩
def m5_latestFault : xM := (yX5_latestFault, cX5_latestFault, 1, (some .int))
theorem ok5_latestFault : x_ok m5_latestFault := ⟨xw_808, by decide +kernel, ⟨by decide +kernel, by decide +kernel⟩, xw_97, by decide⟩
def m5_readAct : xM := (yX5_readAct, cX5_readAct, 5, none)
theorem ok5_readAct : x_ok m5_readAct := ⟨xw_773, by decide +kernel, ⟨by decide +kernel, by decide +kernel⟩, xw_97, by decide⟩
def m5_readBody : xM := (yX5_readBody, cX5_readBody, 7, none)
theorem ok5_readBody : x_ok m5_readBody := ⟨xw_759, by decide +kernel, ⟨by decide +kernel, by decide +kernel⟩, xw_97, by decide⟩
def m5_readKind : xM := (yX5_readKind, cX5_readKind, 2, none)
theorem ok5_readKind : x_ok m5_readKind := ⟨xw_678, by decide +kernel, ⟨by decide +kernel, by decide +kernel⟩, xw_97, by decide⟩
def m5_readLayer : xM := (yX5_readLayer, cX5_readLayer, 4, none)
theorem ok5_readLayer : x_ok m5_readLayer := ⟨xw_732, by decide +kernel, ⟨by decide +kernel, by decide +kernel⟩, xw_97, by decide⟩
def m5_readNeedsAndBars : xM := (yX5_readNeedsAndBars, cX5_readNeedsAndBars, 3, none)
theorem ok5_readNeedsAndBars : x_ok m5_readNeedsAndBars := ⟨xw_753, by decide +kernel, ⟨by decide +kernel, by decide +kernel⟩, xw_97, by decide⟩
def m5_readTape : xM := (yX5_readTape, cX5_readTape, 2, (some .int))
theorem ok5_readTape : x_ok m5_readTape := ⟨xw_586, by decide +kernel, ⟨by decide +kernel, by decide +kernel⟩, xw_97, by decide⟩
def m5_readTelling : xM := (yX5_readTelling, cX5_readTelling, 1, none)
theorem ok5_readTelling : x_ok m5_readTelling := ⟨xw_617, by decide +kernel, ⟨by decide +kernel, by decide +kernel⟩, xw_97, by decide⟩
def m5_readTest : xM := (yX5_readTest, cX5_readTest, 4, none)
theorem ok5_readTest : x_ok m5_readTest := ⟨xw_745, by decide +kernel, ⟨by decide +kernel, by decide +kernel⟩, xw_97, by decide⟩
def m5_readThing : xM := (yX5_readThing, cX5_readThing, 3, none)
theorem ok5_readThing : x_ok m5_readThing := ⟨xw_724, by decide +kernel, ⟨by decide +kernel, by decide +kernel⟩, xw_97, by decide⟩
def m5_refuse : xM := (yX5_refuse, cX5_refuse, 2, none)
theorem ok5_refuse : x_ok m5_refuse := ⟨xw_686, by decide +kernel, ⟨by decide +kernel, by decide +kernel⟩, xw_97, by decide⟩
def m5_refuseUnwoken : xM := (yX5_refuseUnwoken, cX5_refuseUnwoken, 1, none)
theorem ok5_refuseUnwoken : x_ok m5_refuseUnwoken := ⟨xw_778, by decide +kernel, ⟨by decide +kernel, by decide +kernel⟩, xw_97, by decide⟩
def m5_takeFirstWord : xM := (yX5_takeFirstWord, cX5_takeFirstWord, 3, none)
theorem ok5_takeFirstWord : x_ok m5_takeFirstWord := ⟨xw_682, by decide +kernel, ⟨by decide +kernel, by decide +kernel⟩, xw_97, by decide⟩
def m5_takeNumber : xM := (yX5_takeNumber, cX5_takeNumber, 3, (some .int))
theorem ok5_takeNumber : x_ok m5_takeNumber := ⟨xw_700, by decide +kernel, ⟨by decide +kernel, by decide +kernel⟩, xw_97, by decide⟩
def m5_takeOwner : xM := (yX5_takeOwner, cX5_takeOwner, 1, (some .int))
theorem ok5_takeOwner : x_ok m5_takeOwner := ⟨xw_763, by decide +kernel, ⟨by decide +kernel, by decide +kernel⟩, xw_97, by decide⟩
def m5_takeSign : xM := (yX5_takeSign, cX5_takeSign, 2, none)
theorem ok5_takeSign : x_ok m5_takeSign := ⟨xw_712, by decide +kernel, ⟨by decide +kernel, by decide +kernel⟩, xw_97, by decide⟩
def m5_takeWord : xM := (yX5_takeWord, cX5_takeWord, 3, (some .int))
theorem ok5_takeWord : x_ok m5_takeWord := ⟨xw_737, by decide +kernel, ⟨by decide +kernel, by decide +kernel⟩, xw_97, by decide⟩
def m6_addBodies : xM := (yX6_addBodies, cX6_addBodies, 6, (some .int))
theorem ok6_addBodies : x_ok m6_addBodies := ⟨xw_936, by decide +kernel, ⟨by decide +kernel, by decide +kernel⟩, xw_99, by decide⟩
def m6_fill : xM := (yX6_fill, cX6_fill, 7, (some .int))
theorem ok6_fill : x_ok m6_fill := ⟨xw_906, by decide +kernel, ⟨by decide +kernel, by decide +kernel⟩, xw_99, by decide⟩
def m6_gatherFitting : xM := (yX6_gatherFitting, cX6_gatherFitting, 6, none)
theorem ok6_gatherFitting : x_ok m6_gatherFitting := ⟨xw_910, by decide +kernel, ⟨by decide +kernel, by decide +kernel⟩, xw_99, by decide⟩
def m6_isEnded : xM := (yX6_isEnded, cX6_isEnded, 3, (some .boolean))
theorem ok6_isEnded : x_ok m6_isEnded := ⟨xw_940, by decide +kernel, ⟨by decide +kernel, by decide +kernel⟩, xw_99, by decide⟩
def m6_takeHeaviest : xM := (yX6_takeHeaviest, cX6_takeHeaviest, 4, (some .int))
theorem ok6_takeHeaviest : x_ok m6_takeHeaviest := ⟨xw_932, by decide +kernel, ⟨by decide +kernel, by decide +kernel⟩, xw_99, by decide⟩
def m6_weight : xM := (yX6_weight, cX6_weight, 5, (some .int))
theorem ok6_weight : x_ok m6_weight := ⟨xw_918, by decide +kernel, ⟨by decide +kernel, by decide +kernel⟩, xw_99, by decide⟩
def m7_begunAt : xM := (yX7_begunAt, cX7_begunAt, 2, (some .int))
theorem ok7_begunAt : x_ok m7_begunAt := ⟨xw_1003, by decide +kernel, ⟨by decide +kernel, by decide +kernel⟩, xw_100, by decide⟩
def m7_begunCount : xM := (yX7_begunCount, cX7_begunCount, 1, (some .int))
theorem ok7_begunCount : x_ok m7_begunCount := ⟨xw_999, by decide +kernel, ⟨by decide +kernel, by decide +kernel⟩, xw_100, by decide⟩
def m7_callAt : xM := (yX7_callAt, cX7_callAt, 5, (some .int))
theorem ok7_callAt : x_ok m7_callAt := ⟨xw_957, by decide +kernel, ⟨by decide +kernel, by decide +kernel⟩, xw_100, by decide⟩
def m7_callOutermost : xM := (yX7_callOutermost, cX7_callOutermost, 4, (some .int))
theorem ok7_callOutermost : x_ok m7_callOutermost := ⟨xw_953, by decide +kernel, ⟨by decide +kernel, by decide +kernel⟩, xw_100, by decide⟩
def m7_doAct : xM := (yX7_doAct, cX7_doAct, 7, (some .int))
theorem ok7_doAct : x_ok m7_doAct := ⟨xw_976, by decide +kernel, ⟨by decide +kernel, by decide +kernel⟩, xw_100, by decide⟩
def m7_doActs : xM := (yX7_doActs, cX7_doActs, 7, (some .int))
theorem ok7_doActs : x_ok m7_doActs := ⟨xw_972, by decide +kernel, ⟨by decide +kernel, by decide +kernel⟩, xw_100, by decide⟩
def m7_noteBegun : xM := (yX7_noteBegun, cX7_noteBegun, 2, none)
theorem ok7_noteBegun : x_ok m7_noteBegun := ⟨xw_967, by decide +kernel, ⟨by decide +kernel, by decide +kernel⟩, xw_100, by decide⟩
def m7_runBehind : xM := (yX7_runBehind, cX7_runBehind, 5, (some .int))
theorem ok7_runBehind : x_ok m7_runBehind := ⟨xw_987, by decide +kernel, ⟨by decide +kernel, by decide +kernel⟩, xw_100, by decide⟩
def m7_runFrom : xM := (yX7_runFrom, cX7_runFrom, 6, (some .int))
theorem ok7_runFrom : x_ok m7_runFrom := ⟨xw_963, by decide +kernel, ⟨by decide +kernel, by decide +kernel⟩, xw_100, by decide⟩
def m7_wokenThing : xM := (yX7_wokenThing, cX7_wokenThing, 3, (some .int))
theorem ok7_wokenThing : x_ok m7_wokenThing := ⟨xw_981, by decide +kernel, ⟨by decide +kernel, by decide +kernel⟩, xw_100, by decide⟩
def m8_hasPlaces : xM := (yX8_hasPlaces, cX8_hasPlaces, 5, (some .boolean))
theorem ok8_hasPlaces : x_ok m8_hasPlaces := ⟨xw_538, by decide +kernel, ⟨by decide +kernel, by decide +kernel⟩, xw_92, by decide⟩
def m8_haveOneLane : xM := (yX8_haveOneLane, cX8_haveOneLane, 3, (some .boolean))
theorem ok8_haveOneLane : x_ok m8_haveOneLane := ⟨xw_550, by decide +kernel, ⟨by decide +kernel, by decide +kernel⟩, xw_92, by decide⟩
def m8_isLane : xM := (yX8_isLane, cX8_isLane, 1, (some .boolean))
theorem ok8_isLane : x_ok m8_isLane := ⟨xw_512, by decide +kernel, ⟨by decide +kernel, by decide +kernel⟩, xw_92, by decide⟩
def m8_isMissing : xM := (yX8_isMissing, cX8_isMissing, 2, (some .boolean))
theorem ok8_isMissing : x_ok m8_isMissing := ⟨xw_534, by decide +kernel, ⟨by decide +kernel, by decide +kernel⟩, xw_92, by decide⟩
def m8_isSheet : xM := (yX8_isSheet, cX8_isSheet, 1, (some .boolean))
theorem ok8_isSheet : x_ok m8_isSheet := ⟨xw_509, by decide +kernel, ⟨by decide +kernel, by decide +kernel⟩, xw_92, by decide⟩
def m8_item : xM := (yX8_item, cX8_item, 3, (some .int))
theorem ok8_item : x_ok m8_item := ⟨xw_848, by decide +kernel, ⟨by decide +kernel, by decide +kernel⟩, xw_92, by decide⟩
def m8_laidCount : xM := (yX8_laidCount, cX8_laidCount, 3, (some .int))
theorem ok8_laidCount : x_ok m8_laidCount := ⟨xw_1148, by decide +kernel, ⟨by decide +kernel, by decide +kernel⟩, xw_92, by decide⟩
def m8_lay : xM := (yX8_lay, cX8_lay, 5, none)
theorem ok8_lay : x_ok m8_lay := ⟨xw_522, by decide +kernel, ⟨by decide +kernel, by decide +kernel⟩, xw_92, by decide⟩
def m8_lose : xM := (yX8_lose, cX8_lose, 2, (some .int))
theorem ok8_lose : x_ok m8_lose := ⟨xw_565, by decide +kernel, ⟨by decide +kernel, by decide +kernel⟩, xw_92, by decide⟩
def m8_move : xM := (yX8_move, cX8_move, 6, none)
theorem ok8_move : x_ok m8_move := ⟨xw_554, by decide +kernel, ⟨by decide +kernel, by decide +kernel⟩, xw_92, by decide⟩
def m8_put : xM := (yX8_put, cX8_put, 5, (some .int))
theorem ok8_put : x_ok m8_put := ⟨xw_542, by decide +kernel, ⟨by decide +kernel, by decide +kernel⟩, xw_92, by decide⟩
def m9_changesNothing : xM := (yX9_changesNothing, cX9_changesNothing, 11, (some .boolean))
theorem ok9_changesNothing : x_ok m9_changesNothing := ⟨xw_1032, by decide +kernel, ⟨by decide +kernel, by decide +kernel⟩, xw_101, by decide⟩
def m9_factsOfWorld : xM := (yX9_factsOfWorld, cX9_factsOfWorld, 5, (some (.array .int)))
theorem ok9_factsOfWorld : x_ok m9_factsOfWorld := ⟨xw_1018, by decide +kernel, ⟨by decide +kernel, by decide +kernel⟩, xw_101, by decide⟩
def m9_gather : xM := (yX9_gather, cX9_gather, 6, (some .int))
theorem ok9_gather : x_ok m9_gather := ⟨xw_1014, by decide +kernel, ⟨by decide +kernel, by decide +kernel⟩, xw_101, by decide⟩
def m9_gatheredAt : xM := (yX9_gatheredAt, cX9_gatheredAt, 4, (some .int))
theorem ok9_gatheredAt : x_ok m9_gatheredAt := ⟨xw_1023, by decide +kernel, ⟨by decide +kernel, by decide +kernel⟩, xw_101, by decide⟩
def m9_isGreatest : xM := (yX9_isGreatest, cX9_isGreatest, 1, (some .boolean))
theorem ok9_isGreatest : x_ok m9_isGreatest := ⟨xw_1010, by decide +kernel, ⟨by decide +kernel, by decide +kernel⟩, xw_101, by decide⟩
def m10_append : xM := (yX10_append, cX10_append, 5, (some .int))
theorem ok10_append : x_ok m10_append := ⟨xw_578, by decide +kernel, ⟨by decide +kernel, by decide +kernel⟩, xw_93, by decide⟩
def m10_atEnd : xM := (yX10_atEnd, cX10_atEnd, 1, (some .boolean))
theorem ok10_atEnd : x_ok m10_atEnd := ⟨xw_613, by decide +kernel, ⟨by decide +kernel, by decide +kernel⟩, xw_93, by decide⟩
def m10_atName : xM := (yX10_atName, cX10_atName, 2, (some .boolean))
theorem ok10_atName : x_ok m10_atName := ⟨xw_696, by decide +kernel, ⟨by decide +kernel, by decide +kernel⟩, xw_93, by decide⟩
def m10_atNumber : xM := (yX10_atNumber, cX10_atNumber, 1, (some .boolean))
theorem ok10_atNumber : x_ok m10_atNumber := ⟨xw_704, by decide +kernel, ⟨by decide +kernel, by decide +kernel⟩, xw_93, by decide⟩
def m10_atSign : xM := (yX10_atSign, cX10_atSign, 2, (some .boolean))
theorem ok10_atSign : x_ok m10_atSign := ⟨xw_716, by decide +kernel, ⟨by decide +kernel, by decide +kernel⟩, xw_93, by decide⟩
def m10_clear : xM := (yX10_clear, cX10_clear, 1, none)
theorem ok10_clear : x_ok m10_clear := ⟨xw_798, by decide +kernel, ⟨by decide +kernel, by decide +kernel⟩, xw_93, by decide⟩
def m10_endOfRun : xM := (yX10_endOfRun, cX10_endOfRun, 4, (some .int))
theorem ok10_endOfRun : x_ok m10_endOfRun := ⟨xw_605, by decide +kernel, ⟨by decide +kernel, by decide +kernel⟩, xw_93, by decide⟩
def m10_firstToken : xM := (yX10_firstToken, cX10_firstToken, 1, none)
theorem ok10_firstToken : x_ok m10_firstToken := ⟨xw_594, by decide +kernel, ⟨by decide +kernel, by decide +kernel⟩, xw_93, by decide⟩
def m10_hasRoom : xM := (yX10_hasRoom, cX10_hasRoom, 2, (some .boolean))
theorem ok10_hasRoom : x_ok m10_hasRoom := ⟨xw_573, by decide +kernel, ⟨by decide +kernel, by decide +kernel⟩, xw_93, by decide⟩
def m10_length : xM := (yX10_length, cX10_length, 1, (some .int))
theorem ok10_length : x_ok m10_length := ⟨xw_1154, by decide +kernel, ⟨by decide +kernel, by decide +kernel⟩, xw_93, by decide⟩
def m10_matches : xM := (yX10_matches, cX10_matches, 4, (some .boolean))
theorem ok10_matches : x_ok m10_matches := ⟨xw_674, by decide +kernel, ⟨by decide +kernel, by decide +kernel⟩, xw_93, by decide⟩
def m10_nameAmong : xM := (yX10_nameAmong, cX10_nameAmong, 5, (some .int))
theorem ok10_nameAmong : x_ok m10_nameAmong := ⟨xw_622, by decide +kernel, ⟨by decide +kernel, by decide +kernel⟩, xw_93, by decide⟩
def m10_nextToken : xM := (yX10_nextToken, cX10_nextToken, 1, none)
theorem ok10_nextToken : x_ok m10_nextToken := ⟨xw_598, by decide +kernel, ⟨by decide +kernel, by decide +kernel⟩, xw_93, by decide⟩
def m10_number : xM := (yX10_number, cX10_number, 1, (some .int))
theorem ok10_number : x_ok m10_number := ⟨xw_708, by decide +kernel, ⟨by decide +kernel, by decide +kernel⟩, xw_93, by decide⟩
def m10_sortOf : xM := (yX10_sortOf, cX10_sortOf, 2, (some .int))
theorem ok10_sortOf : x_ok m10_sortOf := ⟨xw_601, by decide +kernel, ⟨by decide +kernel, by decide +kernel⟩, xw_93, by decide⟩
def m10_tokenStart : xM := (yX10_tokenStart, cX10_tokenStart, 1, (some .int))
theorem ok10_tokenStart : x_ok m10_tokenStart := ⟨xw_690, by decide +kernel, ⟨by decide +kernel, by decide +kernel⟩, xw_93, by decide⟩
def m10_valueNumber : xM := (yX10_valueNumber, cX10_valueNumber, 2, none)
theorem ok10_valueNumber : x_ok m10_valueNumber := ⟨xw_609, by decide +kernel, ⟨by decide +kernel, by decide +kernel⟩, xw_93, by decide⟩
def m11_as : xM := (yX11_as, cX11_as, 3, (some .int))
theorem ok11_as : x_ok m11_as := ⟨xw_1053, by decide +kernel, ⟨by decide +kernel, by decide +kernel⟩, xw_91, by decide⟩
def m11_ask : xM := (yX11_ask, cX11_ask, 3, (some .int))
theorem ok11_ask : x_ok m11_ask := ⟨xw_1065, by decide +kernel, ⟨by decide +kernel, by decide +kernel⟩, xw_91, by decide⟩
def m11_call : xM := (yX11_call, cX11_call, 4, (some .int))
theorem ok11_call : x_ok m11_call := ⟨xw_944, by decide +kernel, ⟨by decide +kernel, by decide +kernel⟩, xw_91, by decide⟩
def m11_copy : xM := (yX11_copy, cX11_copy, 6, (some .int))
theorem ok11_copy : x_ok m11_copy := ⟨xw_546, by decide +kernel, ⟨by decide +kernel, by decide +kernel⟩, xw_91, by decide⟩
def m11_count : xM := (yX11_count, cX11_count, 2, (some .int))
theorem ok11_count : x_ok m11_count := ⟨xw_1144, by decide +kernel, ⟨by decide +kernel, by decide +kernel⟩, xw_91, by decide⟩
def m11_drop : xM := (yX11_drop, cX11_drop, 2, (some .int))
theorem ok11_drop : x_ok m11_drop := ⟨xw_561, by decide +kernel, ⟨by decide +kernel, by decide +kernel⟩, xw_91, by decide⟩
def m11_fact : xM := (yX11_fact, cX11_fact, 3, (some .int))
theorem ok11_fact : x_ok m11_fact := ⟨xw_833, by decide +kernel, ⟨by decide +kernel, by decide +kernel⟩, xw_91, by decide⟩
def m11_facts : xM := (yX11_facts, cX11_facts, 5, (some .int))
theorem ok11_facts : x_ok m11_facts := ⟨xw_844, by decide +kernel, ⟨by decide +kernel, by decide +kernel⟩, xw_91, by decide⟩
def m11_fault : xM := (yX11_fault, cX11_fault, 1, (some .int))
theorem ok11_fault : x_ok m11_fault := ⟨xw_804, by decide +kernel, ⟨by decide +kernel, by decide +kernel⟩, xw_91, by decide⟩
def m11_feed : xM := (yX11_feed, cX11_feed, 4, (some .int))
theorem ok11_feed : x_ok m11_feed := ⟨xw_569, by decide +kernel, ⟨by decide +kernel, by decide +kernel⟩, xw_91, by decide⟩
def m11_finding : xM := (yX11_finding, cX11_finding, 2, (some .int))
theorem ok11_finding : x_ok m11_finding := ⟨xw_517, by decide +kernel, ⟨by decide +kernel, by decide +kernel⟩, xw_91, by decide⟩
def m11_isCall : xM := (yX11_isCall, cX11_isCall, 4, (some .boolean))
theorem ok11_isCall : x_ok m11_isCall := ⟨xw_948, by decide +kernel, ⟨by decide +kernel, by decide +kernel⟩, xw_91, by decide⟩
def m11_isRoutine : xM := (yX11_isRoutine, cX11_isRoutine, 1, (some .boolean))
theorem ok11_isRoutine : x_ok m11_isRoutine := ⟨xw_902, by decide +kernel, ⟨by decide +kernel, by decide +kernel⟩, xw_91, by decide⟩
def m11_kind : xM := (yX11_kind, cX11_kind, 2, (some .int))
theorem ok11_kind : x_ok m11_kind := ⟨xw_1046, by decide +kernel, ⟨by decide +kernel, by decide +kernel⟩, xw_91, by decide⟩
def m11_layer : xM := (yX11_layer, cX11_layer, 4, (some .int))
theorem ok11_layer : x_ok m11_layer := ⟨xw_812, by decide +kernel, ⟨by decide +kernel, by decide +kernel⟩, xw_91, by decide⟩
def m11_point : xM := (yX11_point, cX11_point, 1, (some .int))
theorem ok11_point : x_ok m11_point := ⟨xw_852, by decide +kernel, ⟨by decide +kernel, by decide +kernel⟩, xw_91, by decide⟩
def m11_ran : xM := (yX11_ran, cX11_ran, 2, (some .int))
theorem ok11_ran : x_ok m11_ran := ⟨xw_995, by decide +kernel, ⟨by decide +kernel, by decide +kernel⟩, xw_91, by decide⟩
def m11_read : xM := (yX11_read, cX11_read, 2, (some .int))
theorem ok11_read : x_ok m11_read := ⟨xw_582, by decide +kernel, ⟨by decide +kernel, by decide +kernel⟩, xw_91, by decide⟩
def m11_row : xM := (yX11_row, cX11_row, 5, (some .int))
theorem ok11_row : x_ok m11_row := ⟨xw_899, by decide +kernel, ⟨by decide +kernel, by decide +kernel⟩, xw_91, by decide⟩
def m11_same : xM := (yX11_same, cX11_same, 6, (some .int))
theorem ok11_same : x_ok m11_same := ⟨xw_1028, by decide +kernel, ⟨by decide +kernel, by decide +kernel⟩, xw_91, by decide⟩
def m11_set : xM := (yX11_set, cX11_set, 4, (some .int))
theorem ok11_set : x_ok m11_set := ⟨xw_530, by decide +kernel, ⟨by decide +kernel, by decide +kernel⟩, xw_91, by decide⟩
def m11_sheet : xM := (yX11_sheet, cX11_sheet, 4, (some .int))
theorem ok11_sheet : x_ok m11_sheet := ⟨xw_506, by decide +kernel, ⟨by decide +kernel, by decide +kernel⟩, xw_91, by decide⟩
def m11_sleep : xM := (yX11_sleep, cX11_sleep, 2, (some .int))
theorem ok11_sleep : x_ok m11_sleep := ⟨xw_890, by decide +kernel, ⟨by decide +kernel, by decide +kernel⟩, xw_91, by decide⟩
def m11_status : xM := (yX11_status, cX11_status, 1, (some .int))
theorem ok11_status : x_ok m11_status := ⟨xw_1158, by decide +kernel, ⟨by decide +kernel, by decide +kernel⟩, xw_91, by decide⟩
def m11_together : xM := (yX11_together, cX11_together, 4, (some .int))
theorem ok11_together : x_ok m11_together := ⟨xw_1007, by decide +kernel, ⟨by decide +kernel, by decide +kernel⟩, xw_91, by decide⟩
def m11_trace : xM := (yX11_trace, cX11_trace, 2, (some .int))
theorem ok11_trace : x_ok m11_trace := ⟨xw_1135, by decide +kernel, ⟨by decide +kernel, by decide +kernel⟩, xw_91, by decide⟩
def m11_wake : xM := (yX11_wake, cX11_wake, 4, (some .int))
theorem ok11_wake : x_ok m11_wake := ⟨xw_872, by decide +kernel, ⟨by decide +kernel, by decide +kernel⟩, xw_91, by decide⟩
def m11_withoutFinding : xM := (yX11_withoutFinding, cX11_withoutFinding, 2, (some .int))
theorem ok11_withoutFinding : x_ok m11_withoutFinding := ⟨xw_526, by decide +kernel, ⟨by decide +kernel, by decide +kernel⟩, xw_91, by decide⟩
def m12_actOfWord : xM := (yX12_actOfWord, cX12_actOfWord, 5, (some .int))
theorem ok12_actOfWord : x_ok m12_actOfWord := ⟨xw_1503, by decide +kernel, ⟨by decide +kernel, by decide +kernel⟩, xw_103, by decide⟩
def m12_as : xM := (yX12_as, cX12_as, 3, (some .int))
theorem ok12_as : x_ok m12_as := ⟨xw_1687, by decide +kernel, ⟨by decide +kernel, by decide +kernel⟩, xw_103, by decide⟩
def m12_ask : xM := (yX12_ask, cX12_ask, 4, (some .int))
theorem ok12_ask : x_ok m12_ask := ⟨xw_1694, by decide +kernel, ⟨by decide +kernel, by decide +kernel⟩, xw_103, by decide⟩
def m12_askedSize : xM := (yX12_askedSize, cX12_askedSize, 3, (some .int))
theorem ok12_askedSize : x_ok m12_askedSize := ⟨xw_1710, by decide +kernel, ⟨by decide +kernel, by decide +kernel⟩, xw_103, by decide⟩
def m12_bad : xM := (yX12_bad, cX12_bad, 2, none)
theorem ok12_bad : x_ok m12_bad := ⟨xw_1452, by decide +kernel, ⟨by decide +kernel, by decide +kernel⟩, xw_103, by decide⟩
def m12_begin : xM := (yX12_begin, cX12_begin, 1, (some .boolean))
theorem ok12_begin : x_ok m12_begin := ⟨xw_1637, by decide +kernel, ⟨by decide +kernel, by decide +kernel⟩, xw_103, by decide⟩
def m12_bits : xM := (yX12_bits, cX12_bits, 3, (some .int))
theorem ok12_bits : x_ok m12_bits := ⟨xw_1713, by decide +kernel, ⟨by decide +kernel, by decide +kernel⟩, xw_103, by decide⟩
def m12_bringBack : xM := (yX12_bringBack, cX12_bringBack, 2, none)
theorem ok12_bringBack : x_ok m12_bringBack := ⟨xw_1671, by decide +kernel, ⟨by decide +kernel, by decide +kernel⟩, xw_103, by decide⟩
def m12_byteAt : xM := (yX12_byteAt, cX12_byteAt, 2, (some .int))
theorem ok12_byteAt : x_ok m12_byteAt := ⟨xw_1430, by decide +kernel, ⟨by decide +kernel, by decide +kernel⟩, xw_103, by decide⟩
def m12_call : xM := (yX12_call, cX12_call, 6, (some .int))
theorem ok12_call : x_ok m12_call := ⟨xw_1612, by decide +kernel, ⟨by decide +kernel, by decide +kernel⟩, xw_103, by decide⟩
def m12_close : xM := (yX12_close, cX12_close, 3, none)
theorem ok12_close : x_ok m12_close := ⟨xw_1583, by decide +kernel, ⟨by decide +kernel, by decide +kernel⟩, xw_103, by decide⟩
def m12_comeBack : xM := (yX12_comeBack, cX12_comeBack, 4, (some .boolean))
theorem ok12_comeBack : x_ok m12_comeBack := ⟨xw_1625, by decide +kernel, ⟨by decide +kernel, by decide +kernel⟩, xw_103, by decide⟩
def m12_copy : xM := (yX12_copy, cX12_copy, 9, (some .int))
theorem ok12_copy : x_ok m12_copy := ⟨xw_1407, by decide +kernel, ⟨by decide +kernel, by decide +kernel⟩, xw_103, by decide⟩
def m12_count : xM := (yX12_count, cX12_count, 4, (some .int))
theorem ok12_count : x_ok m12_count := ⟨xw_1721, by decide +kernel, ⟨by decide +kernel, by decide +kernel⟩, xw_103, by decide⟩
def m12_doActs : xM := (yX12_doActs, cX12_doActs, 6, none)
theorem ok12_doActs : x_ok m12_doActs := ⟨xw_1645, by decide +kernel, ⟨by decide +kernel, by decide +kernel⟩, xw_103, by decide⟩
def m12_drop : xM := (yX12_drop, cX12_drop, 2, (some .int))
theorem ok12_drop : x_ok m12_drop := ⟨xw_1411, by decide +kernel, ⟨by decide +kernel, by decide +kernel⟩, xw_103, by decide⟩
def m12_fact : xM := (yX12_fact, cX12_fact, 4, (some .int))
theorem ok12_fact : x_ok m12_fact := ⟨xw_1540, by decide +kernel, ⟨by decide +kernel, by decide +kernel⟩, xw_103, by decide⟩
def m12_facts : xM := (yX12_facts, cX12_facts, 5, (some .int))
theorem ok12_facts : x_ok m12_facts := ⟨xw_1546, by decide +kernel, ⟨by decide +kernel, by decide +kernel⟩, xw_103, by decide⟩
def m12_fault : xM := (yX12_fault, cX12_fault, 1, (some .int))
theorem ok12_fault : x_ok m12_fault := ⟨xw_1519, by decide +kernel, ⟨by decide +kernel, by decide +kernel⟩, xw_103, by decide⟩
def m12_feed : xM := (yX12_feed, cX12_feed, 5, (some .int))
theorem ok12_feed : x_ok m12_feed := ⟨xw_1415, by decide +kernel, ⟨by decide +kernel, by decide +kernel⟩, xw_103, by decide⟩
def m12_find : xM := (yX12_find, cX12_find, 3, none)
theorem ok12_find : x_ok m12_find := ⟨xw_1555, by decide +kernel, ⟨by decide +kernel, by decide +kernel⟩, xw_103, by decide⟩
def m12_finding : xM := (yX12_finding, cX12_finding, 2, (some .int))
theorem ok12_finding : x_ok m12_finding := ⟨xw_1398, by decide +kernel, ⟨by decide +kernel, by decide +kernel⟩, xw_103, by decide⟩
def m12_goNext : xM := (yX12_goNext, cX12_goNext, 2, none)
theorem ok12_goNext : x_ok m12_goNext := ⟨xw_1641, by decide +kernel, ⟨by decide +kernel, by decide +kernel⟩, xw_103, by decide⟩
def m12_hasNeeds : xM := (yX12_hasNeeds, cX12_hasNeeds, 4, (some .boolean))
theorem ok12_hasNeeds : x_ok m12_hasNeeds := ⟨xw_1563, by decide +kernel, ⟨by decide +kernel, by decide +kernel⟩, xw_103, by decide⟩
def m12_holdsTest : xM := (yX12_holdsTest, cX12_holdsTest, 3, (some .boolean))
theorem ok12_holdsTest : x_ok m12_holdsTest := ⟨xw_1559, by decide +kernel, ⟨by decide +kernel, by decide +kernel⟩, xw_103, by decide⟩
def m12_in : xM := (yX12_in, cX12_in, 6, (some .boolean))
theorem ok12_in : x_ok m12_in := ⟨xw_1392, by decide +kernel, ⟨by decide +kernel, by decide +kernel⟩, xw_103, by decide⟩
def m12_is : xM := (yX12_is, cX12_is, 2, (some .boolean))
theorem ok12_is : x_ok m12_is := ⟨xw_1484, by decide +kernel, ⟨by decide +kernel, by decide +kernel⟩, xw_103, by decide⟩
def m12_isAhead : xM := (yX12_isAhead, cX12_isAhead, 4, (some .boolean))
theorem ok12_isAhead : x_ok m12_isAhead := ⟨xw_1604, by decide +kernel, ⟨by decide +kernel, by decide +kernel⟩, xw_103, by decide⟩
def m12_isAwake : xM := (yX12_isAwake, cX12_isAwake, 2, (some .boolean))
theorem ok12_isAwake : x_ok m12_isAwake := ⟨xw_1532, by decide +kernel, ⟨by decide +kernel, by decide +kernel⟩, xw_103, by decide⟩
def m12_isAwakeFor : xM := (yX12_isAwakeFor, cX12_isAwakeFor, 3, (some .boolean))
theorem ok12_isAwakeFor : x_ok m12_isAwakeFor := ⟨xw_1596, by decide +kernel, ⟨by decide +kernel, by decide +kernel⟩, xw_103, by decide⟩
def m12_isFigure : xM := (yX12_isFigure, cX12_isFigure, 1, (some .boolean))
theorem ok12_isFigure : x_ok m12_isFigure := ⟨xw_1437, by decide +kernel, ⟨by decide +kernel, by decide +kernel⟩, xw_103, by decide⟩
def m12_isLayer : xM := (yX12_isLayer, cX12_isLayer, 2, (some .boolean))
theorem ok12_isLayer : x_ok m12_isLayer := ⟨xw_1527, by decide +kernel, ⟨by decide +kernel, by decide +kernel⟩, xw_103, by decide⟩
def m12_isLetter : xM := (yX12_isLetter, cX12_isLetter, 1, (some .boolean))
theorem ok12_isLetter : x_ok m12_isLetter := ⟨xw_1434, by decide +kernel, ⟨by decide +kernel, by decide +kernel⟩, xw_103, by decide⟩
def m12_isNumber : xM := (yX12_isNumber, cX12_isNumber, 2, (some .boolean))
theorem ok12_isNumber : x_ok m12_isNumber := ⟨xw_1616, by decide +kernel, ⟨by decide +kernel, by decide +kernel⟩, xw_103, by decide⟩
def m12_isOf : xM := (yX12_isOf, cX12_isOf, 2, (some .boolean))
theorem ok12_isOf : x_ok m12_isOf := ⟨xw_1690, by decide +kernel, ⟨by decide +kernel, by decide +kernel⟩, xw_103, by decide⟩
def m12_isSheet : xM := (yX12_isSheet, cX12_isSheet, 1, (some .boolean))
theorem ok12_isSheet : x_ok m12_isSheet := ⟨xw_1388, by decide +kernel, ⟨by decide +kernel, by decide +kernel⟩, xw_103, by decide⟩
def m12_isSign : xM := (yX12_isSign, cX12_isSign, 1, (some .boolean))
theorem ok12_isSign : x_ok m12_isSign := ⟨xw_1440, by decide +kernel, ⟨by decide +kernel, by decide +kernel⟩, xw_103, by decide⟩
def m12_isThing : xM := (yX12_isThing, cX12_isThing, 2, (some .boolean))
theorem ok12_isThing : x_ok m12_isThing := ⟨xw_1575, by decide +kernel, ⟨by decide +kernel, by decide +kernel⟩, xw_103, by decide⟩
def m12_keep : xM := (yX12_keep, cX12_keep, 2, none)
theorem ok12_keep : x_ok m12_keep := ⟨xw_1660, by decide +kernel, ⟨by decide +kernel, by decide +kernel⟩, xw_103, by decide⟩
def m12_kind : xM := (yX12_kind, cX12_kind, 2, (some .int))
theorem ok12_kind : x_ok m12_kind := ⟨xw_1679, by decide +kernel, ⟨by decide +kernel, by decide +kernel⟩, xw_103, by decide⟩
def m12_kindOf : xM := (yX12_kindOf, cX12_kindOf, 2, (some .int))
theorem ok12_kindOf : x_ok m12_kindOf := ⟨xw_1683, by decide +kernel, ⟨by decide +kernel, by decide +kernel⟩, xw_103, by decide⟩
def m12_latestOf : xM := (yX12_latestOf, cX12_latestOf, 5, (some .int))
theorem ok12_latestOf : x_ok m12_latestOf := ⟨xw_1600, by decide +kernel, ⟨by decide +kernel, by decide +kernel⟩, xw_103, by decide⟩
def m12_lay : xM := (yX12_lay, cX12_lay, 7, (some .boolean))
theorem ok12_lay : x_ok m12_lay := ⟨xw_1608, by decide +kernel, ⟨by decide +kernel, by decide +kernel⟩, xw_103, by decide⟩
def m12_layRow : xM := (yX12_layRow, cX12_layRow, 10, none)
theorem ok12_layRow : x_ok m12_layRow := ⟨xw_1592, by decide +kernel, ⟨by decide +kernel, by decide +kernel⟩, xw_103, by decide⟩
def m12_layer : xM := (yX12_layer, cX12_layer, 3, (some .int))
theorem ok12_layer : x_ok m12_layer := ⟨xw_1523, by decide +kernel, ⟨by decide +kernel, by decide +kernel⟩, xw_103, by decide⟩
def m12_leaves : xM := (yX12_leaves, cX12_leaves, 2, none)
theorem ok12_leaves : x_ok m12_leaves := ⟨xw_1702, by decide +kernel, ⟨by decide +kernel, by decide +kernel⟩, xw_103, by decide⟩
def m12_lose : xM := (yX12_lose, cX12_lose, 3, none)
theorem ok12_lose : x_ok m12_lose := ⟨xw_1567, by decide +kernel, ⟨by decide +kernel, by decide +kernel⟩, xw_103, by decide⟩
def m12_makeWorld : xM := (yX12_makeWorld, cX12_makeWorld, 5, none)
theorem ok12_makeWorld : x_ok m12_makeWorld := ⟨xw_1667, by decide +kernel, ⟨by decide +kernel, by decide +kernel⟩, xw_103, by decide⟩
def m12_markOf : xM := (yX12_markOf, cX12_markOf, 5, (some .int))
theorem ok12_markOf : x_ok m12_markOf := ⟨xw_1698, by decide +kernel, ⟨by decide +kernel, by decide +kernel⟩, xw_103, by decide⟩
def m12_must : xM := (yX12_must, cX12_must, 2, none)
theorem ok12_must : x_ok m12_must := ⟨xw_1456, by decide +kernel, ⟨by decide +kernel, by decide +kernel⟩, xw_103, by decide⟩
def m12_numberTo : xM := (yX12_numberTo, cX12_numberTo, 4, (some .int))
theorem ok12_numberTo : x_ok m12_numberTo := ⟨xw_1465, by decide +kernel, ⟨by decide +kernel, by decide +kernel⟩, xw_103, by decide⟩
def m12_openOf : xM := (yX12_openOf, cX12_openOf, 4, (some .int))
theorem ok12_openOf : x_ok m12_openOf := ⟨xw_1536, by decide +kernel, ⟨by decide +kernel, by decide +kernel⟩, xw_103, by decide⟩
def m12_outermost : xM := (yX12_outermost, cX12_outermost, 5, (some .int))
theorem ok12_outermost : x_ok m12_outermost := ⟨xw_1621, by decide +kernel, ⟨by decide +kernel, by decide +kernel⟩, xw_103, by decide⟩
def m12_over : xM := (yX12_over, cX12_over, 3, none)
theorem ok12_over : x_ok m12_over := ⟨xw_1633, by decide +kernel, ⟨by decide +kernel, by decide +kernel⟩, xw_103, by decide⟩
def m12_point : xM := (yX12_point, cX12_point, 2, (some .int))
theorem ok12_point : x_ok m12_point := ⟨xw_1551, by decide +kernel, ⟨by decide +kernel, by decide +kernel⟩, xw_103, by decide⟩
def m12_ran : xM := (yX12_ran, cX12_ran, 2, (some .int))
theorem ok12_ran : x_ok m12_ran := ⟨xw_1651, by decide +kernel, ⟨by decide +kernel, by decide +kernel⟩, xw_103, by decide⟩
def m12_read : xM := (yX12_read, cX12_read, 3, (some .int))
theorem ok12_read : x_ok m12_read := ⟨xw_1422, by decide +kernel, ⟨by decide +kernel, by decide +kernel⟩, xw_103, by decide⟩
def m12_readAct : xM := (yX12_readAct, cX12_readAct, 6, none)
theorem ok12_readAct : x_ok m12_readAct := ⟨xw_1514, by decide +kernel, ⟨by decide +kernel, by decide +kernel⟩, xw_103, by decide⟩
def m12_readBody : xM := (yX12_readBody, cX12_readBody, 2, none)
theorem ok12_readBody : x_ok m12_readBody := ⟨xw_1490, by decide +kernel, ⟨by decide +kernel, by decide +kernel⟩, xw_103, by decide⟩
def m12_readKind : xM := (yX12_readKind, cX12_readKind, 1, none)
theorem ok12_readKind : x_ok m12_readKind := ⟨xw_1460, by decide +kernel, ⟨by decide +kernel, by decide +kernel⟩, xw_103, by decide⟩
def m12_readLayer : xM := (yX12_readLayer, cX12_readLayer, 4, none)
theorem ok12_readLayer : x_ok m12_readLayer := ⟨xw_1473, by decide +kernel, ⟨by decide +kernel, by decide +kernel⟩, xw_103, by decide⟩
def m12_readThing : xM := (yX12_readThing, cX12_readThing, 1, none)
theorem ok12_readThing : x_ok m12_readThing := ⟨xw_1469, by decide +kernel, ⟨by decide +kernel, by decide +kernel⟩, xw_103, by decide⟩
def m12_row : xM := (yX12_row, cX12_row, 4, (some .int))
theorem ok12_row : x_ok m12_row := ⟨xw_1588, by decide +kernel, ⟨by decide +kernel, by decide +kernel⟩, xw_103, by decide⟩
def m12_same : xM := (yX12_same, cX12_same, 10, (some .int))
theorem ok12_same : x_ok m12_same := ⟨xw_1675, by decide +kernel, ⟨by decide +kernel, by decide +kernel⟩, xw_103, by decide⟩
def m12_set : xM := (yX12_set, cX12_set, 4, (some .int))
theorem ok12_set : x_ok m12_set := ⟨xw_1403, by decide +kernel, ⟨by decide +kernel, by decide +kernel⟩, xw_103, by decide⟩
def m12_sheet : xM := (yX12_sheet, cX12_sheet, 5, (some .int))
theorem ok12_sheet : x_ok m12_sheet := ⟨xw_1385, by decide +kernel, ⟨by decide +kernel, by decide +kernel⟩, xw_103, by decide⟩
def m12_sizeOf : xM := (yX12_sizeOf, cX12_sizeOf, 4, (some .int))
theorem ok12_sizeOf : x_ok m12_sizeOf := ⟨xw_1706, by decide +kernel, ⟨by decide +kernel, by decide +kernel⟩, xw_103, by decide⟩
def m12_sleep : xM := (yX12_sleep, cX12_sleep, 3, (some .int))
theorem ok12_sleep : x_ok m12_sleep := ⟨xw_1579, by decide +kernel, ⟨by decide +kernel, by decide +kernel⟩, xw_103, by decide⟩
def m12_sortOfWord : xM := (yX12_sortOfWord, cX12_sortOfWord, 3, (some .int))
theorem ok12_sortOfWord : x_ok m12_sortOfWord := ⟨xw_1477, by decide +kernel, ⟨by decide +kernel, by decide +kernel⟩, xw_103, by decide⟩
def m12_status : xM := (yX12_status, cX12_status, 1, (some .int))
theorem ok12_status : x_ok m12_status := ⟨xw_1725, by decide +kernel, ⟨by decide +kernel, by decide +kernel⟩, xw_103, by decide⟩
def m12_step : xM := (yX12_step, cX12_step, 2, none)
theorem ok12_step : x_ok m12_step := ⟨xw_1426, by decide +kernel, ⟨by decide +kernel, by decide +kernel⟩, xw_103, by decide⟩
def m12_together : xM := (yX12_together, cX12_together, 5, (some .int))
theorem ok12_together : x_ok m12_together := ⟨xw_1656, by decide +kernel, ⟨by decide +kernel, by decide +kernel⟩, xw_103, by decide⟩
def m12_topBody : xM := (yX12_topBody, cX12_topBody, 1, (some .int))
theorem ok12_topBody : x_ok m12_topBody := ⟨xw_1629, by decide +kernel, ⟨by decide +kernel, by decide +kernel⟩, xw_103, by decide⟩
def m12_trace : xM := (yX12_trace, cX12_trace, 2, (some .int))
theorem ok12_trace : x_ok m12_trace := ⟨xw_1717, by decide +kernel, ⟨by decide +kernel, by decide +kernel⟩, xw_103, by decide⟩
def m12_wake : xM := (yX12_wake, cX12_wake, 3, (some .int))
theorem ok12_wake : x_ok m12_wake := ⟨xw_1571, by decide +kernel, ⟨by decide +kernel, by decide +kernel⟩, xw_103, by decide⟩
def m12_wayOfWord : xM := (yX12_wayOfWord, cX12_wayOfWord, 3, (some .int))
theorem ok12_wayOfWord : x_ok m12_wayOfWord := ⟨xw_1495, by decide +kernel, ⟨by decide +kernel, by decide +kernel⟩, xw_103, by decide⟩
def m12_word : xM := (yX12_word, cX12_word, 4, (some .long))
theorem ok12_word : x_ok m12_word := ⟨xw_1444, by decide +kernel, ⟨by decide +kernel, by decide +kernel⟩, xw_103, by decide⟩
def m12_worlds : xM := (yX12_worlds, cX12_worlds, 1, (some .int))
theorem ok12_worlds : x_ok m12_worlds := ⟨xw_1663, by decide +kernel, ⟨by decide +kernel, by decide +kernel⟩, xw_103, by decide⟩
def mJ_bitCount : xM := (yJ6_bitCount_0f7a4, cJ6_bitCount_0f7a4, 1, (some .int))
theorem okJ_bitCount : x_ok mJ_bitCount := ⟨xw_1127, by decide +kernel, ⟨by decide +kernel, by decide +kernel⟩, xw_109, by decide⟩
theorem cs_0_45 : x_CS RX0 45 m0_kindOf 1 := ⟨xw_1077, xw_1048, by decide +kernel, ok0_kindOf⟩
theorem cs_0_89 : x_CS RX0 89 mJ_bitCount 1 := ⟨xw_1125, xw_1126, by decide +kernel, okJ_bitCount⟩
theorem cs_10_29 : x_CS RX10 29 m10_sortOf 1 := ⟨xw_599, xw_600, by decide +kernel, ok10_sortOf⟩
theorem cs_11_174 : x_CS RX11 174 m2_isFactValue 1 := ⟨xw_834, xw_835, by decide +kernel, ok2_isFactValue⟩
theorem cs_11_205 : x_CS RX11 205 m11_isRoutine 1 := ⟨xw_900, xw_901, by decide +kernel, ok11_isRoutine⟩
theorem cs_11_224 : x_CS RX11 224 m9_isGreatest 1 := ⟨xw_1008, xw_1009, by decide +kernel, ok9_isGreatest⟩
theorem cs_11_237 : x_CS RX11 237 m0_kindOf 1 := ⟨xw_1047, xw_1048, by decide +kernel, ok0_kindOf⟩
theorem cs_11_241 : x_CS RX11 241 m0_isKind 1 := ⟨xw_1054, xw_1055, by decide +kernel, ok0_isKind⟩
theorem cs_11_244 : x_CS RX11 244 m0_isOne 2 := ⟨xw_1057, xw_1058, by decide +kernel, ok0_isOne⟩
theorem cs_11_247 : x_CS RX11 247 m0_isAsk 1 := ⟨xw_1066, xw_1067, by decide +kernel, ok0_isAsk⟩
theorem cs_11_277 : x_CS RX11 277 mJ_bitCount 1 := ⟨xw_1150, xw_1126, by decide +kernel, okJ_bitCount⟩
theorem cs_11_86 : x_CS RX11 86 m8_isSheet 1 := ⟨xw_507, xw_508, by decide +kernel, ok8_isSheet⟩
theorem cs_11_90 : x_CS RX11 90 m8_isLane 1 := ⟨xw_510, xw_511, by decide +kernel, ok8_isLane⟩
theorem cs_12_141 : x_CS RX12 141 m12_in 3 := ⟨xw_1390, xw_1391, by decide +kernel, ok12_in⟩
theorem cs_12_145 : x_CS RX12 145 m12_isSheet 1 := ⟨xw_1386, xw_1387, by decide +kernel, ok12_isSheet⟩
theorem cs_12_180 : x_CS RX12 180 m12_isLetter 1 := ⟨xw_1432, xw_1433, by decide +kernel, ok12_isLetter⟩
theorem cs_12_183 : x_CS RX12 183 m12_isFigure 1 := ⟨xw_1435, xw_1436, by decide +kernel, ok12_isFigure⟩
theorem cs_12_186 : x_CS RX12 186 m12_isSign 1 := ⟨xw_1438, xw_1439, by decide +kernel, ok12_isSign⟩
theorem cs_12_444 : x_CS RX12 444 m12_worlds 1 := ⟨xw_1661, xw_1662, by decide +kernel, ok12_worlds⟩
theorem cs_12_457 : x_CS RX12 457 m12_isOf 2 := ⟨xw_1688, xw_1689, by decide +kernel, ok12_isOf⟩
theorem cs_12_472 : x_CS RX12 472 m12_bits 1 := ⟨xw_1711, xw_1712, by decide +kernel, ok12_bits⟩
theorem cv_0_101 : x_CV RX0 101 m0_sizeOf 1 := ⟨xw_1120, xw_1074, xw_1075, by decide +kernel, ok0_sizeOf⟩
theorem cv_0_49 : x_CV RX0 49 m0_sizeOfSpanned 1 := ⟨xw_1078, xw_1080, (x_in 35 (by decide +kernel) rfl), by decide +kernel, ok0_sizeOfSpanned⟩
theorem cv_0_53 : x_CV RX0 53 m0_sizeOfOwned 1 := ⟨xw_1091, xw_1093, (x_in 38 (by decide +kernel) rfl), by decide +kernel, ok0_sizeOfOwned⟩
theorem cv_0_56 : x_CV RX0 56 m0_sizeOfAsked 1 := ⟨xw_1095, xw_1097, (x_in 39 (by decide +kernel) rfl), by decide +kernel, ok0_sizeOfAsked⟩
theorem cv_0_59 : x_CV RX0 59 m0_sizeOfNeeding 1 := ⟨xw_1121, xw_1123, (x_in 43 (by decide +kernel) rfl), by decide +kernel, ok0_sizeOfNeeding⟩
theorem cv_0_62 : x_CV RX0 62 m0_lentSize 1 := ⟨xw_1086, xw_1088, (x_in 37 (by decide +kernel) rfl), by decide +kernel, ok0_lentSize⟩
theorem cv_0_65 : x_CV RX0 65 m0_markOfAsked 1 := ⟨xw_1103, xw_1105, (x_in 40 (by decide +kernel) rfl), by decide +kernel, ok0_markOfAsked⟩
theorem cv_0_68 : x_CV RX0 68 m0_markOfEver 1 := ⟨xw_1116, xw_1118, (x_in 42 (by decide +kernel) rfl), by decide +kernel, ok0_markOfEver⟩
theorem cv_0_71 : x_CV RX0 71 m0_lentMark 1 := ⟨xw_1107, xw_1109, (x_in 41 (by decide +kernel) rfl), by decide +kernel, ok0_lentMark⟩
theorem cv_0_74 : x_CV RX0 74 m0_leave 1 := ⟨xw_1082, xw_1084, (x_in 36 (by decide +kernel) rfl), by decide +kernel, ok0_leave⟩
theorem cv_0_81 : x_CV RX0 81 m2_openOf 1 := ⟨xw_1090, xw_827, xw_828, by decide +kernel, ok2_openOf⟩
theorem cv_0_86 : x_CV RX0 86 m0_markOf 1 := ⟨xw_1099, xw_1100, xw_1101, by decide +kernel, ok0_markOf⟩
theorem cv_0_94 : x_CV RX0 94 m4_bodiesOf 1 := ⟨xw_1111, xw_1112, xw_1113, by decide +kernel, ok4_bodiesOf⟩
theorem cv_0_97 : x_CV RX0 97 m2_isFound 1 := ⟨xw_1115, xw_926, xw_927, by decide +kernel, ok2_isFound⟩
theorem cv_2_32 : x_CV RX2 32 m2_settled 1 := ⟨xw_865, xw_866, xw_867, by decide +kernel, ok2_settled⟩
theorem cv_2_37 : x_CV RX2 37 m2_awakeUnasked 0 := ⟨xw_822, xw_824, (x_in 20 (by decide +kernel) rfl), by decide +kernel, ok2_awakeUnasked⟩
theorem cv_2_41 : x_CV RX2 41 m2_awakeSet 0 := ⟨xw_818, xw_819, xw_820, by decide +kernel, ok2_awakeSet⟩
theorem cv_2_58 : x_CV RX2 58 m2_foundAtPoint 1 := ⟨xw_857, xw_858, xw_859, by decide +kernel, ok2_foundAtPoint⟩
theorem cv_2_62 : x_CV RX2 62 m3_testHolds 1 := ⟨xw_861, xw_862, xw_863, by decide +kernel, ok3_testHolds⟩
theorem cv_5_105 : x_CV RX5 105 m4_addThing 2 := ⟨xw_725, xw_726, xw_727, by decide +kernel, ok4_addThing⟩
theorem cv_5_117 : x_CV RX5 117 m5_takeWord 1 := ⟨xw_734, xw_736, (x_in 13 (by decide +kernel) rfl), by decide +kernel, ok5_takeWord⟩
theorem cv_5_120 : x_CV RX5 120 m3_begin 2 := ⟨xw_738, xw_739, xw_740, by decide +kernel, ok3_begin⟩
theorem cv_5_125 : x_CV RX5 125 m10_atNumber 0 := ⟨xw_701, xw_702, xw_703, by decide +kernel, ok10_atNumber⟩
theorem cv_5_128 : x_CV RX5 128 m5_readTest 1 := ⟨xw_742, xw_744, (x_in 14 (by decide +kernel) rfl), by decide +kernel, ok5_readTest⟩
theorem cv_5_132 : x_CV RX5 132 m5_readNeedsAndBars 1 := ⟨xw_750, xw_752, (x_in 15 (by decide +kernel) rfl), by decide +kernel, ok5_readNeedsAndBars⟩
theorem cv_5_137 : x_CV RX5 137 m10_atSign 1 := ⟨xw_713, xw_714, xw_715, by decide +kernel, ok10_atSign⟩
theorem cv_5_141 : x_CV RX5 141 m3_beginTest 3 := ⟨xw_746, xw_747, xw_748, by decide +kernel, ok3_beginTest⟩
theorem cv_5_162 : x_CV RX5 162 m5_takeOwner 0 := ⟨xw_760, xw_762, (x_in 17 (by decide +kernel) rfl), by decide +kernel, ok5_takeOwner⟩
theorem cv_5_168 : x_CV RX5 168 m1_begin 4 := ⟨xw_766, xw_767, xw_768, by decide +kernel, ok1_begin⟩
theorem cv_5_173 : x_CV RX5 173 m5_readAct 1 := ⟨xw_770, xw_772, (x_in 18 (by decide +kernel) rfl), by decide +kernel, ok5_readAct⟩
theorem cv_5_185 : x_CV RX5 185 m5_refuseUnwoken 0 := ⟨xw_775, xw_777, (x_in 19 (by decide +kernel) rfl), by decide +kernel, ok5_refuseUnwoken⟩
theorem cv_5_188 : x_CV RX5 188 m1_addAct 3 := ⟨xw_787, xw_788, xw_789, by decide +kernel, ok1_addAct⟩
theorem cv_5_194 : x_CV RX5 194 m10_number 0 := ⟨xw_705, xw_706, xw_707, by decide +kernel, ok10_number⟩
theorem cv_5_197 : x_CV RX5 197 m4_isLayer 1 := ⟨xw_779, xw_780, xw_781, by decide +kernel, ok4_isLayer⟩
theorem cv_5_201 : x_CV RX5 201 m3_isWoken 0 := ⟨xw_783, xw_784, xw_785, by decide +kernel, ok3_isWoken⟩
theorem cv_5_204 : x_CV RX5 204 m10_tokenStart 0 := ⟨xw_687, xw_688, xw_689, by decide +kernel, ok10_tokenStart⟩
theorem cv_5_27 : x_CV RX5 27 m4_keepCounts 0 := ⟨xw_587, xw_588, xw_589, by decide +kernel, ok4_keepCounts⟩
theorem cv_5_32 : x_CV RX5 32 m10_firstToken 0 := ⟨xw_591, xw_592, xw_593, by decide +kernel, ok10_firstToken⟩
theorem cv_5_37 : x_CV RX5 37 m10_atEnd 0 := ⟨xw_610, xw_611, xw_612, by decide +kernel, ok10_atEnd⟩
theorem cv_5_41 : x_CV RX5 41 m5_readTelling 0 := ⟨xw_614, xw_616, (x_in 4 (by decide +kernel) rfl), by decide +kernel, ok5_readTelling⟩
theorem cv_5_44 : x_CV RX5 44 m4_restoreCounts 0 := ⟨xw_791, xw_792, xw_793, by decide +kernel, ok4_restoreCounts⟩
theorem cv_5_47 : x_CV RX5 47 m10_clear 0 := ⟨xw_795, xw_796, xw_797, by decide +kernel, ok10_clear⟩
theorem cv_5_55 : x_CV RX5 55 m10_nameAmong 1 := ⟨xw_619, xw_620, xw_621, by decide +kernel, ok10_nameAmong⟩
theorem cv_5_59 : x_CV RX5 59 m5_readKind 0 := ⟨xw_675, xw_677, (x_in 6 (by decide +kernel) rfl), by decide +kernel, ok5_readKind⟩
theorem cv_5_62 : x_CV RX5 62 m5_readThing 0 := ⟨xw_721, xw_723, (x_in 11 (by decide +kernel) rfl), by decide +kernel, ok5_readThing⟩
theorem cv_5_65 : x_CV RX5 65 m5_readLayer 0 := ⟨xw_729, xw_731, (x_in 12 (by decide +kernel) rfl), by decide +kernel, ok5_readLayer⟩
theorem cv_5_68 : x_CV RX5 68 m5_readBody 0 := ⟨xw_756, xw_758, (x_in 16 (by decide +kernel) rfl), by decide +kernel, ok5_readBody⟩
theorem cv_5_71 : x_CV RX5 71 m5_refuse 1 := ⟨xw_683, xw_685, (x_in 8 (by decide +kernel) rfl), by decide +kernel, ok5_refuse⟩
theorem cv_5_78 : x_CV RX5 78 m5_takeFirstWord 2 := ⟨xw_679, xw_681, (x_in 7 (by decide +kernel) rfl), by decide +kernel, ok5_takeFirstWord⟩
theorem cv_5_84 : x_CV RX5 84 m10_atName 1 := ⟨xw_693, xw_694, xw_695, by decide +kernel, ok10_atName⟩
theorem cv_5_88 : x_CV RX5 88 m10_nextToken 0 := ⟨xw_691, xw_596, xw_597, by decide +kernel, ok10_nextToken⟩
theorem cv_5_91 : x_CV RX5 91 m5_takeNumber 1 := ⟨xw_697, xw_699, (x_in 9 (by decide +kernel) rfl), by decide +kernel, ok5_takeNumber⟩
theorem cv_5_95 : x_CV RX5 95 m5_takeSign 1 := ⟨xw_709, xw_711, (x_in 10 (by decide +kernel) rfl), by decide +kernel, ok5_takeSign⟩
theorem cv_5_99 : x_CV RX5 99 m4_addKind 1 := ⟨xw_717, xw_718, xw_719, by decide +kernel, ok4_addKind⟩
theorem cv_6_29 : x_CV RX6 29 m6_gatherFitting 2 := ⟨xw_907, xw_909, (x_in 21 (by decide +kernel) rfl), by decide +kernel, ok6_gatherFitting⟩
theorem cv_6_40 : x_CV RX6 40 m6_weight 2 := ⟨xw_915, xw_917, (x_in 22 (by decide +kernel) rfl), by decide +kernel, ok6_weight⟩
theorem cv_6_44 : x_CV RX6 44 m6_takeHeaviest 0 := ⟨xw_929, xw_931, (x_in 23 (by decide +kernel) rfl), by decide +kernel, ok6_takeHeaviest⟩
theorem cv_6_48 : x_CV RX6 48 m6_addBodies 3 := ⟨xw_933, xw_935, (x_in 24 (by decide +kernel) rfl), by decide +kernel, ok6_addBodies⟩
theorem cv_6_58 : x_CV RX6 58 m3_isWoken 0 := ⟨xw_919, xw_784, xw_785, by decide +kernel, ok3_isWoken⟩
theorem cv_6_64 : x_CV RX6 64 m2_latestOpen 2 := ⟨xw_920, xw_921, xw_922, by decide +kernel, ok2_latestOpen⟩
theorem cv_6_75 : x_CV RX6 75 m2_isFound 1 := ⟨xw_925, xw_926, xw_927, by decide +kernel, ok2_isFound⟩
theorem cv_6_86 : x_CV RX6 86 m1_isFor 2 := ⟨xw_911, xw_912, xw_913, by decide +kernel, ok1_isFor⟩
theorem cv_6_93 : x_CV RX6 93 m6_isEnded 2 := ⟨xw_937, xw_939, (x_in 25 (by decide +kernel) rfl), by decide +kernel, ok6_isEnded⟩
theorem cv_7_112 : x_CV RX7 112 m7_wokenThing 2 := ⟨xw_978, xw_980, (x_in 32 (by decide +kernel) rfl), by decide +kernel, ok7_wokenThing⟩
theorem cv_7_116 : x_CV RX7 116 m2_openWaking 2 := ⟨xw_983, xw_880, xw_881, by decide +kernel, ok2_openWaking⟩
theorem cv_7_49 : x_CV RX7 49 m7_callAt 4 := ⟨xw_954, xw_956, (x_in 27 (by decide +kernel) rfl), by decide +kernel, ok7_callAt⟩
theorem cv_7_54 : x_CV RX7 54 m6_fill 3 := ⟨xw_959, xw_904, xw_905, by decide +kernel, ok6_fill⟩
theorem cv_7_60 : x_CV RX7 60 m7_runFrom 3 := ⟨xw_960, xw_962, (x_in 28 (by decide +kernel) rfl), by decide +kernel, ok7_runFrom⟩
theorem cv_7_64 : x_CV RX7 64 m7_noteBegun 1 := ⟨xw_964, xw_966, (x_in 29 (by decide +kernel) rfl), by decide +kernel, ok7_noteBegun⟩
theorem cv_7_68 : x_CV RX7 68 m2_openCount 0 := ⟨xw_968, xw_884, xw_885, by decide +kernel, ok2_openCount⟩
theorem cv_7_83 : x_CV RX7 83 m7_doActs 3 := ⟨xw_969, xw_971, (x_in 30 (by decide +kernel) rfl), by decide +kernel, ok7_doActs⟩
theorem cv_7_86 : x_CV RX7 86 m7_runBehind 3 := ⟨xw_984, xw_986, (x_in 33 (by decide +kernel) rfl), by decide +kernel, ok7_runBehind⟩
theorem cv_7_89 : x_CV RX7 89 m2_closeDownTo 1 := ⟨xw_988, xw_989, xw_990, by decide +kernel, ok2_closeDownTo⟩
theorem cv_7_95 : x_CV RX7 95 m7_doAct 5 := ⟨xw_973, xw_975, (x_in 31 (by decide +kernel) rfl), by decide +kernel, ok7_doAct⟩
theorem cv_9_33 : x_CV RX9 33 m9_factsOfWorld 2 := ⟨xw_1015, xw_1017, (x_in 34 (by decide +kernel) rfl), by decide +kernel, ok9_factsOfWorld⟩
theorem cv_9_37 : x_CV RX9 37 m2_foundAtPoint 1 := ⟨xw_1019, xw_858, xw_859, by decide +kernel, ok2_foundAtPoint⟩
theorem cv_9_42 : x_CV RX9 42 m2_foundSet 0 := ⟨xw_1033, xw_1034, xw_1035, by decide +kernel, ok2_foundSet⟩
theorem cv_9_46 : x_CV RX9 46 m2_setFound 1 := ⟨xw_1037, xw_1038, xw_1039, by decide +kernel, ok2_setFound⟩
theorem cv_9_50 : x_CV RX9 50 m7_callOutermost 3 := ⟨xw_1041, xw_951, xw_952, by decide +kernel, ok7_callOutermost⟩
theorem cv_9_56 : x_CV RX9 56 m2_settled 1 := ⟨xw_1042, xw_866, xw_867, by decide +kernel, ok2_settled⟩
theorem cv_10_20 : x_CV RX10 20 m10_nextToken 0 := ⟨xw_595, xw_596, xw_597, by decide +kernel, ok10_nextToken⟩
theorem cv_10_33 : x_CV RX10 33 m10_endOfRun 2 := ⟨xw_602, xw_604, (x_in 2 (by decide +kernel) rfl), by decide +kernel, ok10_endOfRun⟩
theorem cv_10_37 : x_CV RX10 37 m10_valueNumber 0 := ⟨xw_606, xw_608, (x_in 3 (by decide +kernel) rfl), by decide +kernel, ok10_valueNumber⟩
theorem cv_10_48 : x_CV RX10 48 m10_matches 2 := ⟨xw_671, xw_673, (x_in 5 (by decide +kernel) rfl), by decide +kernel, ok10_matches⟩
theorem cv_11_102 : x_CV RX11 102 m11_withoutFinding 1 := ⟨xw_523, xw_525, (x_in 1 (by decide +kernel) rfl), by decide +kernel, ok11_withoutFinding⟩
theorem cv_11_105 : x_CV RX11 105 m8_isMissing 1 := ⟨xw_531, xw_532, xw_533, by decide +kernel, ok8_isMissing⟩
theorem cv_11_108 : x_CV RX11 108 m8_hasPlaces 3 := ⟨xw_535, xw_536, xw_537, by decide +kernel, ok8_hasPlaces⟩
theorem cv_11_112 : x_CV RX11 112 m8_put 3 := ⟨xw_539, xw_540, xw_541, by decide +kernel, ok8_put⟩
theorem cv_11_116 : x_CV RX11 116 m8_haveOneLane 2 := ⟨xw_547, xw_548, xw_549, by decide +kernel, ok8_haveOneLane⟩
theorem cv_11_120 : x_CV RX11 120 m8_move 5 := ⟨xw_551, xw_552, xw_553, by decide +kernel, ok8_move⟩
theorem cv_11_124 : x_CV RX11 124 m8_lose 1 := ⟨xw_562, xw_563, xw_564, by decide +kernel, ok8_lose⟩
theorem cv_11_127 : x_CV RX11 127 m10_hasRoom 1 := ⟨xw_570, xw_571, xw_572, by decide +kernel, ok10_hasRoom⟩
theorem cv_11_131 : x_CV RX11 131 m10_append 2 := ⟨xw_575, xw_576, xw_577, by decide +kernel, ok10_append⟩
theorem cv_11_135 : x_CV RX11 135 m5_readTape 0 := ⟨xw_583, xw_584, xw_585, by decide +kernel, ok5_readTape⟩
theorem cv_11_144 : x_CV RX11 144 m5_latestFault 0 := ⟨xw_805, xw_806, xw_807, by decide +kernel, ok5_latestFault⟩
theorem cv_11_147 : x_CV RX11 147 m4_isLayer 1 := ⟨xw_813, xw_780, xw_781, by decide +kernel, ok4_isLayer⟩
theorem cv_11_168 : x_CV RX11 168 m2_isAwake 1 := ⟨xw_814, xw_815, xw_816, by decide +kernel, ok2_isAwake⟩
theorem cv_11_171 : x_CV RX11 171 m2_openOf 1 := ⟨xw_826, xw_827, xw_828, by decide +kernel, ok2_openOf⟩
theorem cv_11_177 : x_CV RX11 177 m2_tell 2 := ⟨xw_837, xw_838, xw_839, by decide +kernel, ok2_tell⟩
theorem cv_11_181 : x_CV RX11 181 m8_item 2 := ⟨xw_845, xw_846, xw_847, by decide +kernel, ok8_item⟩
theorem cv_11_184 : x_CV RX11 184 m2_takePoint 0 := ⟨xw_853, xw_854, xw_855, by decide +kernel, ok2_takePoint⟩
theorem cv_11_187 : x_CV RX11 187 m3_isWoken 0 := ⟨xw_873, xw_784, xw_785, by decide +kernel, ok3_isWoken⟩
theorem cv_11_191 : x_CV RX11 191 m4_isThing 1 := ⟨xw_874, xw_875, xw_876, by decide +kernel, ok4_isThing⟩
theorem cv_11_195 : x_CV RX11 195 m2_openWaking 2 := ⟨xw_879, xw_880, xw_881, by decide +kernel, ok2_openWaking⟩
theorem cv_11_198 : x_CV RX11 198 m2_openCount 0 := ⟨xw_883, xw_884, xw_885, by decide +kernel, ok2_openCount⟩
theorem cv_11_201 : x_CV RX11 201 m2_closeLatest 1 := ⟨xw_891, xw_892, xw_893, by decide +kernel, ok2_closeLatest⟩
theorem cv_11_208 : x_CV RX11 208 m6_fill 3 := ⟨xw_903, xw_904, xw_905, by decide +kernel, ok6_fill⟩
theorem cv_11_212 : x_CV RX11 212 m11_isCall 3 := ⟨xw_945, xw_947, (x_in 26 (by decide +kernel) rfl), by decide +kernel, ok11_isCall⟩
theorem cv_11_215 : x_CV RX11 215 m7_callOutermost 3 := ⟨xw_950, xw_951, xw_952, by decide +kernel, ok7_callOutermost⟩
theorem cv_11_218 : x_CV RX11 218 m7_begunCount 0 := ⟨xw_996, xw_997, xw_998, by decide +kernel, ok7_begunCount⟩
theorem cv_11_221 : x_CV RX11 221 m7_begunAt 1 := ⟨xw_1000, xw_1001, xw_1002, by decide +kernel, ok7_begunAt⟩
theorem cv_11_227 : x_CV RX11 227 m9_gather 1 := ⟨xw_1011, xw_1012, xw_1013, by decide +kernel, ok9_gather⟩
theorem cv_11_230 : x_CV RX11 230 m9_gatheredAt 1 := ⟨xw_1020, xw_1021, xw_1022, by decide +kernel, ok9_gatheredAt⟩
theorem cv_11_233 : x_CV RX11 233 m9_changesNothing 4 := ⟨xw_1029, xw_1030, xw_1031, by decide +kernel, ok9_changesNothing⟩
theorem cv_11_250 : x_CV RX11 250 m0_clearTrace 0 := ⟨xw_1069, xw_1070, xw_1071, by decide +kernel, ok0_clearTrace⟩
theorem cv_11_253 : x_CV RX11 253 m0_sizeOf 1 := ⟨xw_1073, xw_1074, xw_1075, by decide +kernel, ok0_sizeOf⟩
theorem cv_11_256 : x_CV RX11 256 m0_markOf 1 := ⟨xw_1131, xw_1100, xw_1101, by decide +kernel, ok0_markOf⟩
theorem cv_11_259 : x_CV RX11 259 m0_tracedAt 1 := ⟨xw_1136, xw_1137, xw_1138, by decide +kernel, ok0_tracedAt⟩
theorem cv_11_262 : x_CV RX11 262 m8_laidCount 0 := ⟨xw_1145, xw_1146, xw_1147, by decide +kernel, ok8_laidCount⟩
theorem cv_11_274 : x_CV RX11 274 m2_awakeSet 0 := ⟨xw_1149, xw_819, xw_820, by decide +kernel, ok2_awakeSet⟩
theorem cv_11_282 : x_CV RX11 282 m10_length 0 := ⟨xw_1151, xw_1152, xw_1153, by decide +kernel, ok10_length⟩
theorem cv_11_94 : x_CV RX11 94 m11_finding 1 := ⟨xw_514, xw_516, (x_in 0 (by decide +kernel) rfl), by decide +kernel, ok11_finding⟩
theorem cv_11_98 : x_CV RX11 98 m8_lay 3 := ⟨xw_519, xw_520, xw_521, by decide +kernel, ok8_lay⟩
theorem cv_12_152 : x_CV RX12 152 m12_finding 1 := ⟨xw_1395, xw_1397, (x_in 44 (by decide +kernel) rfl), by decide +kernel, ok12_finding⟩
theorem cv_12_171 : x_CV RX12 171 m12_byteAt 1 := ⟨xw_1427, xw_1429, (x_in 46 (by decide +kernel) rfl), by decide +kernel, ok12_byteAt⟩
theorem cv_12_198 : x_CV RX12 198 m12_bad 1 := ⟨xw_1449, xw_1451, (x_in 48 (by decide +kernel) rfl), by decide +kernel, ok12_bad⟩
theorem cv_12_202 : x_CV RX12 202 m12_step 0 := ⟨xw_1423, xw_1425, (x_in 45 (by decide +kernel) rfl), by decide +kernel, ok12_step⟩
theorem cv_12_205 : x_CV RX12 205 m12_must 1 := ⟨xw_1453, xw_1455, (x_in 49 (by decide +kernel) rfl), by decide +kernel, ok12_must⟩
theorem cv_12_209 : x_CV RX12 209 m12_word 0 := ⟨xw_1441, xw_1443, (x_in 47 (by decide +kernel) rfl), by decide +kernel, ok12_word⟩
theorem cv_12_248 : x_CV RX12 248 m12_numberTo 1 := ⟨xw_1462, xw_1464, (x_in 51 (by decide +kernel) rfl), by decide +kernel, ok12_numberTo⟩
theorem cv_12_257 : x_CV RX12 257 m12_sortOfWord 0 := ⟨xw_1474, xw_1476, (x_in 54 (by decide +kernel) rfl), by decide +kernel, ok12_sortOfWord⟩
theorem cv_12_261 : x_CV RX12 261 m12_is 1 := ⟨xw_1481, xw_1483, (x_in 55 (by decide +kernel) rfl), by decide +kernel, ok12_is⟩
theorem cv_12_268 : x_CV RX12 268 m12_actOfWord 1 := ⟨xw_1500, xw_1502, (x_in 58 (by decide +kernel) rfl), by decide +kernel, ok12_actOfWord⟩
theorem cv_12_276 : x_CV RX12 276 m12_wayOfWord 0 := ⟨xw_1492, xw_1494, (x_in 57 (by decide +kernel) rfl), by decide +kernel, ok12_wayOfWord⟩
theorem cv_12_279 : x_CV RX12 279 m12_readAct 1 := ⟨xw_1511, xw_1513, (x_in 59 (by decide +kernel) rfl), by decide +kernel, ok12_readAct⟩
theorem cv_12_300 : x_CV RX12 300 m12_readKind 0 := ⟨xw_1457, xw_1459, (x_in 50 (by decide +kernel) rfl), by decide +kernel, ok12_readKind⟩
theorem cv_12_303 : x_CV RX12 303 m12_readThing 0 := ⟨xw_1466, xw_1468, (x_in 52 (by decide +kernel) rfl), by decide +kernel, ok12_readThing⟩
theorem cv_12_306 : x_CV RX12 306 m12_readLayer 0 := ⟨xw_1470, xw_1472, (x_in 53 (by decide +kernel) rfl), by decide +kernel, ok12_readLayer⟩
theorem cv_12_309 : x_CV RX12 309 m12_readBody 0 := ⟨xw_1487, xw_1489, (x_in 56 (by decide +kernel) rfl), by decide +kernel, ok12_readBody⟩
theorem cv_12_322 : x_CV RX12 322 m12_openOf 1 := ⟨xw_1533, xw_1535, (x_in 62 (by decide +kernel) rfl), by decide +kernel, ok12_openOf⟩
theorem cv_12_325 : x_CV RX12 325 m12_isAwake 1 := ⟨xw_1529, xw_1531, (x_in 61 (by decide +kernel) rfl), by decide +kernel, ok12_isAwake⟩
theorem cv_12_328 : x_CV RX12 328 m12_hasNeeds 1 := ⟨xw_1560, xw_1562, (x_in 65 (by decide +kernel) rfl), by decide +kernel, ok12_hasNeeds⟩
theorem cv_12_331 : x_CV RX12 331 m12_holdsTest 1 := ⟨xw_1556, xw_1558, (x_in 64 (by decide +kernel) rfl), by decide +kernel, ok12_holdsTest⟩
theorem cv_12_334 : x_CV RX12 334 m12_lose 0 := ⟨xw_1564, xw_1566, (x_in 66 (by decide +kernel) rfl), by decide +kernel, ok12_lose⟩
theorem cv_12_337 : x_CV RX12 337 m12_isLayer 1 := ⟨xw_1524, xw_1526, (x_in 60 (by decide +kernel) rfl), by decide +kernel, ok12_isLayer⟩
theorem cv_12_348 : x_CV RX12 348 m12_find 0 := ⟨xw_1552, xw_1554, (x_in 63 (by decide +kernel) rfl), by decide +kernel, ok12_find⟩
theorem cv_12_351 : x_CV RX12 351 m12_isThing 1 := ⟨xw_1572, xw_1574, (x_in 67 (by decide +kernel) rfl), by decide +kernel, ok12_isThing⟩
theorem cv_12_354 : x_CV RX12 354 m12_close 1 := ⟨xw_1580, xw_1582, (x_in 68 (by decide +kernel) rfl), by decide +kernel, ok12_close⟩
theorem cv_12_358 : x_CV RX12 358 m12_latestOf 2 := ⟨xw_1597, xw_1599, (x_in 71 (by decide +kernel) rfl), by decide +kernel, ok12_latestOf⟩
theorem cv_12_362 : x_CV RX12 362 m12_isAwakeFor 2 := ⟨xw_1593, xw_1595, (x_in 70 (by decide +kernel) rfl), by decide +kernel, ok12_isAwakeFor⟩
theorem cv_12_366 : x_CV RX12 366 m12_isAhead 3 := ⟨xw_1601, xw_1603, (x_in 72 (by decide +kernel) rfl), by decide +kernel, ok12_isAhead⟩
theorem cv_12_370 : x_CV RX12 370 m12_lay 4 := ⟨xw_1605, xw_1607, (x_in 73 (by decide +kernel) rfl), by decide +kernel, ok12_lay⟩
theorem cv_12_374 : x_CV RX12 374 m12_layRow 3 := ⟨xw_1589, xw_1591, (x_in 69 (by decide +kernel) rfl), by decide +kernel, ok12_layRow⟩
theorem cv_12_403 : x_CV RX12 403 m12_topBody 0 := ⟨xw_1626, xw_1628, (x_in 77 (by decide +kernel) rfl), by decide +kernel, ok12_topBody⟩
theorem cv_12_406 : x_CV RX12 406 m12_goNext 0 := ⟨xw_1638, xw_1640, (x_in 80 (by decide +kernel) rfl), by decide +kernel, ok12_goNext⟩
theorem cv_12_409 : x_CV RX12 409 m12_over 1 := ⟨xw_1630, xw_1632, (x_in 78 (by decide +kernel) rfl), by decide +kernel, ok12_over⟩
theorem cv_12_413 : x_CV RX12 413 m12_comeBack 0 := ⟨xw_1622, xw_1624, (x_in 76 (by decide +kernel) rfl), by decide +kernel, ok12_comeBack⟩
theorem cv_12_417 : x_CV RX12 417 m12_begin 0 := ⟨xw_1634, xw_1636, (x_in 79 (by decide +kernel) rfl), by decide +kernel, ok12_begin⟩
theorem cv_12_420 : x_CV RX12 420 m12_doActs 0 := ⟨xw_1642, xw_1644, (x_in 81 (by decide +kernel) rfl), by decide +kernel, ok12_doActs⟩
theorem cv_12_426 : x_CV RX12 426 m12_isNumber 1 := ⟨xw_1613, xw_1615, (x_in 74 (by decide +kernel) rfl), by decide +kernel, ok12_isNumber⟩
theorem cv_12_429 : x_CV RX12 429 m12_outermost 3 := ⟨xw_1618, xw_1620, (x_in 75 (by decide +kernel) rfl), by decide +kernel, ok12_outermost⟩
theorem cv_12_441 : x_CV RX12 441 m12_keep 0 := ⟨xw_1657, xw_1659, (x_in 82 (by decide +kernel) rfl), by decide +kernel, ok12_keep⟩
theorem cv_12_447 : x_CV RX12 447 m12_makeWorld 2 := ⟨xw_1664, xw_1666, (x_in 83 (by decide +kernel) rfl), by decide +kernel, ok12_makeWorld⟩
theorem cv_12_451 : x_CV RX12 451 m12_bringBack 0 := ⟨xw_1668, xw_1670, (x_in 84 (by decide +kernel) rfl), by decide +kernel, ok12_bringBack⟩
theorem cv_12_454 : x_CV RX12 454 m12_kindOf 1 := ⟨xw_1680, xw_1682, (x_in 85 (by decide +kernel) rfl), by decide +kernel, ok12_kindOf⟩
theorem cv_12_463 : x_CV RX12 463 m12_leaves 1 := ⟨xw_1699, xw_1701, (x_in 87 (by decide +kernel) rfl), by decide +kernel, ok12_leaves⟩
theorem cv_12_466 : x_CV RX12 466 m12_sizeOf 2 := ⟨xw_1703, xw_1705, (x_in 88 (by decide +kernel) rfl), by decide +kernel, ok12_sizeOf⟩
theorem cv_12_469 : x_CV RX12 469 m12_markOf 2 := ⟨xw_1695, xw_1697, (x_in 86 (by decide +kernel) rfl), by decide +kernel, ok12_markOf⟩
theorem cv_12_475 : x_CV RX12 475 m12_askedSize 2 := ⟨xw_1707, xw_1709, (x_in 89 (by decide +kernel) rfl), by decide +kernel, ok12_askedSize⟩
theorem ff_0_11 : x_FF RX0 11 0 2 RX0 TX0 4 := ⟨rfl, by decide, cin_0, by decide, xw_458, rfl⟩
theorem ff_0_15 : x_FF RX0 15 0 0 RX0 TX0 4 := ⟨rfl, by decide, cin_0, by decide, xw_456, rfl⟩
theorem ff_0_19 : x_FF RX0 19 0 1 RX0 TX0 4 := ⟨rfl, by decide, cin_0, by decide, xw_457, rfl⟩
theorem ff_0_23 : x_FF RX0 23 3 0 RX3 TX3 8 := ⟨rfl, by decide, cin_3, by decide, xw_183, rfl⟩
theorem ff_0_29 : x_FF RX0 29 3 2 RX3 TX3 8 := ⟨rfl, by decide, cin_3, by decide, xw_192, rfl⟩
theorem ff_0_35 : x_FF RX0 35 0 3 RX0 TX0 4 := ⟨rfl, by decide, cin_0, by decide, xw_459, rfl⟩
theorem ff_0_39 : x_FF RX0 39 4 3 RX4 TX4 13 := ⟨rfl, by decide, cin_4, by decide, xw_270, rfl⟩
theorem ff_0_78 : x_FF RX0 78 3 1 RX3 TX3 8 := ⟨rfl, by decide, cin_3, by decide, xw_190, rfl⟩
theorem ff_1_13 : x_FF RX1 13 1 1 RX1 TX1 8 := ⟨rfl, by decide, cin_1, by decide, xw_228, rfl⟩
theorem ff_1_16 : x_FF RX1 16 1 2 RX1 TX1 8 := ⟨rfl, by decide, cin_1, by decide, xw_230, rfl⟩
theorem ff_1_19 : x_FF RX1 19 1 4 RX1 TX1 8 := ⟨rfl, by decide, cin_1, by decide, xw_235, rfl⟩
theorem ff_1_23 : x_FF RX1 23 1 6 RX1 TX1 8 := ⟨rfl, by decide, cin_1, by decide, xw_242, rfl⟩
theorem ff_1_26 : x_FF RX1 26 1 7 RX1 TX1 8 := ⟨rfl, by decide, cin_1, by decide, xw_243, rfl⟩
theorem ff_1_29 : x_FF RX1 29 1 5 RX1 TX1 8 := ⟨rfl, by decide, cin_1, by decide, xw_238, rfl⟩
theorem ff_1_32 : x_FF RX1 32 1 3 RX1 TX1 8 := ⟨rfl, by decide, cin_1, by decide, xw_232, rfl⟩
theorem ff_1_9 : x_FF RX1 9 1 0 RX1 TX1 8 := ⟨rfl, by decide, cin_1, by decide, xw_226, rfl⟩
theorem ff_2_11 : x_FF RX2 11 2 1 RX2 TX2 6 := ⟨rfl, by decide, cin_2, by decide, xw_353, rfl⟩
theorem ff_2_15 : x_FF RX2 15 2 2 RX2 TX2 6 := ⟨rfl, by decide, cin_2, by decide, xw_354, rfl⟩
theorem ff_2_18 : x_FF RX2 18 2 3 RX2 TX2 6 := ⟨rfl, by decide, cin_2, by decide, xw_355, rfl⟩
theorem ff_2_21 : x_FF RX2 21 2 0 RX2 TX2 6 := ⟨rfl, by decide, cin_2, by decide, xw_352, rfl⟩
theorem ff_2_25 : x_FF RX2 25 2 4 RX2 TX2 6 := ⟨rfl, by decide, cin_2, by decide, xw_356, rfl⟩
theorem ff_2_29 : x_FF RX2 29 2 5 RX2 TX2 6 := ⟨rfl, by decide, cin_2, by decide, xw_357, rfl⟩
theorem ff_2_44 : x_FF RX2 44 4 7 RX4 TX4 13 := ⟨rfl, by decide, cin_4, by decide, xw_287, rfl⟩
theorem ff_2_49 : x_FF RX2 49 4 3 RX4 TX4 13 := ⟨rfl, by decide, cin_4, by decide, xw_273, rfl⟩
theorem ff_2_53 : x_FF RX2 53 3 0 RX3 TX3 8 := ⟨rfl, by decide, cin_3, by decide, xw_186, rfl⟩
theorem ff_2_66 : x_FF RX2 66 3 2 RX3 TX3 8 := ⟨rfl, by decide, cin_3, by decide, xw_195, rfl⟩
theorem ff_2_69 : x_FF RX2 69 3 3 RX3 TX3 8 := ⟨rfl, by decide, cin_3, by decide, xw_199, rfl⟩
theorem ff_3_13 : x_FF RX3 13 3 1 RX3 TX3 8 := ⟨rfl, by decide, cin_3, by decide, xw_187, rfl⟩
theorem ff_3_16 : x_FF RX3 16 3 2 RX3 TX3 8 := ⟨rfl, by decide, cin_3, by decide, xw_191, rfl⟩
theorem ff_3_19 : x_FF RX3 19 3 3 RX3 TX3 8 := ⟨rfl, by decide, cin_3, by decide, xw_196, rfl⟩
theorem ff_3_22 : x_FF RX3 22 3 4 RX3 TX3 8 := ⟨rfl, by decide, cin_3, by decide, xw_200, rfl⟩
theorem ff_3_26 : x_FF RX3 26 3 5 RX3 TX3 8 := ⟨rfl, by decide, cin_3, by decide, xw_201, rfl⟩
theorem ff_3_29 : x_FF RX3 29 3 6 RX3 TX3 8 := ⟨rfl, by decide, cin_3, by decide, xw_202, rfl⟩
theorem ff_3_33 : x_FF RX3 33 3 7 RX3 TX3 8 := ⟨rfl, by decide, cin_3, by decide, xw_203, rfl⟩
theorem ff_3_7 : x_FF RX3 7 3 0 RX3 TX3 8 := ⟨rfl, by decide, cin_3, by decide, xw_181, rfl⟩
theorem ff_4_13 : x_FF RX4 13 4 1 RX4 TX4 13 := ⟨rfl, by decide, cin_4, by decide, xw_263, rfl⟩
theorem ff_4_16 : x_FF RX4 16 4 2 RX4 TX4 13 := ⟨rfl, by decide, cin_4, by decide, xw_265, rfl⟩
theorem ff_4_27 : x_FF RX4 27 4 4 RX4 TX4 13 := ⟨rfl, by decide, cin_4, by decide, xw_274, rfl⟩
theorem ff_4_33 : x_FF RX4 33 4 6 RX4 TX4 13 := ⟨rfl, by decide, cin_4, by decide, xw_281, rfl⟩
theorem ff_4_37 : x_FF RX4 37 4 7 RX4 TX4 13 := ⟨rfl, by decide, cin_4, by decide, xw_285, rfl⟩
theorem ff_4_40 : x_FF RX4 40 4 5 RX4 TX4 13 := ⟨rfl, by decide, cin_4, by decide, xw_278, rfl⟩
theorem ff_4_43 : x_FF RX4 43 4 9 RX4 TX4 13 := ⟨rfl, by decide, cin_4, by decide, xw_293, rfl⟩
theorem ff_4_46 : x_FF RX4 46 4 10 RX4 TX4 13 := ⟨rfl, by decide, cin_4, by decide, xw_294, rfl⟩
theorem ff_4_49 : x_FF RX4 49 4 11 RX4 TX4 13 := ⟨rfl, by decide, cin_4, by decide, xw_295, rfl⟩
theorem ff_4_52 : x_FF RX4 52 4 8 RX4 TX4 13 := ⟨rfl, by decide, cin_4, by decide, xw_290, rfl⟩
theorem ff_4_55 : x_FF RX4 55 4 12 RX4 TX4 13 := ⟨rfl, by decide, cin_4, by decide, xw_296, rfl⟩
theorem ff_4_58 : x_FF RX4 58 1 4 RX1 TX1 8 := ⟨rfl, by decide, cin_1, by decide, xw_237, rfl⟩
theorem ff_4_9 : x_FF RX4 9 4 0 RX4 TX4 13 := ⟨rfl, by decide, cin_4, by decide, xw_261, rfl⟩
theorem ff_5_102 : x_FF RX5 102 4 6 RX4 TX4 13 := ⟨rfl, by decide, cin_4, by decide, xw_282, rfl⟩
theorem ff_5_108 : x_FF RX5 108 4 7 RX4 TX4 13 := ⟨rfl, by decide, cin_4, by decide, xw_286, rfl⟩
theorem ff_5_111 : x_FF RX5 111 4 3 RX4 TX4 13 := ⟨rfl, by decide, cin_4, by decide, xw_269, rfl⟩
theorem ff_5_147 : x_FF RX5 147 3 2 RX3 TX3 8 := ⟨rfl, by decide, cin_3, by decide, xw_193, rfl⟩
theorem ff_5_15 : x_FF RX5 15 5 1 RX5 TX5 5 := ⟨rfl, by decide, cin_5, by decide, xw_331, rfl⟩
theorem ff_5_152 : x_FF RX5 152 3 3 RX3 TX3 8 := ⟨rfl, by decide, cin_3, by decide, xw_198, rfl⟩
theorem ff_5_155 : x_FF RX5 155 4 8 RX4 TX4 13 := ⟨rfl, by decide, cin_4, by decide, xw_292, rfl⟩
theorem ff_5_158 : x_FF RX5 158 4 4 RX4 TX4 13 := ⟨rfl, by decide, cin_4, by decide, xw_277, rfl⟩
theorem ff_5_179 : x_FF RX5 179 1 5 RX1 TX1 8 := ⟨rfl, by decide, cin_1, by decide, xw_241, rfl⟩
theorem ff_5_182 : x_FF RX5 182 1 3 RX1 TX1 8 := ⟨rfl, by decide, cin_1, by decide, xw_234, rfl⟩
theorem ff_5_19 : x_FF RX5 19 5 4 RX5 TX5 5 := ⟨rfl, by decide, cin_5, by decide, xw_334, rfl⟩
theorem ff_5_23 : x_FF RX5 23 5 2 RX5 TX5 5 := ⟨rfl, by decide, cin_5, by decide, xw_332, rfl⟩
theorem ff_5_50 : x_FF RX5 50 5 3 RX5 TX5 5 := ⟨rfl, by decide, cin_5, by decide, xw_333, rfl⟩
theorem ff_5_75 : x_FF RX5 75 4 5 RX4 TX4 13 := ⟨rfl, by decide, cin_4, by decide, xw_279, rfl⟩
theorem ff_5_9 : x_FF RX5 9 5 0 RX5 TX5 5 := ⟨rfl, by decide, cin_5, by decide, xw_330, rfl⟩
theorem ff_6_100 : x_FF RX6 100 1 5 RX1 TX1 8 := ⟨rfl, by decide, cin_1, by decide, xw_240, rfl⟩
theorem ff_6_15 : x_FF RX6 15 6 3 RX6 TX6 5 := ⟨rfl, by decide, cin_6, by decide, xw_380, rfl⟩
theorem ff_6_18 : x_FF RX6 18 6 0 RX6 TX6 5 := ⟨rfl, by decide, cin_6, by decide, xw_377, rfl⟩
theorem ff_6_22 : x_FF RX6 22 6 1 RX6 TX6 5 := ⟨rfl, by decide, cin_6, by decide, xw_378, rfl⟩
theorem ff_6_26 : x_FF RX6 26 4 1 RX4 TX4 13 := ⟨rfl, by decide, cin_4, by decide, xw_264, rfl⟩
theorem ff_6_33 : x_FF RX6 33 6 4 RX6 TX6 5 := ⟨rfl, by decide, cin_6, by decide, xw_381, rfl⟩
theorem ff_6_37 : x_FF RX6 37 4 7 RX4 TX4 13 := ⟨rfl, by decide, cin_4, by decide, xw_284, rfl⟩
theorem ff_6_54 : x_FF RX6 54 4 3 RX4 TX4 13 := ⟨rfl, by decide, cin_4, by decide, xw_268, rfl⟩
theorem ff_6_69 : x_FF RX6 69 3 1 RX3 TX3 8 := ⟨rfl, by decide, cin_3, by decide, xw_188, rfl⟩
theorem ff_6_72 : x_FF RX6 72 3 0 RX3 TX3 8 := ⟨rfl, by decide, cin_3, by decide, xw_182, rfl⟩
theorem ff_6_79 : x_FF RX6 79 4 8 RX4 TX4 13 := ⟨rfl, by decide, cin_4, by decide, xw_289, rfl⟩
theorem ff_6_82 : x_FF RX6 82 4 4 RX4 TX4 13 := ⟨rfl, by decide, cin_4, by decide, xw_275, rfl⟩
theorem ff_6_9 : x_FF RX6 9 6 2 RX6 TX6 5 := ⟨rfl, by decide, cin_6, by decide, xw_379, rfl⟩
theorem ff_6_90 : x_FF RX6 90 4 0 RX4 TX4 13 := ⟨rfl, by decide, cin_4, by decide, xw_262, rfl⟩
theorem ff_6_97 : x_FF RX6 97 1 4 RX1 TX1 8 := ⟨rfl, by decide, cin_1, by decide, xw_236, rfl⟩
theorem ff_7_102 : x_FF RX7 102 1 0 RX1 TX1 8 := ⟨rfl, by decide, cin_1, by decide, xw_227, rfl⟩
theorem ff_7_106 : x_FF RX7 106 4 2 RX4 TX4 13 := ⟨rfl, by decide, cin_4, by decide, xw_266, rfl⟩
theorem ff_7_109 : x_FF RX7 109 1 2 RX1 TX1 8 := ⟨rfl, by decide, cin_1, by decide, xw_231, rfl⟩
theorem ff_7_120 : x_FF RX7 120 4 3 RX4 TX4 13 := ⟨rfl, by decide, cin_4, by decide, xw_272, rfl⟩
theorem ff_7_124 : x_FF RX7 124 3 0 RX3 TX3 8 := ⟨rfl, by decide, cin_3, by decide, xw_185, rfl⟩
theorem ff_7_15 : x_FF RX7 15 7 3 RX7 TX7 9 := ⟨rfl, by decide, cin_7, by decide, xw_403, rfl⟩
theorem ff_7_18 : x_FF RX7 18 7 4 RX7 TX7 9 := ⟨rfl, by decide, cin_7, by decide, xw_404, rfl⟩
theorem ff_7_22 : x_FF RX7 22 7 5 RX7 TX7 9 := ⟨rfl, by decide, cin_7, by decide, xw_405, rfl⟩
theorem ff_7_25 : x_FF RX7 25 7 6 RX7 TX7 9 := ⟨rfl, by decide, cin_7, by decide, xw_406, rfl⟩
theorem ff_7_28 : x_FF RX7 28 7 0 RX7 TX7 9 := ⟨rfl, by decide, cin_7, by decide, xw_400, rfl⟩
theorem ff_7_32 : x_FF RX7 32 7 1 RX7 TX7 9 := ⟨rfl, by decide, cin_7, by decide, xw_401, rfl⟩
theorem ff_7_36 : x_FF RX7 36 7 2 RX7 TX7 9 := ⟨rfl, by decide, cin_7, by decide, xw_402, rfl⟩
theorem ff_7_40 : x_FF RX7 40 7 7 RX7 TX7 9 := ⟨rfl, by decide, cin_7, by decide, xw_407, rfl⟩
theorem ff_7_45 : x_FF RX7 45 7 8 RX7 TX7 9 := ⟨rfl, by decide, cin_7, by decide, xw_408, rfl⟩
theorem ff_7_74 : x_FF RX7 74 4 4 RX4 TX4 13 := ⟨rfl, by decide, cin_4, by decide, xw_276, rfl⟩
theorem ff_7_78 : x_FF RX7 78 1 5 RX1 TX1 8 := ⟨rfl, by decide, cin_1, by decide, xw_239, rfl⟩
theorem ff_7_92 : x_FF RX7 92 1 3 RX1 TX1 8 := ⟨rfl, by decide, cin_1, by decide, xw_233, rfl⟩
theorem ff_7_99 : x_FF RX7 99 1 1 RX1 TX1 8 := ⟨rfl, by decide, cin_1, by decide, xw_229, rfl⟩
theorem ff_8_13 : x_FF RX8 13 8 1 RX8 TX8 4 := ⟨rfl, by decide, cin_8, by decide, xw_127, rfl⟩
theorem ff_8_17 : x_FF RX8 17 8 2 RX8 TX8 4 := ⟨rfl, by decide, cin_8, by decide, xw_128, rfl⟩
theorem ff_8_22 : x_FF RX8 22 8 3 RX8 TX8 4 := ⟨rfl, by decide, cin_8, by decide, xw_129, rfl⟩
theorem ff_8_9 : x_FF RX8 9 8 0 RX8 TX8 4 := ⟨rfl, by decide, cin_8, by decide, xw_126, rfl⟩
theorem ff_9_11 : x_FF RX9 11 9 3 RX9 TX9 5 := ⟨rfl, by decide, cin_9, by decide, xw_437, rfl⟩
theorem ff_9_17 : x_FF RX9 17 9 4 RX9 TX9 5 := ⟨rfl, by decide, cin_9, by decide, xw_438, rfl⟩
theorem ff_9_25 : x_FF RX9 25 9 1 RX9 TX9 5 := ⟨rfl, by decide, cin_9, by decide, xw_435, rfl⟩
theorem ff_9_29 : x_FF RX9 29 9 2 RX9 TX9 5 := ⟨rfl, by decide, cin_9, by decide, xw_436, rfl⟩
theorem ff_10_13 : x_FF RX10 13 10 1 RX10 TX10 6 := ⟨rfl, by decide, cin_10, by decide, xw_148, rfl⟩
theorem ff_10_17 : x_FF RX10 17 10 4 RX10 TX10 6 := ⟨rfl, by decide, cin_10, by decide, xw_151, rfl⟩
theorem ff_10_23 : x_FF RX10 23 10 3 RX10 TX10 6 := ⟨rfl, by decide, cin_10, by decide, xw_150, rfl⟩
theorem ff_10_26 : x_FF RX10 26 10 2 RX10 TX10 6 := ⟨rfl, by decide, cin_10, by decide, xw_149, rfl⟩
theorem ff_10_40 : x_FF RX10 40 10 5 RX10 TX10 6 := ⟨rfl, by decide, cin_10, by decide, xw_152, rfl⟩
theorem ff_10_9 : x_FF RX10 9 10 0 RX10 TX10 6 := ⟨rfl, by decide, cin_10, by decide, xw_147, rfl⟩
theorem ff_11_10 : x_FF RX11 10 11 0 RX11 TX11 11 := ⟨rfl, by decide, cin_11, by decide, xw_469, rfl⟩
theorem ff_11_139 : x_FF RX11 139 4 8 RX4 TX4 13 := ⟨rfl, by decide, cin_4, by decide, xw_291, rfl⟩
theorem ff_11_150 : x_FF RX11 150 4 3 RX4 TX4 13 := ⟨rfl, by decide, cin_4, by decide, xw_271, rfl⟩
theorem ff_11_154 : x_FF RX11 154 3 0 RX3 TX3 8 := ⟨rfl, by decide, cin_3, by decide, xw_184, rfl⟩
theorem ff_11_159 : x_FF RX11 159 3 1 RX3 TX3 8 := ⟨rfl, by decide, cin_3, by decide, xw_189, rfl⟩
theorem ff_11_162 : x_FF RX11 162 3 2 RX3 TX3 8 := ⟨rfl, by decide, cin_3, by decide, xw_194, rfl⟩
theorem ff_11_165 : x_FF RX11 165 3 3 RX3 TX3 8 := ⟨rfl, by decide, cin_3, by decide, xw_197, rfl⟩
theorem ff_11_19 : x_FF RX11 19 11 1 RX11 TX11 11 := ⟨rfl, by decide, cin_11, by decide, xw_470, rfl⟩
theorem ff_11_26 : x_FF RX11 26 11 2 RX11 TX11 11 := ⟨rfl, by decide, cin_11, by decide, xw_471, rfl⟩
theorem ff_11_265 : x_FF RX11 265 4 5 RX4 TX4 13 := ⟨rfl, by decide, cin_4, by decide, xw_280, rfl⟩
theorem ff_11_268 : x_FF RX11 268 4 6 RX4 TX4 13 := ⟨rfl, by decide, cin_4, by decide, xw_283, rfl⟩
theorem ff_11_271 : x_FF RX11 271 4 7 RX4 TX4 13 := ⟨rfl, by decide, cin_4, by decide, xw_288, rfl⟩
theorem ff_11_285 : x_FF RX11 285 11 10 RX11 TX11 11 := ⟨rfl, by decide, cin_11, by decide, xw_479, rfl⟩
theorem ff_11_35 : x_FF RX11 35 11 3 RX11 TX11 11 := ⟨rfl, by decide, cin_11, by decide, xw_472, rfl⟩
theorem ff_11_44 : x_FF RX11 44 11 4 RX11 TX11 11 := ⟨rfl, by decide, cin_11, by decide, xw_473, rfl⟩
theorem ff_11_53 : x_FF RX11 53 11 5 RX11 TX11 11 := ⟨rfl, by decide, cin_11, by decide, xw_474, rfl⟩
theorem ff_11_57 : x_FF RX11 57 11 6 RX11 TX11 11 := ⟨rfl, by decide, cin_11, by decide, xw_475, rfl⟩
theorem ff_11_66 : x_FF RX11 66 11 7 RX11 TX11 11 := ⟨rfl, by decide, cin_11, by decide, xw_476, rfl⟩
theorem ff_11_75 : x_FF RX11 75 11 8 RX11 TX11 11 := ⟨rfl, by decide, cin_11, by decide, xw_477, rfl⟩
theorem ff_11_82 : x_FF RX11 82 11 9 RX11 TX11 11 := ⟨rfl, by decide, cin_11, by decide, xw_478, rfl⟩
theorem ff_12_100 : x_FF RX12 100 12 52 RX12 TX12 72 := ⟨rfl, by decide, cin_12, by decide, xw_1217, rfl⟩
theorem ff_12_103 : x_FF RX12 103 12 53 RX12 TX12 72 := ⟨rfl, by decide, cin_12, by decide, xw_1218, rfl⟩
theorem ff_12_106 : x_FF RX12 106 12 54 RX12 TX12 72 := ⟨rfl, by decide, cin_12, by decide, xw_1219, rfl⟩
theorem ff_12_109 : x_FF RX12 109 12 55 RX12 TX12 72 := ⟨rfl, by decide, cin_12, by decide, xw_1220, rfl⟩
theorem ff_12_112 : x_FF RX12 112 12 56 RX12 TX12 72 := ⟨rfl, by decide, cin_12, by decide, xw_1221, rfl⟩
theorem ff_12_116 : x_FF RX12 116 12 58 RX12 TX12 72 := ⟨rfl, by decide, cin_12, by decide, xw_1223, rfl⟩
theorem ff_12_119 : x_FF RX12 119 12 66 RX12 TX12 72 := ⟨rfl, by decide, cin_12, by decide, xw_1231, rfl⟩
theorem ff_12_122 : x_FF RX12 122 12 67 RX12 TX12 72 := ⟨rfl, by decide, cin_12, by decide, xw_1232, rfl⟩
theorem ff_12_125 : x_FF RX12 125 12 69 RX12 TX12 72 := ⟨rfl, by decide, cin_12, by decide, xw_1234, rfl⟩
theorem ff_12_128 : x_FF RX12 128 12 70 RX12 TX12 72 := ⟨rfl, by decide, cin_12, by decide, xw_1235, rfl⟩
theorem ff_12_13 : x_FF RX12 13 12 3 RX12 TX12 72 := ⟨rfl, by decide, cin_12, by decide, xw_1168, rfl⟩
theorem ff_12_131 : x_FF RX12 131 12 0 RX12 TX12 72 := ⟨rfl, by decide, cin_12, by decide, xw_1165, rfl⟩
theorem ff_12_135 : x_FF RX12 135 12 1 RX12 TX12 72 := ⟨rfl, by decide, cin_12, by decide, xw_1166, rfl⟩
theorem ff_12_158 : x_FF RX12 158 12 26 RX12 TX12 72 := ⟨rfl, by decide, cin_12, by decide, xw_1191, rfl⟩
theorem ff_12_16 : x_FF RX12 16 12 4 RX12 TX12 72 := ⟨rfl, by decide, cin_12, by decide, xw_1169, rfl⟩
theorem ff_12_164 : x_FF RX12 164 12 28 RX12 TX12 72 := ⟨rfl, by decide, cin_12, by decide, xw_1193, rfl⟩
theorem ff_12_168 : x_FF RX12 168 12 29 RX12 TX12 72 := ⟨rfl, by decide, cin_12, by decide, xw_1194, rfl⟩
theorem ff_12_174 : x_FF RX12 174 12 31 RX12 TX12 72 := ⟨rfl, by decide, cin_12, by decide, xw_1196, rfl⟩
theorem ff_12_177 : x_FF RX12 177 12 30 RX12 TX12 72 := ⟨rfl, by decide, cin_12, by decide, xw_1195, rfl⟩
theorem ff_12_189 : x_FF RX12 189 12 32 RX12 TX12 72 := ⟨rfl, by decide, cin_12, by decide, xw_1197, rfl⟩
theorem ff_12_19 : x_FF RX12 19 12 6 RX12 TX12 72 := ⟨rfl, by decide, cin_12, by decide, xw_1171, rfl⟩
theorem ff_12_192 : x_FF RX12 192 12 33 RX12 TX12 72 := ⟨rfl, by decide, cin_12, by decide, xw_1198, rfl⟩
theorem ff_12_195 : x_FF RX12 195 12 34 RX12 TX12 72 := ⟨rfl, by decide, cin_12, by decide, xw_1199, rfl⟩
theorem ff_12_22 : x_FF RX12 22 12 8 RX12 TX12 72 := ⟨rfl, by decide, cin_12, by decide, xw_1173, rfl⟩
theorem ff_12_243 : x_FF RX12 243 12 35 RX12 TX12 72 := ⟨rfl, by decide, cin_12, by decide, xw_1200, rfl⟩
theorem ff_12_25 : x_FF RX12 25 12 9 RX12 TX12 72 := ⟨rfl, by decide, cin_12, by decide, xw_1174, rfl⟩
theorem ff_12_251 : x_FF RX12 251 12 36 RX12 TX12 72 := ⟨rfl, by decide, cin_12, by decide, xw_1201, rfl⟩
theorem ff_12_254 : x_FF RX12 254 12 37 RX12 TX12 72 := ⟨rfl, by decide, cin_12, by decide, xw_1202, rfl⟩
theorem ff_12_271 : x_FF RX12 271 12 38 RX12 TX12 72 := ⟨rfl, by decide, cin_12, by decide, xw_1203, rfl⟩
theorem ff_12_28 : x_FF RX12 28 12 11 RX12 TX12 72 := ⟨rfl, by decide, cin_12, by decide, xw_1176, rfl⟩
theorem ff_12_282 : x_FF RX12 282 12 5 RX12 TX12 72 := ⟨rfl, by decide, cin_12, by decide, xw_1170, rfl⟩
theorem ff_12_285 : x_FF RX12 285 12 7 RX12 TX12 72 := ⟨rfl, by decide, cin_12, by decide, xw_1172, rfl⟩
theorem ff_12_288 : x_FF RX12 288 12 10 RX12 TX12 72 := ⟨rfl, by decide, cin_12, by decide, xw_1175, rfl⟩
theorem ff_12_291 : x_FF RX12 291 12 18 RX12 TX12 72 := ⟨rfl, by decide, cin_12, by decide, xw_1183, rfl⟩
theorem ff_12_31 : x_FF RX12 31 12 12 RX12 TX12 72 := ⟨rfl, by decide, cin_12, by decide, xw_1177, rfl⟩
theorem ff_12_312 : x_FF RX12 312 12 27 RX12 TX12 72 := ⟨rfl, by decide, cin_12, by decide, xw_1192, rfl⟩
theorem ff_12_316 : x_FF RX12 316 12 41 RX12 TX12 72 := ⟨rfl, by decide, cin_12, by decide, xw_1206, rfl⟩
theorem ff_12_319 : x_FF RX12 319 12 44 RX12 TX12 72 := ⟨rfl, by decide, cin_12, by decide, xw_1209, rfl⟩
theorem ff_12_34 : x_FF RX12 34 12 13 RX12 TX12 72 := ⟨rfl, by decide, cin_12, by decide, xw_1178, rfl⟩
theorem ff_12_37 : x_FF RX12 37 12 14 RX12 TX12 72 := ⟨rfl, by decide, cin_12, by decide, xw_1179, rfl⟩
theorem ff_12_378 : x_FF RX12 378 12 48 RX12 TX12 72 := ⟨rfl, by decide, cin_12, by decide, xw_1213, rfl⟩
theorem ff_12_381 : x_FF RX12 381 12 62 RX12 TX12 72 := ⟨rfl, by decide, cin_12, by decide, xw_1227, rfl⟩
theorem ff_12_384 : x_FF RX12 384 12 61 RX12 TX12 72 := ⟨rfl, by decide, cin_12, by decide, xw_1226, rfl⟩
theorem ff_12_388 : x_FF RX12 388 12 60 RX12 TX12 72 := ⟨rfl, by decide, cin_12, by decide, xw_1225, rfl⟩
theorem ff_12_391 : x_FF RX12 391 12 63 RX12 TX12 72 := ⟨rfl, by decide, cin_12, by decide, xw_1228, rfl⟩
theorem ff_12_394 : x_FF RX12 394 12 64 RX12 TX12 72 := ⟨rfl, by decide, cin_12, by decide, xw_1229, rfl⟩
theorem ff_12_397 : x_FF RX12 397 12 57 RX12 TX12 72 := ⟨rfl, by decide, cin_12, by decide, xw_1222, rfl⟩
theorem ff_12_40 : x_FF RX12 40 12 15 RX12 TX12 72 := ⟨rfl, by decide, cin_12, by decide, xw_1180, rfl⟩
theorem ff_12_400 : x_FF RX12 400 12 59 RX12 TX12 72 := ⟨rfl, by decide, cin_12, by decide, xw_1224, rfl⟩
theorem ff_12_43 : x_FF RX12 43 12 16 RX12 TX12 72 := ⟨rfl, by decide, cin_12, by decide, xw_1181, rfl⟩
theorem ff_12_433 : x_FF RX12 433 12 65 RX12 TX12 72 := ⟨rfl, by decide, cin_12, by decide, xw_1230, rfl⟩
theorem ff_12_438 : x_FF RX12 438 12 68 RX12 TX12 72 := ⟨rfl, by decide, cin_12, by decide, xw_1233, rfl⟩
theorem ff_12_46 : x_FF RX12 46 12 17 RX12 TX12 72 := ⟨rfl, by decide, cin_12, by decide, xw_1182, rfl⟩
theorem ff_12_460 : x_FF RX12 460 12 71 RX12 TX12 72 := ⟨rfl, by decide, cin_12, by decide, xw_1236, rfl⟩
theorem ff_12_49 : x_FF RX12 49 12 19 RX12 TX12 72 := ⟨rfl, by decide, cin_12, by decide, xw_1184, rfl⟩
theorem ff_12_52 : x_FF RX12 52 12 20 RX12 TX12 72 := ⟨rfl, by decide, cin_12, by decide, xw_1185, rfl⟩
theorem ff_12_55 : x_FF RX12 55 12 21 RX12 TX12 72 := ⟨rfl, by decide, cin_12, by decide, xw_1186, rfl⟩
theorem ff_12_58 : x_FF RX12 58 12 22 RX12 TX12 72 := ⟨rfl, by decide, cin_12, by decide, xw_1187, rfl⟩
theorem ff_12_61 : x_FF RX12 61 12 23 RX12 TX12 72 := ⟨rfl, by decide, cin_12, by decide, xw_1188, rfl⟩
theorem ff_12_64 : x_FF RX12 64 12 24 RX12 TX12 72 := ⟨rfl, by decide, cin_12, by decide, xw_1189, rfl⟩
theorem ff_12_67 : x_FF RX12 67 12 25 RX12 TX12 72 := ⟨rfl, by decide, cin_12, by decide, xw_1190, rfl⟩
theorem ff_12_7 : x_FF RX12 7 12 2 RX12 TX12 72 := ⟨rfl, by decide, cin_12, by decide, xw_1167, rfl⟩
theorem ff_12_70 : x_FF RX12 70 12 39 RX12 TX12 72 := ⟨rfl, by decide, cin_12, by decide, xw_1204, rfl⟩
theorem ff_12_73 : x_FF RX12 73 12 40 RX12 TX12 72 := ⟨rfl, by decide, cin_12, by decide, xw_1205, rfl⟩
theorem ff_12_76 : x_FF RX12 76 12 42 RX12 TX12 72 := ⟨rfl, by decide, cin_12, by decide, xw_1207, rfl⟩
theorem ff_12_79 : x_FF RX12 79 12 43 RX12 TX12 72 := ⟨rfl, by decide, cin_12, by decide, xw_1208, rfl⟩
theorem ff_12_82 : x_FF RX12 82 12 45 RX12 TX12 72 := ⟨rfl, by decide, cin_12, by decide, xw_1210, rfl⟩
theorem ff_12_85 : x_FF RX12 85 12 46 RX12 TX12 72 := ⟨rfl, by decide, cin_12, by decide, xw_1211, rfl⟩
theorem ff_12_88 : x_FF RX12 88 12 47 RX12 TX12 72 := ⟨rfl, by decide, cin_12, by decide, xw_1212, rfl⟩
theorem ff_12_91 : x_FF RX12 91 12 49 RX12 TX12 72 := ⟨rfl, by decide, cin_12, by decide, xw_1214, rfl⟩
theorem ff_12_94 : x_FF RX12 94 12 50 RX12 TX12 72 := ⟨rfl, by decide, cin_12, by decide, xw_1215, rfl⟩
theorem ff_12_97 : x_FF RX12 97 12 51 RX12 TX12 72 := ⟨rfl, by decide, cin_12, by decide, xw_1216, rfl⟩
theorem fp_0_3 : x_FP 0 3 TX0 4 tyX0 .int := ⟨tyX0_ok, nmX0, rfl, by decide +kernel, by decide⟩
theorem fp_1_3 : x_FP 1 3 TX1 8 tyX1 .int := ⟨tyX1_ok, nmX1, rfl, by decide +kernel, by decide⟩
theorem fp_1_4 : x_FP 1 4 TX1 8 tyX1 .int := ⟨tyX1_ok, nmX1, rfl, by decide +kernel, by decide⟩
theorem fp_1_5 : x_FP 1 5 TX1 8 tyX1 .int := ⟨tyX1_ok, nmX1, rfl, by decide +kernel, by decide⟩
theorem fp_1_6 : x_FP 1 6 TX1 8 tyX1 .int := ⟨tyX1_ok, nmX1, rfl, by decide +kernel, by decide⟩
theorem fp_1_7 : x_FP 1 7 TX1 8 tyX1 .int := ⟨tyX1_ok, nmX1, rfl, by decide +kernel, by decide⟩
theorem fp_2_4 : x_FP 2 4 TX2 6 tyX2 .int := ⟨tyX2_ok, nmX2, rfl, by decide +kernel, by decide⟩
theorem fp_2_5 : x_FP 2 5 TX2 6 tyX2 .int := ⟨tyX2_ok, nmX2, rfl, by decide +kernel, by decide⟩
theorem fp_3_0 : x_FP 3 0 TX3 8 tyX3 .int := ⟨tyX3_ok, nmX3, rfl, by decide +kernel, by decide⟩
theorem fp_3_1 : x_FP 3 1 TX3 8 tyX3 .int := ⟨tyX3_ok, nmX3, rfl, by decide +kernel, by decide⟩
theorem fp_3_2 : x_FP 3 2 TX3 8 tyX3 .int := ⟨tyX3_ok, nmX3, rfl, by decide +kernel, by decide⟩
theorem fp_3_3 : x_FP 3 3 TX3 8 tyX3 .int := ⟨tyX3_ok, nmX3, rfl, by decide +kernel, by decide⟩
theorem fp_3_4 : x_FP 3 4 TX3 8 tyX3 .boolean := ⟨tyX3_ok, nmX3, rfl, by decide +kernel, by decide⟩
theorem fp_3_5 : x_FP 3 5 TX3 8 tyX3 .int := ⟨tyX3_ok, nmX3, rfl, by decide +kernel, by decide⟩
theorem fp_3_6 : x_FP 3 6 TX3 8 tyX3 .char := ⟨tyX3_ok, nmX3, rfl, by decide +kernel, by decide⟩
theorem fp_3_7 : x_FP 3 7 TX3 8 tyX3 .int := ⟨tyX3_ok, nmX3, rfl, by decide +kernel, by decide⟩
theorem fp_4_10 : x_FP 4 10 TX4 13 tyX4 .int := ⟨tyX4_ok, nmX4, rfl, by decide +kernel, by decide⟩
theorem fp_4_11 : x_FP 4 11 TX4 13 tyX4 .int := ⟨tyX4_ok, nmX4, rfl, by decide +kernel, by decide⟩
theorem fp_4_12 : x_FP 4 12 TX4 13 tyX4 .int := ⟨tyX4_ok, nmX4, rfl, by decide +kernel, by decide⟩
theorem fp_4_5 : x_FP 4 5 TX4 13 tyX4 .int := ⟨tyX4_ok, nmX4, rfl, by decide +kernel, by decide⟩
theorem fp_4_6 : x_FP 4 6 TX4 13 tyX4 .int := ⟨tyX4_ok, nmX4, rfl, by decide +kernel, by decide⟩
theorem fp_4_7 : x_FP 4 7 TX4 13 tyX4 .int := ⟨tyX4_ok, nmX4, rfl, by decide +kernel, by decide⟩
theorem fp_4_8 : x_FP 4 8 TX4 13 tyX4 .int := ⟨tyX4_ok, nmX4, rfl, by decide +kernel, by decide⟩
theorem fp_4_9 : x_FP 4 9 TX4 13 tyX4 .int := ⟨tyX4_ok, nmX4, rfl, by decide +kernel, by decide⟩
theorem fp_5_2 : x_FP 5 2 TX5 5 tyX5 .boolean := ⟨tyX5_ok, nmX5, rfl, by decide +kernel, by decide⟩
theorem fp_5_3 : x_FP 5 3 TX5 5 tyX5 .int := ⟨tyX5_ok, nmX5, rfl, by decide +kernel, by decide⟩
theorem fp_5_4 : x_FP 5 4 TX5 5 tyX5 .int := ⟨tyX5_ok, nmX5, rfl, by decide +kernel, by decide⟩
theorem fp_6_4 : x_FP 6 4 TX6 5 tyX6 .int := ⟨tyX6_ok, nmX6, rfl, by decide +kernel, by decide⟩
theorem fp_7_7 : x_FP 7 7 TX7 9 tyX7 .int := ⟨tyX7_ok, nmX7, rfl, by decide +kernel, by decide⟩
theorem fp_7_8 : x_FP 7 8 TX7 9 tyX7 .boolean := ⟨tyX7_ok, nmX7, rfl, by decide +kernel, by decide⟩
theorem fp_10_1 : x_FP 10 1 TX10 6 tyX10 .int := ⟨tyX10_ok, nmX10, rfl, by decide +kernel, by decide⟩
theorem fp_10_2 : x_FP 10 2 TX10 6 tyX10 .int := ⟨tyX10_ok, nmX10, rfl, by decide +kernel, by decide⟩
theorem fp_10_3 : x_FP 10 3 TX10 6 tyX10 .int := ⟨tyX10_ok, nmX10, rfl, by decide +kernel, by decide⟩
theorem fp_10_4 : x_FP 10 4 TX10 6 tyX10 .int := ⟨tyX10_ok, nmX10, rfl, by decide +kernel, by decide⟩
theorem fp_10_5 : x_FP 10 5 TX10 6 tyX10 .int := ⟨tyX10_ok, nmX10, rfl, by decide +kernel, by decide⟩
theorem fp_11_10 : x_FP 11 10 TX11 11 tyX11 .int := ⟨tyX11_ok, nmX11, rfl, by decide +kernel, by decide⟩
theorem fp_12_0 : x_FP 12 0 TX12 72 tyX12 .int := ⟨tyX12_ok, nmX12, rfl, by decide +kernel, by decide⟩
theorem fp_12_1 : x_FP 12 1 TX12 72 tyX12 .int := ⟨tyX12_ok, nmX12, rfl, by decide +kernel, by decide⟩
theorem fp_12_10 : x_FP 12 10 TX12 72 tyX12 .int := ⟨tyX12_ok, nmX12, rfl, by decide +kernel, by decide⟩
theorem fp_12_18 : x_FP 12 18 TX12 72 tyX12 .int := ⟨tyX12_ok, nmX12, rfl, by decide +kernel, by decide⟩
theorem fp_12_26 : x_FP 12 26 TX12 72 tyX12 .int := ⟨tyX12_ok, nmX12, rfl, by decide +kernel, by decide⟩
theorem fp_12_27 : x_FP 12 27 TX12 72 tyX12 .int := ⟨tyX12_ok, nmX12, rfl, by decide +kernel, by decide⟩
theorem fp_12_28 : x_FP 12 28 TX12 72 tyX12 .int := ⟨tyX12_ok, nmX12, rfl, by decide +kernel, by decide⟩
theorem fp_12_29 : x_FP 12 29 TX12 72 tyX12 .int := ⟨tyX12_ok, nmX12, rfl, by decide +kernel, by decide⟩
theorem fp_12_30 : x_FP 12 30 TX12 72 tyX12 .int := ⟨tyX12_ok, nmX12, rfl, by decide +kernel, by decide⟩
theorem fp_12_31 : x_FP 12 31 TX12 72 tyX12 .int := ⟨tyX12_ok, nmX12, rfl, by decide +kernel, by decide⟩
theorem fp_12_32 : x_FP 12 32 TX12 72 tyX12 .int := ⟨tyX12_ok, nmX12, rfl, by decide +kernel, by decide⟩
theorem fp_12_33 : x_FP 12 33 TX12 72 tyX12 .int := ⟨tyX12_ok, nmX12, rfl, by decide +kernel, by decide⟩
theorem fp_12_34 : x_FP 12 34 TX12 72 tyX12 .int := ⟨tyX12_ok, nmX12, rfl, by decide +kernel, by decide⟩
theorem fp_12_35 : x_FP 12 35 TX12 72 tyX12 .int := ⟨tyX12_ok, nmX12, rfl, by decide +kernel, by decide⟩
theorem fp_12_36 : x_FP 12 36 TX12 72 tyX12 .int := ⟨tyX12_ok, nmX12, rfl, by decide +kernel, by decide⟩
theorem fp_12_37 : x_FP 12 37 TX12 72 tyX12 .int := ⟨tyX12_ok, nmX12, rfl, by decide +kernel, by decide⟩
theorem fp_12_38 : x_FP 12 38 TX12 72 tyX12 .int := ⟨tyX12_ok, nmX12, rfl, by decide +kernel, by decide⟩
theorem fp_12_41 : x_FP 12 41 TX12 72 tyX12 .int := ⟨tyX12_ok, nmX12, rfl, by decide +kernel, by decide⟩
theorem fp_12_44 : x_FP 12 44 TX12 72 tyX12 .int := ⟨tyX12_ok, nmX12, rfl, by decide +kernel, by decide⟩
theorem fp_12_48 : x_FP 12 48 TX12 72 tyX12 .int := ⟨tyX12_ok, nmX12, rfl, by decide +kernel, by decide⟩
theorem fp_12_5 : x_FP 12 5 TX12 72 tyX12 .int := ⟨tyX12_ok, nmX12, rfl, by decide +kernel, by decide⟩
theorem fp_12_57 : x_FP 12 57 TX12 72 tyX12 .int := ⟨tyX12_ok, nmX12, rfl, by decide +kernel, by decide⟩
theorem fp_12_59 : x_FP 12 59 TX12 72 tyX12 .boolean := ⟨tyX12_ok, nmX12, rfl, by decide +kernel, by decide⟩
theorem fp_12_60 : x_FP 12 60 TX12 72 tyX12 .boolean := ⟨tyX12_ok, nmX12, rfl, by decide +kernel, by decide⟩
theorem fp_12_61 : x_FP 12 61 TX12 72 tyX12 .boolean := ⟨tyX12_ok, nmX12, rfl, by decide +kernel, by decide⟩
theorem fp_12_62 : x_FP 12 62 TX12 72 tyX12 .int := ⟨tyX12_ok, nmX12, rfl, by decide +kernel, by decide⟩
theorem fp_12_63 : x_FP 12 63 TX12 72 tyX12 .int := ⟨tyX12_ok, nmX12, rfl, by decide +kernel, by decide⟩
theorem fp_12_64 : x_FP 12 64 TX12 72 tyX12 .int := ⟨tyX12_ok, nmX12, rfl, by decide +kernel, by decide⟩
theorem fp_12_65 : x_FP 12 65 TX12 72 tyX12 .int := ⟨tyX12_ok, nmX12, rfl, by decide +kernel, by decide⟩
theorem fp_12_68 : x_FP 12 68 TX12 72 tyX12 .int := ⟨tyX12_ok, nmX12, rfl, by decide +kernel, by decide⟩
theorem fp_12_7 : x_FP 12 7 TX12 72 tyX12 .int := ⟨tyX12_ok, nmX12, rfl, by decide +kernel, by decide⟩
theorem fp_12_71 : x_FP 12 71 TX12 72 tyX12 .int := ⟨tyX12_ok, nmX12, rfl, by decide +kernel, by decide⟩
theorem is_0 : x_is 0 11 := ⟨by decide, by decide⟩
theorem is_1 : x_is 1 8 := ⟨by decide, by decide⟩
theorem is_126 : x_is 126 5 := ⟨by decide, by decide⟩
theorem is_127 : x_is 127 2 := ⟨by decide, by decide⟩
theorem is_128 : x_is 128 13 := ⟨by decide, by decide⟩
theorem is_129 : x_is 129 13 := ⟨by decide, by decide⟩
theorem is_130 : x_is 130 13 := ⟨by decide, by decide⟩
theorem is_131 : x_is 131 6 := ⟨by decide, by decide⟩
theorem is_132 : x_is 132 13 := ⟨by decide, by decide⟩
theorem is_133 : x_is 133 13 := ⟨by decide, by decide⟩
theorem is_134 : x_is 134 13 := ⟨by decide, by decide⟩
theorem is_135 : x_is 135 7 := ⟨by decide, by decide⟩
theorem is_14 : x_is 14 10 := ⟨by decide, by decide⟩
theorem is_146 : x_is 146 9 := ⟨by decide, by decide⟩
theorem is_147 : x_is 147 7 := ⟨by decide, by decide⟩
theorem is_15 : x_is 15 13 := ⟨by decide, by decide⟩
theorem is_158 : x_is 158 13 := ⟨by decide, by decide⟩
theorem is_159 : x_is 159 14 := ⟨by decide, by decide⟩
theorem is_16 : x_is 16 4 := ⟨by decide, by decide⟩
theorem is_160 : x_is 160 0 := ⟨by decide, by decide⟩
theorem is_161 : x_is 161 13 := ⟨by decide, by decide⟩
theorem is_162 : x_is 162 12 := ⟨by decide, by decide⟩
theorem is_163 : x_is 163 13 := ⟨by decide, by decide⟩
theorem is_164 : x_is 164 13 := ⟨by decide, by decide⟩
theorem is_165 : x_is 165 13 := ⟨by decide, by decide⟩
theorem is_166 : x_is 166 13 := ⟨by decide, by decide⟩
theorem is_167 : x_is 167 13 := ⟨by decide, by decide⟩
theorem is_168 : x_is 168 13 := ⟨by decide, by decide⟩
theorem is_169 : x_is 169 13 := ⟨by decide, by decide⟩
theorem is_17 : x_is 17 13 := ⟨by decide, by decide⟩
theorem is_170 : x_is 170 13 := ⟨by decide, by decide⟩
theorem is_171 : x_is 171 13 := ⟨by decide, by decide⟩
theorem is_172 : x_is 172 13 := ⟨by decide, by decide⟩
theorem is_173 : x_is 173 13 := ⟨by decide, by decide⟩
theorem is_174 : x_is 174 13 := ⟨by decide, by decide⟩
theorem is_175 : x_is 175 13 := ⟨by decide, by decide⟩
theorem is_176 : x_is 176 13 := ⟨by decide, by decide⟩
theorem is_177 : x_is 177 13 := ⟨by decide, by decide⟩
theorem is_178 : x_is 178 13 := ⟨by decide, by decide⟩
theorem is_179 : x_is 179 13 := ⟨by decide, by decide⟩
theorem is_18 : x_is 18 13 := ⟨by decide, by decide⟩
theorem is_180 : x_is 180 13 := ⟨by decide, by decide⟩
theorem is_181 : x_is 181 13 := ⟨by decide, by decide⟩
theorem is_182 : x_is 182 13 := ⟨by decide, by decide⟩
theorem is_183 : x_is 183 13 := ⟨by decide, by decide⟩
theorem is_184 : x_is 184 13 := ⟨by decide, by decide⟩
theorem is_185 : x_is 185 13 := ⟨by decide, by decide⟩
theorem is_186 : x_is 186 13 := ⟨by decide, by decide⟩
theorem is_187 : x_is 187 13 := ⟨by decide, by decide⟩
theorem is_188 : x_is 188 13 := ⟨by decide, by decide⟩
theorem is_189 : x_is 189 13 := ⟨by decide, by decide⟩
theorem is_19 : x_is 19 13 := ⟨by decide, by decide⟩
theorem is_190 : x_is 190 13 := ⟨by decide, by decide⟩
theorem is_191 : x_is 191 13 := ⟨by decide, by decide⟩
theorem is_192 : x_is 192 13 := ⟨by decide, by decide⟩
theorem is_193 : x_is 193 13 := ⟨by decide, by decide⟩
theorem is_194 : x_is 194 13 := ⟨by decide, by decide⟩
theorem is_195 : x_is 195 13 := ⟨by decide, by decide⟩
theorem is_196 : x_is 196 13 := ⟨by decide, by decide⟩
theorem is_197 : x_is 197 14 := ⟨by decide, by decide⟩
theorem is_198 : x_is 198 13 := ⟨by decide, by decide⟩
theorem is_199 : x_is 199 13 := ⟨by decide, by decide⟩
theorem is_2 : x_is 2 14 := ⟨by decide, by decide⟩
theorem is_20 : x_is 20 16 := ⟨by decide, by decide⟩
theorem is_200 : x_is 200 13 := ⟨by decide, by decide⟩
theorem is_201 : x_is 201 14 := ⟨by decide, by decide⟩
theorem is_202 : x_is 202 13 := ⟨by decide, by decide⟩
theorem is_21 : x_is 21 15 := ⟨by decide, by decide⟩
theorem is_3 : x_is 3 13 := ⟨by decide, by decide⟩
theorem is_4 : x_is 4 13 := ⟨by decide, by decide⟩
theorem is_5 : x_is 5 17 := ⟨by decide, by decide⟩
theorem rf_0_0 : x_rf 0 0 = some 1 := by decide
theorem rf_0_1 : x_rf 0 1 = some 14 := by decide
theorem rf_0_2 : x_rf 0 2 = some 16 := by decide
theorem rf_0_3 : x_rf 0 3 = some 126 := by decide
theorem rf_0_4 : x_rf 0 4 = some 127 := by decide
theorem rf_0_5 : x_rf 0 5 = some 131 := by decide
theorem rf_0_6 : x_rf 0 6 = some 134 := by decide
theorem rf_0_7 : x_rf 0 7 = some 135 := by decide
theorem rf_0_8 : x_rf 0 8 = some 146 := by decide
theorem rf_0_9 : x_rf 0 9 = some 160 := by decide
theorem rf_1_0 : x_rf 1 0 = some 2 := by decide
theorem rf_1_1 : x_rf 1 1 = some 3 := by decide
theorem rf_1_2 : x_rf 1 2 = some 4 := by decide
theorem rf_1_3 : x_rf 1 3 = some 5 := by decide
theorem rf_126_0 : x_rf 126 0 = some 14 := by decide
theorem rf_126_1 : x_rf 126 1 = some 16 := by decide
theorem rf_127_0 : x_rf 127 0 = some 16 := by decide
theorem rf_127_1 : x_rf 127 1 = some 128 := by decide
theorem rf_127_2 : x_rf 127 2 = some 129 := by decide
theorem rf_127_3 : x_rf 127 3 = some 130 := by decide
theorem rf_131_0 : x_rf 131 0 = some 16 := by decide
theorem rf_131_1 : x_rf 131 1 = some 127 := by decide
theorem rf_131_2 : x_rf 131 2 = some 132 := by decide
theorem rf_131_3 : x_rf 131 3 = some 133 := by decide
theorem rf_14_0 : x_rf 14 0 = some 15 := by decide
theorem rf_146_1 : x_rf 146 1 = some 127 := by decide
theorem rf_146_2 : x_rf 146 2 = some 147 := by decide
theorem rf_146_3 : x_rf 146 3 = some 158 := by decide
theorem rf_146_4 : x_rf 146 4 = some 159 := by decide
theorem rf_16_0 : x_rf 16 0 = some 17 := by decide
theorem rf_16_1 : x_rf 16 1 = some 18 := by decide
theorem rf_16_2 : x_rf 16 2 = some 19 := by decide
theorem rf_16_3 : x_rf 16 3 = some 20 := by decide
theorem rf_16_4 : x_rf 16 4 = some 21 := by decide
theorem rf_160_0 : x_rf 160 0 = some 16 := by decide
theorem rf_160_1 : x_rf 160 1 = some 127 := by decide
theorem rf_160_2 : x_rf 160 2 = some 161 := by decide
theorem rf_162_11 : x_rf 162 11 = some 169 := by decide
theorem rf_162_12 : x_rf 162 12 = some 170 := by decide
theorem rf_162_13 : x_rf 162 13 = some 171 := by decide
theorem rf_162_14 : x_rf 162 14 = some 172 := by decide
theorem rf_162_15 : x_rf 162 15 = some 173 := by decide
theorem rf_162_16 : x_rf 162 16 = some 174 := by decide
theorem rf_162_17 : x_rf 162 17 = some 175 := by decide
theorem rf_162_19 : x_rf 162 19 = some 176 := by decide
theorem rf_162_2 : x_rf 162 2 = some 163 := by decide
theorem rf_162_20 : x_rf 162 20 = some 177 := by decide
theorem rf_162_21 : x_rf 162 21 = some 178 := by decide
theorem rf_162_22 : x_rf 162 22 = some 179 := by decide
theorem rf_162_23 : x_rf 162 23 = some 180 := by decide
theorem rf_162_24 : x_rf 162 24 = some 181 := by decide
theorem rf_162_25 : x_rf 162 25 = some 182 := by decide
theorem rf_162_3 : x_rf 162 3 = some 164 := by decide
theorem rf_162_39 : x_rf 162 39 = some 183 := by decide
theorem rf_162_4 : x_rf 162 4 = some 165 := by decide
theorem rf_162_40 : x_rf 162 40 = some 184 := by decide
theorem rf_162_42 : x_rf 162 42 = some 185 := by decide
theorem rf_162_43 : x_rf 162 43 = some 186 := by decide
theorem rf_162_45 : x_rf 162 45 = some 187 := by decide
theorem rf_162_46 : x_rf 162 46 = some 188 := by decide
theorem rf_162_47 : x_rf 162 47 = some 189 := by decide
theorem rf_162_49 : x_rf 162 49 = some 190 := by decide
theorem rf_162_50 : x_rf 162 50 = some 191 := by decide
theorem rf_162_51 : x_rf 162 51 = some 192 := by decide
theorem rf_162_52 : x_rf 162 52 = some 193 := by decide
theorem rf_162_53 : x_rf 162 53 = some 194 := by decide
theorem rf_162_54 : x_rf 162 54 = some 195 := by decide
theorem rf_162_55 : x_rf 162 55 = some 196 := by decide
theorem rf_162_56 : x_rf 162 56 = some 197 := by decide
theorem rf_162_58 : x_rf 162 58 = some 198 := by decide
theorem rf_162_6 : x_rf 162 6 = some 166 := by decide
theorem rf_162_66 : x_rf 162 66 = some 199 := by decide
theorem rf_162_67 : x_rf 162 67 = some 200 := by decide
theorem rf_162_69 : x_rf 162 69 = some 201 := by decide
theorem rf_162_70 : x_rf 162 70 = some 202 := by decide
theorem rf_162_8 : x_rf 162 8 = some 167 := by decide
theorem rf_162_9 : x_rf 162 9 = some 168 := by decide
theorem rfc_7_0 : ∀ k, x_is k 7 → x_rf k 0 = some 16 := fun k h => (by decide +kernel : ∀ k, k < x_N → x_kd k = 7 → x_rf k 0 = some 16) k h.1 h.2
theorem rfc_7_1 : ∀ k, x_is k 7 → x_rf k 1 = some 127 := fun k h => (by decide +kernel : ∀ k, k < x_N → x_kd k = 7 → x_rf k 1 = some 127) k h.1 h.2
theorem rfc_7_2 : ∀ k, x_is k 7 → x_rf k 2 = some 131 := fun k h => (by decide +kernel : ∀ k, k < x_N → x_kd k = 7 → x_rf k 2 = some 131) k h.1 h.2
theorem sz_128 : x_sz 128 = 4 := by decide
theorem sz_129 : x_sz 129 = 16 := by decide
theorem sz_130 : x_sz 130 = 16 := by decide
theorem sz_132 : x_sz 132 = 8 := by decide
theorem sz_133 : x_sz 133 = 24 := by decide
theorem sz_134 : x_sz 134 = 24 := by decide
theorem sz_15 : x_sz 15 = 600 := by decide
theorem sz_158 : x_sz 158 = 4 := by decide
theorem sz_159 : x_sz 159 = 256 := by decide
theorem sz_161 : x_sz 161 = 16 := by decide
theorem sz_163 : x_sz 163 = 8 := by decide
theorem sz_164 : x_sz 164 = 8 := by decide
theorem sz_165 : x_sz 165 = 320 := by decide
theorem sz_166 : x_sz 166 = 8 := by decide
theorem sz_167 : x_sz 167 = 8 := by decide
theorem sz_168 : x_sz 168 = 8 := by decide
theorem sz_169 : x_sz 169 = 8 := by decide
theorem sz_17 : x_sz 17 = 8 := by decide
theorem sz_170 : x_sz 170 = 8 := by decide
theorem sz_171 : x_sz 171 = 8 := by decide
theorem sz_172 : x_sz 172 = 8 := by decide
theorem sz_173 : x_sz 173 = 8 := by decide
theorem sz_174 : x_sz 174 = 8 := by decide
theorem sz_175 : x_sz 175 = 8 := by decide
theorem sz_176 : x_sz 176 = 24 := by decide
theorem sz_177 : x_sz 177 = 24 := by decide
theorem sz_178 : x_sz 178 = 24 := by decide
theorem sz_179 : x_sz 179 = 24 := by decide
theorem sz_18 : x_sz 18 = 8 := by decide
theorem sz_180 : x_sz 180 = 24 := by decide
theorem sz_181 : x_sz 181 = 432 := by decide
theorem sz_182 : x_sz 182 = 600 := by decide
theorem sz_183 : x_sz 183 = 4 := by decide
theorem sz_184 : x_sz 184 = 4 := by decide
theorem sz_185 : x_sz 185 = 16 := by decide
theorem sz_186 : x_sz 186 = 16 := by decide
theorem sz_187 : x_sz 187 = 7 := by decide
theorem sz_188 : x_sz 188 = 168 := by decide
theorem sz_189 : x_sz 189 = 7 := by decide
theorem sz_19 : x_sz 19 = 8 := by decide
theorem sz_190 : x_sz 190 = 61 := by decide
theorem sz_191 : x_sz 191 = 61 := by decide
theorem sz_192 : x_sz 192 = 61 := by decide
theorem sz_193 : x_sz 193 = 61 := by decide
theorem sz_194 : x_sz 194 = 61 := by decide
theorem sz_195 : x_sz 195 = 61 := by decide
theorem sz_196 : x_sz 196 = 61 := by decide
theorem sz_197 : x_sz 197 = 61 := by decide
theorem sz_198 : x_sz 198 = 40 := by decide
theorem sz_199 : x_sz 199 = 40 := by decide
theorem sz_2 : x_sz 2 = 8 := by decide
theorem sz_20 : x_sz 20 = 8 := by decide
theorem sz_200 : x_sz 200 = 4 := by decide
theorem sz_201 : x_sz 201 = 256 := by decide
theorem sz_202 : x_sz 202 = 16 := by decide
theorem sz_21 : x_sz 21 = 24 := by decide
theorem sz_3 : x_sz 3 = 8 := by decide
theorem sz_4 : x_sz 4 = 8 := by decide
theorem sz_5 : x_sz 5 = 8 := by decide

def mX0_of : qM := (0, objectInit, ⟨#[0xb1]⟩, 1, none, [])
def mX1_init : qM := (1, yX1_init, cX1_init, 1, none, [])
def mX1_clear : qM := (1, yX1_clear, cX1_clear, 3, none, [])
def mX1_become : qM := (1, yX1_become, cX1_become, 3, none, [])
def mX1_vertexCount : qM := (1, yX1_vertexCount, cX1_vertexCount, 1, (some .int), [])
def mX1_edgeCount : qM := (1, yX1_edgeCount, cX1_edgeCount, 1, (some .int), [])
def mX1_between : qM := (1, yX1_between, cX1_between, 3, (some .int), [])
def mX1_put : qM := (1, yX1_put, cX1_put, 4, none, [])
def mX1_reasonAgainst : qM := (1, yX1_reasonAgainst, cX1_reasonAgainst, 9, (some .int), [])
def mX1_degreeOf : qM := (1, yX1_degreeOf, cX1_degreeOf, 4, (some .int), [])
def mX1_loopCount : qM := (1, yX1_loopCount, cX1_loopCount, 3, (some .int), [])
def mX1_defectCount : qM := (1, yX1_defectCount, cX1_defectCount, 4, (some .int), [])
def mX1_triangleCount : qM := (1, yX1_triangleCount, cX1_triangleCount, 4, (some .int), [])
def mX1_commonNeighboursBehind : qM := (1, yX1_commonNeighboursBehind, cX1_commonNeighboursBehind, 5, (some .int), [])
def mX2_init : qM := (2, yX2_init, cX2_init, 2, none, [])
def mX2_forget : qM := (2, yX2_forget, cX2_forget, 1, none, [])
def mX2_remember : qM := (2, yX2_remember, cX2_remember, 4, none, [])
def mX3_init : qM := (3, yX3_init, cX3_init, 1, none, [])
def mX4_init : qM := (4, yX4_init, cX4_init, 1, none, [])
def mX4_find : qM := (4, yX4_find, cX4_find, 4, none, [])
def mX4_merge : qM := (4, yX4_merge, cX4_merge, 6, none, [])
def mX4_count : qM := (4, yX4_count, cX4_count, 1, (some .int), [])
def mX4_countBefore : qM := (4, yX4_countBefore, cX4_countBefore, 4, (some .int), [])
def mX5_init : qM := (5, yX5_init, cX5_init, 1, none, [])
def mX5_hasRoom : qM := (5, yX5_hasRoom, cX5_hasRoom, 1, (some .boolean), [])
def mX5_append : qM := (5, yX5_append, cX5_append, 3, none, [])
def mX5_fedBytes : qM := (5, yX5_fedBytes, cX5_fedBytes, 1, (some .int), [])
def mX5_kindOfError : qM := (5, yX5_kindOfError, cX5_kindOfError, 1, (some .int), [])
def mX5_readGraph : qM := (5, yX5_readGraph, cX5_readGraph, 1, (some (.object "SwitchGraphs$Graph")), [])
def mX5_readTarget : qM := (5, yX5_readTarget, cX5_readTarget, 1, (some (.object "SwitchGraphs$Graph")), [])
def mX5_readMode : qM := (5, yX5_readMode, cX5_readMode, 1, (some .int), [])
def mX5_readText : qM := (5, yX5_readText, cX5_readText, 4, (some .boolean), [])
def mX5_readFirst : qM := (5, yX5_readFirst, cX5_readFirst, 1, (some .boolean), [])
def mX5_readOther : qM := (5, yX5_readOther, cX5_readOther, 1, (some .boolean), [])
def mX5_readVertices : qM := (5, yX5_readVertices, cX5_readVertices, 1, (some .boolean), [])
def mX5_readDegrees : qM := (5, yX5_readDegrees, cX5_readDegrees, 2, (some .boolean), [])
def mX5_readEdge : qM := (5, yX5_readEdge, cX5_readEdge, 6, (some .boolean), [])
def mX5_readModeNumber : qM := (5, yX5_readModeNumber, cX5_readModeNumber, 1, (some .boolean), [])
def mX5_begin : qM := (5, yX5_begin, cX5_begin, 2, none, [])
def mX5_expectNumber : qM := (5, yX5_expectNumber, cX5_expectNumber, 3, (some .boolean), [])
def mX5_expectSemicolon : qM := (5, yX5_expectSemicolon, cX5_expectSemicolon, 1, (some .boolean), [])
def mX5_fail : qM := (5, yX5_fail, cX5_fail, 2, (some .boolean), [])
def mX5_isWord : qM := (5, yX5_isWord, cX5_isWord, 3, (some .boolean), [])
def mX5_advance : qM := (5, yX5_advance, cX5_advance, 1, none, [])
def mX5_takeWord : qM := (5, yX5_takeWord, cX5_takeWord, 1, none, [])
def mX5_takeNumber : qM := (5, yX5_takeNumber, cX5_takeNumber, 1, none, [])
def mX5_byteAt : qM := (5, yX5_byteAt, cX5_byteAt, 2, (some .int), [])
def mX5_isBlank : qM := (5, yX5_isBlank, cX5_isBlank, 1, (some .boolean), [])
def mX5_isLetter : qM := (5, yX5_isLetter, cX5_isLetter, 1, (some .boolean), [])
def mX5_isDigit : qM := (5, yX5_isDigit, cX5_isDigit, 1, (some .boolean), [])
def mX6_init : qM := (6, yX6_init, cX6_init, 1, none, [])
def mX6_clear : qM := (6, yX6_clear, cX6_clear, 1, none, [])
def mX6_isFull : qM := (6, yX6_isFull, cX6_isFull, 1, (some .boolean), [])
def mX6_length : qM := (6, yX6_length, cX6_length, 1, (some .int), [])
def mX6_total : qM := (6, yX6_total, cX6_total, 1, (some .int), [])
def mX6_append : qM := (6, yX6_append, cX6_append, 2, none, [])
def mX6_insertFalling : qM := (6, yX6_insertFalling, cX6_insertFalling, 3, none, [])
def mX6_take : qM := (6, yX6_take, cX6_take, 3, none, [])
def mX6_greatest : qM := (6, yX6_greatest, cX6_greatest, 2, (some .int), [])
def mX6_slackOf : qM := (6, yX6_slackOf, cX6_slackOf, 4, (some .int), [])
def mX6_allows : qM := (6, yX6_allows, cX6_allows, 2, (some .boolean), [])
def mX6_hasNoNegativeSlack : qM := (6, yX6_hasNoNegativeSlack, cX6_hasNoNegativeSlack, 2, (some .boolean), [])
def mX6_build : qM := (6, yX6_build, cX6_build, 4, none, [])
def mX6_buildWithLoops : qM := (6, yX6_buildWithLoops, cX6_buildWithLoops, 4, none, [])
def mX6_buildWithoutLoops : qM := (6, yX6_buildWithoutLoops, cX6_buildWithoutLoops, 4, none, [])
def mX6_buildSimple : qM := (6, yX6_buildSimple, cX6_buildSimple, 7, none, [])
def mX6_join : qM := (6, yX6_join, cX6_join, 4, none, [])
def mX6_neediestBut : qM := (6, yX6_neediestBut, cX6_neediestBut, 5, (some .int), [])
def mX7_init : qM := (7, yX7_init, cX7_init, 1, none, [])
def mX8_init : qM := (8, yX8_init, cX8_init, 1, none, [])
def mX9_init : qM := (9, yX9_init, cX9_init, 1, none, [])
def mX9_feed : qM := (9, yX9_feed, cX9_feed, 6, (some .int), [])
def mX9_load : qM := (9, yX9_load, cX9_load, 2, (some .int), [])
def mX9_errorKind : qM := (9, yX9_errorKind, cX9_errorKind, 1, (some .int), [])
def mX9_vertices : qM := (9, yX9_vertices, cX9_vertices, 1, (some .int), [])
def mX9_times : qM := (9, yX9_times, cX9_times, 4, (some .int), [])
def mX9_degree : qM := (9, yX9_degree, cX9_degree, 3, (some .int), [])
def mX9_loops : qM := (9, yX9_loops, cX9_loops, 1, (some .int), [])
def mX9_defects : qM := (9, yX9_defects, cX9_defects, 1, (some .int), [])
def mX9_isSimple : qM := (9, yX9_isSimple, cX9_isSimple, 1, (some .boolean), [])
def mX9_triangles : qM := (9, yX9_triangles, cX9_triangles, 1, (some .int), [])
def mX9_components : qM := (9, yX9_components, cX9_components, 1, (some .int), [])
def mX9_sorted : qM := (9, yX9_sorted, cX9_sorted, 2, (some .int), [])
def mX9_slack : qM := (9, yX9_slack, cX9_slack, 2, (some .int), [])
def mX9_isPossible : qM := (9, yX9_isPossible, cX9_isPossible, 2, (some .boolean), [])
def mX9_meanDegree : qM := (9, yX9_meanDegree, cX9_meanDegree, 2, (some .double), [])
def mX9_reason : qM := (9, yX9_reason, cX9_reason, 5, (some .int), [])
def mX9_removeEdge : qM := (9, yX9_removeEdge, cX9_removeEdge, 3, (some .int), [])
def mX9_setMode : qM := (9, yX9_setMode, cX9_setMode, 3, (some .int), [])
def mX9_checkVertex : qM := (9, yX9_checkVertex, cX9_checkVertex, 2, none, [])
def mX9_checkVertices : qM := (9, yX9_checkVertices, cX9_checkVertices, 5, none, [])
def mX9_checkEdge : qM := (9, yX9_checkEdge, cX9_checkEdge, 3, none, [])
def mX9_checkMode : qM := (9, yX9_checkMode, cX9_checkMode, 2, none, [])
def mX9_choose : qM := (9, yX9_choose, cX9_choose, 2, (some (.object "SwitchGraphs$Graph")), [])
def mX9_remember : qM := (9, yX9_remember, cX9_remember, 1, none, [])
def mJ5_init_d00df : qM := (13, yJ5_init_d00df, cJ5_init_d00df, 2, none, [])
def mJ5_length_8abf5 : qM := (13, yJ5_length_8abf5, cJ5_length_8abf5, 1, (some .int), [])
def mJ5_ensureCapacityInternal_d00df : qM := (13, yJ5_ensureCapacityInternal_d00df, cJ5_ensureCapacityInternal_d00df, 3, none, [])
def mJ5_newCapacity_0f7a4 : qM := (13, yJ5_newCapacity_0f7a4, cJ5_newCapacity_0f7a4, 6, (some .int), [])
def mJ5_append_cf1ce : qM := (13, yJ5_append_cf1ce, cJ5_append_cf1ce, 3, (some (.object "java/lang/AbstractStringBuilder")), [])
def mJ5_append_c97b9 : qM := (13, yJ5_append_c97b9, cJ5_append_c97b9, 4, (some (.object "java/lang/AbstractStringBuilder")), [])
def mJ5_getValue_6d5f1 : qM := (13, yJ5_getValue_6d5f1, cJ5_getValue_6d5f1, 1, (some (.array .byte)), [])
def mJ5_isLatin1_aae02 : qM := (13, yJ5_isLatin1_aae02, cJ5_isLatin1_aae02, 1, (some .boolean), [])
def mJ5_inflateIfNeededFor_a7421 : qM := (13, yJ5_inflateIfNeededFor_a7421, cJ5_inflateIfNeededFor_a7421, 2, none, [])
def mJ5_putStringAt_47b60 : qM := (13, yJ5_putStringAt_47b60, cJ5_putStringAt_47b60, 3, none, [])
def mJ6_getChars_ba4f3 : qM := (14, yJ6_getChars_ba4f3, cJ6_getChars_ba4f3, 7, (some .int), [])
def mJ6_stringSize_0f7a4 : qM := (14, yJ6_stringSize_0f7a4, cJ6_stringSize_0f7a4, 4, (some .int), [])
def mJ0_init_81219 : qM := (11, yJ0_init_81219, cJ0_init_81219, 2, none, [])
def mJ0_length_8abf5 : qM := (11, yJ0_length_8abf5, cJ0_length_8abf5, 1, (some .int), [])
def mJ0_charAt_5068e : qM := (11, yJ0_charAt_5068e, cJ0_charAt_5068e, 2, (some .char), [])
def mJ0_getBytes_840e7 : qM := (11, yJ0_getBytes_840e7, cJ0_getBytes_840e7, 4, none, [])
def mJ0_init_db425 : qM := (11, yJ0_init_db425, cJ0_init_db425, 5, none, [])
def mJ0_coder_7d493 : qM := (11, yJ0_coder_7d493, cJ0_coder_7d493, 1, (some .byte), [])
def mJ0_isLatin1_aae02 : qM := (11, yJ0_isLatin1_aae02, cJ0_isLatin1_aae02, 1, (some .boolean), [])
def mJ4_init_da8c8 : qM := (12, yJ4_init_da8c8, cJ4_init_da8c8, 1, none, [])
def mJ4_append_15ec4 : qM := (12, yJ4_append_15ec4, cJ4_append_15ec4, 2, (some (.object "java/lang/StringBuilder")), [])
def mJ4_append_bf812 : qM := (12, yJ4_append_bf812, cJ4_append_bf812, 2, (some (.object "java/lang/StringBuilder")), [])
def mJ4_toString_0e30d : qM := (12, yJ4_toString_0e30d, cJ4_toString_0e30d, 1, (some (.object "java/lang/String")), [])
def mJ4_length_8abf5 : qM := (12, yJ4_length_8abf5, cJ4_length_8abf5, 1, (some .int), [])
def mJ1_charAt_3b067 : qM := (15, yJ1_charAt_3b067, cJ1_charAt_3b067, 2, (some .char), [])
def mJ7_copyOf_9075b : qM := (16, yJ7_copyOf_9075b, cJ7_copyOf_9075b, 3, (some (.array .byte)), [])
def mJ7_checkLength_df160 : qM := (16, yJ7_checkLength_df160, cJ7_checkLength_df160, 2, none, [])
def mJ7_copyOfRange_39247 : qM := (16, yJ7_copyOfRange_39247, cJ7_copyOfRange_39247, 3, (some (.array .byte)), [])
def mJ7_copyOfRangeByte_39247 : qM := (16, yJ7_copyOfRangeByte_39247, cJ7_copyOfRangeByte_39247, 5, (some (.array .byte)), [])
def mJ8_newLength_cabcc : qM := (17, yJ8_newLength_cabcc, cJ8_newLength_cabcc, 4, (some .int), [])
def mL_init : qM := (10, yL_init, cL_init, 1, none, [])
def mL_among : qM := (10, yL_among, cL_among, 3, (some .int), [])
def mL_cell : qM := (10, yL_cell, cL_cell, 2, (some .int), [])
def mL_four : qM := (10, yL_four, cL_four, 4, (some .int), [])
def mL_load : qM := (10, yL_load, cL_load, 3, (some .int), [])
def mL_chosen : qM := (10, yL_chosen, cL_chosen, 3, (some .int), [])
def mL_from : qM := (10, yL_from, cL_from, 3, (some .int), [])
def mL_law : qM := (10, yL_law, cL_law, 5, (some .boolean), [])
def mL_told : qM := (10, yL_told, cL_told, 8, (some (.object "java/lang/String")), [])
def mL_edges : qM := (10, yL_edges, cL_edges, 4, (some .int), [])
def mL_many : qM := (10, yL_many, cL_many, 3, (some .int), [])
def mL_degree : qM := (10, yL_degree, cL_degree, 4, (some .int), [])
def mL_isGraph : qM := (10, yL_isGraph, cL_isGraph, 9, (some .boolean), [])
def mL_isSequence : qM := (10, yL_isSequence, cL_isSequence, 7, (some .boolean), [])
def mL_isSame : qM := (10, yL_isSame, cL_isSame, 4, (some .boolean), [])
def mL_isReason : qM := (10, yL_isReason, cL_isReason, 10, (some .boolean), [])
def mL_isNoVertex : qM := (10, yL_isNoVertex, cL_isNoVertex, 2, (some .boolean), [(0, 17, 18, 187)])
def mL_isBad : qM := (10, yL_isBad, cL_isBad, 2, (some .boolean), [(0, 15, 16, 192)])
def mL_isNoEdge : qM := (10, yL_isNoEdge, cL_isNoEdge, 3, (some .boolean), [(0, 44, 45, 197)])
def qNm (c : Nat) : String := match c with
  | 0 => RX0
  | 1 => RX1
  | 2 => RX2
  | 3 => RX3
  | 4 => RX4
  | 5 => RX5
  | 6 => RX6
  | 7 => RX7
  | 8 => RX8
  | 9 => RX9
  | 10 => RL
  | 11 => RJ0
  | 12 => RJ4
  | 13 => RJ5
  | 14 => RJ6
  | 15 => RJ1
  | 16 => RJ7
  | _ => RJ8
/-- the classes, in the order of the small machine -/
abbrev qKs : List vw_C := [(RX1, TX1, 3), (RX2, TX2, 5), (RX3, TX3, 2), (RX4, TX4, 3), (RX5, TX5, 13), (RX6, TX6, 5), (RX7, TX7, 2), (RX8, TX8, 3), (RX9, TX9, 12), (RL, TL, 5), (RJ0, TJ0, 4), (RJ4, TJ4, 4)]
def qTfL_0 : List (Nat × Nat × Nat × Nat) := [(1, 9, 0, 0), (1, 15, 0, 1), (1, 19, 0, 2), (2, 11, 1, 0), (2, 15, 1, 1), (2, 18, 1, 2), (2, 22, 1, 3), (2, 26, 1, 4), (3, 9, 2, 0), (3, 15, 2, 1), (4, 9, 3, 0), (4, 15, 3, 1), (4, 18, 3, 2), (5, 11, 4, 0), (5, 18, 4, 1), (5, 22, 4, 2), (5, 28, 4, 3), (5, 32, 4, 4), (5, 36, 4, 5), (5, 39, 4, 6), (5, 42, 4, 7), (5, 45, 4, 8), (5, 48, 4, 9), (5, 51, 4, 10), (5, 54, 4, 11), (5, 57, 4, 12), (6, 9, 5, 0), (6, 15, 5, 1), (6, 18, 5, 2), (6, 21, 5, 3), (6, 25, 5, 4), (7, 9, 6, 0), (7, 15, 6, 1), (8, 9, 7, 0), (8, 18, 7, 1), (8, 22, 7, 2), (9, 10, 8, 0), (9, 19, 8, 1), (9, 23, 8, 2), (9, 26, 8, 3), (9, 29, 8, 4), (9, 35, 8, 5), (9, 42, 8, 6), (9, 49, 8, 7), (9, 56, 8, 8), (9, 63, 8, 9), (9, 70, 8, 10), (9, 74, 8, 11), (10, 7, 9, 0), (10, 15, 9, 4), (10, 42, 9, 1), (10, 75, 9, 2), (10, 100, 9, 3), (11, 9, 10, 0), (11, 15, 10, 1), (11, 1048, 11, 2), (13, 15, 11, 0), (13, 22, 11, 1), (13, 79, 11, 3)]
def qTfL : List (Nat × Nat × Nat × Nat) := qTfL_0
def qTcL_0 : List (Nat × Nat × Nat × qM × Nat) := [(1, 3, 7, mX0_of, 0), (1, 32, 0, mX1_between, 2), (1, 35, 0, mX1_loopCount, 0), (1, 39, 5, mX0_of, 2), (1, 44, 0, mX1_commonNeighboursBehind, 2), (2, 1, 7, mX0_of, 0), (2, 29, 3, mX1_init, 0), (2, 30, 0, mX1_become, 1), (2, 34, 6, mX0_of, 2), (3, 3, 7, mX0_of, 0), (4, 3, 7, mX0_of, 0), (4, 22, 0, mX1_vertexCount, 0), (4, 28, 0, mX1_between, 2), (4, 32, 0, mX4_merge, 2), (4, 36, 5, mX0_of, 2), (4, 41, 6, mX0_of, 2)]
def qTcL_1 : List (Nat × Nat × Nat × qM × Nat) := [(4, 44, 0, mX4_countBefore, 1), (5, 3, 7, mX0_of, 0), (5, 17, 3, mX1_init, 0), (5, 27, 3, mX6_init, 0), (5, 60, 6, mX0_of, 2), (5, 66, 0, mX5_advance, 0), (5, 69, 0, mX5_readFirst, 0), (5, 73, 0, mX5_readOther, 0), (5, 76, 0, mX5_begin, 1), (5, 82, 0, mX5_isWord, 1), (5, 86, 0, mX5_readVertices, 0), (5, 91, 0, mX5_readDegrees, 0), (5, 94, 0, mX5_fail, 1), (5, 100, 0, mX5_readEdge, 1), (5, 106, 0, mX5_readModeNumber, 0), (5, 109, 0, mX5_expectNumber, 2)]
def qTcL_2 : List (Nat × Nat × Nat × qM × Nat) := [(5, 113, 0, mX5_expectSemicolon, 0), (5, 116, 0, mX6_clear, 0), (5, 119, 0, mX6_isFull, 0), (5, 122, 0, mX6_append, 1), (5, 125, 0, mX6_total, 0), (5, 129, 0, mX6_length, 0), (5, 131, 0, mX6_build, 2), (5, 135, 0, mX1_vertexCount, 0), (5, 138, 0, mX1_edgeCount, 0), (5, 141, 0, mX1_put, 3), (5, 145, 0, mX1_clear, 1), (5, 147, 8, mX0_of, 0), (5, 150, 0, mX5_byteAt, 1), (5, 154, 9, mX0_of, 1), (5, 158, 1, mX5_isBlank, 1), (5, 161, 1, mX5_isLetter, 1)]
def qTcL_3 : List (Nat × Nat × Nat × qM × Nat) := [(5, 164, 0, mX5_takeWord, 0), (5, 167, 1, mX5_isDigit, 1), (5, 170, 0, mX5_takeNumber, 0), (6, 3, 7, mX0_of, 0), (6, 28, 0, mX6_isFull, 0), (6, 32, 0, mX6_insertFalling, 1), (6, 36, 0, mX6_clear, 0), (6, 39, 0, mX1_vertexCount, 0), (6, 45, 0, mX1_degreeOf, 1), (6, 49, 0, mX6_append, 1), (6, 52, 6, mX0_of, 2), (6, 58, 0, mX6_hasNoNegativeSlack, 0), (6, 61, 0, mX6_slackOf, 1), (6, 64, 0, mX1_clear, 1), (6, 66, 0, mX6_buildWithLoops, 1), (6, 70, 0, mX6_buildWithoutLoops, 1)]
def qTcL_4 : List (Nat × Nat × Nat × qM × Nat) := [(6, 73, 0, mX6_buildSimple, 1), (6, 76, 0, mX1_put, 3), (6, 80, 0, mX6_neediestBut, 1), (6, 83, 0, mX6_join, 3), (7, 3, 7, mX0_of, 0), (8, 3, 7, mX0_of, 0), (8, 17, 3, mX1_init, 0), (9, 1, 7, mX0_of, 0), (9, 9, 3, mX5_init, 0), (9, 18, 3, mX1_init, 0), (9, 34, 3, mX4_init, 0), (9, 41, 3, mX6_init, 0), (9, 48, 3, mX7_init, 0), (9, 55, 3, mX8_init, 0), (9, 62, 2, mX2_init, 0), (9, 69, 3, mX3_init, 0)]
def qTcL_5 : List (Nat × Nat × Nat × qM × Nat) := [(9, 78, 0, mX5_hasRoom, 0), (9, 82, 0, mX5_append, 1), (9, 86, 0, mX5_fedBytes, 0), (9, 97, 0, mX5_readText, 1), (9, 101, 0, mX5_readGraph, 0), (9, 105, 0, mX1_become, 1), (9, 109, 0, mX5_readTarget, 0), (9, 112, 0, mX5_readMode, 0), (9, 115, 0, mX2_forget, 0), (9, 118, 0, mX1_edgeCount, 0), (9, 121, 0, mX5_kindOfError, 0), (9, 127, 0, mX1_vertexCount, 0), (9, 130, 0, mX9_choose, 1), (9, 134, 0, mX9_checkVertex, 1), (9, 137, 0, mX1_between, 2), (9, 141, 0, mX1_degreeOf, 1)]
def qTcL_6 : List (Nat × Nat × Nat × qM × Nat) := [(9, 145, 0, mX1_loopCount, 0), (9, 148, 0, mX1_defectCount, 0), (9, 154, 0, mX1_triangleCount, 0), (9, 157, 0, mX4_find, 1), (9, 160, 0, mX4_count, 0), (9, 170, 0, mX9_checkEdge, 2), (9, 182, 0, mX6_take, 1), (9, 185, 0, mX6_greatest, 1), (9, 193, 0, mX6_slackOf, 1), (9, 196, 0, mX9_checkMode, 1), (9, 199, 0, mX6_allows, 1), (9, 202, 0, mX9_checkVertices, 4), (9, 206, 0, mX1_reasonAgainst, 5), (9, 273, 0, mX9_remember, 0), (9, 276, 0, mX1_put, 3), (9, 328, 0, mX2_remember, 3)]
def qTcL_7 : List (Nat × Nat × Nat × qM × Nat) := [(10, 1, 7, mX0_of, 0), (10, 18, 0, mJ0_length_8abf5, 0), (10, 24, 0, mJ0_charAt_5068e, 1), (10, 28, 1, mL_four, 2), (10, 32, 0, mX9_feed, 5), (10, 38, 0, mX9_load, 1), (10, 46, 1, mL_cell, 2), (10, 50, 1, mL_among, 2), (10, 54, 0, mL_chosen, 1), (10, 57, 2, mL_init, 0), (10, 58, 2, mX9_init, 0), (10, 59, 0, mL_told, 0), (10, 63, 1, mL_load, 2), (10, 66, 0, mL_edges, 0), (10, 69, 0, mX9_errorKind, 0), (10, 72, 0, mX9_vertices, 0)]
def qTcL_8 : List (Nat × Nat × Nat × qM × Nat) := [(10, 78, 0, mL_isGraph, 1), (10, 82, 0, mL_isSequence, 1), (10, 85, 0, mL_isReason, 1), (10, 88, 4, mL_isNoVertex, 1), (10, 91, 4, mL_isBad, 1), (10, 94, 15, mL_isNoEdge, 1), (10, 97, 0, mL_from, 2), (10, 107, 2, mJ4_init_da8c8, 0), (10, 108, 0, mJ4_append_15ec4, 1), (10, 114, 0, mJ4_append_bf812, 1), (10, 117, 0, mJ4_toString_0e30d, 0), (10, 126, 6, mX0_of, 2), (10, 131, 5, mX0_of, 2), (10, 134, 0, mL_many, 2), (10, 137, 0, mX9_degree, 2), (10, 141, 0, mL_degree, 1)]
def qTcL_9 : List (Nat × Nat × Nat × qM × Nat) := [(10, 143, 0, mX9_times, 3), (10, 147, 0, mX9_loops, 0), (10, 150, 0, mX9_defects, 0), (10, 153, 0, mX9_isSimple, 0), (10, 157, 0, mX9_triangles, 0), (10, 160, 0, mX9_components, 0), (10, 163, 0, mX9_meanDegree, 0), (10, 169, 0, mX9_sorted, 1), (10, 172, 0, mX9_slack, 1), (10, 175, 0, mX9_isPossible, 1), (10, 179, 1, mL_isSame, 4), (10, 183, 0, mX9_reason, 4), (10, 189, 0, mX9_setMode, 1), (10, 194, 0, mX9_removeEdge, 2), (11, 1, 7, mX0_of, 0), (11, 54, 1, mJ7_copyOfRange_39247, 3)]
def qTcL_10 : List (Nat × Nat × Nat × qM × Nat) := [(11, 212, 14, mX0_of, 5), (11, 335, 0, mJ0_coder_7d493, 0), (11, 489, 2, mJ0_init_db425, 2), (11, 492, 0, mJ0_isLatin1_aae02, 0), (11, 495, 1, mJ1_charAt_3b067, 2), (11, 549, 16, mJ4_length_8abf5, 0), (11, 552, 10, mJ5_getValue_6d5f1, 0), (11, 1047, 10, mJ5_isLatin1_aae02, 0), (12, 1, 12, mJ5_init_d00df, 1), (12, 29, 11, mJ5_append_cf1ce, 1), (12, 53, 11, mJ5_append_c97b9, 1), (12, 137, 2, mJ0_init_81219, 1), (12, 343, 11, mJ5_length_8abf5, 0), (13, 3, 7, mX0_of, 0), (13, 32, 0, mJ0_length_8abf5, 0), (13, 40, 0, mJ0_coder_7d493, 0)]
def qTcL_11 : List (Nat × Nat × Nat × qM × Nat) := [(13, 83, 10, mJ5_isLatin1_aae02, 0), (13, 100, 10, mJ5_ensureCapacityInternal_d00df, 1), (13, 104, 10, mJ5_newCapacity_0f7a4, 1), (13, 108, 1, mJ7_copyOf_9075b, 2), (13, 114, 1, mJ8_newLength_cabcc, 3), (13, 208, 10, mJ5_putStringAt_47b60, 2), (13, 245, 1, mJ6_stringSize_0f7a4, 1), (13, 248, 1, mJ6_getChars_ba4f3, 3), (13, 397, 10, mJ5_inflateIfNeededFor_a7421, 1), (13, 399, 0, mJ0_getBytes_840e7, 3), (15, 9, 13, mX0_of, 2), (16, 150, 14, mX0_of, 5), (16, 304, 6, mX0_of, 2), (16, 310, 17, mX0_of, 0), (16, 339, 1, mJ7_copyOfRangeByte_39247, 3), (16, 343, 1, mJ7_checkLength_df160, 2)]
def qTcL_12 : List (Nat × Nat × Nat × qM × Nat) := [(17, 194, 5, mX0_of, 2)]
def qTcL : List (Nat × Nat × Nat × qM × Nat) := qTcL_0 ++ qTcL_1 ++ qTcL_2 ++ qTcL_3 ++ qTcL_4 ++ qTcL_5 ++ qTcL_6 ++ qTcL_7 ++ qTcL_8 ++ qTcL_9 ++ qTcL_10 ++ qTcL_11 ++ qTcL_12
def qTnL_0 : List (Nat × Nat × Nat) := [(2, 9, 0), (5, 15, 0), (5, 25, 5), (8, 15, 0), (9, 7, 4), (9, 16, 0), (9, 32, 3), (9, 39, 5), (9, 46, 6), (9, 53, 7), (9, 60, 1), (9, 67, 2), (10, 8, 9), (10, 33, 8), (10, 105, 11), (12, 18, 10)]
def qTnL : List (Nat × Nat × Nat) := qTnL_0
def qTsL_0 : List (Nat × Nat × Nat) := [(5, 80, 0), (5, 89, 1), (5, 98, 2), (5, 104, 3), (5, 105, 4), (10, 103, 5), (10, 112, 6), (10, 120, 7), (10, 122, 8), (10, 124, 9)]
def qTsL : List (Nat × Nat × Nat) := qTsL_0
def qTx1 : List String := ["vertices", "degrees", "edge", "target", "mode", "degrees", " ", ";mode ", ";", "edge "]
def qTxB : List (List Int) := [[118, 101, 114, 116, 105, 99, 101, 115], [100, 101, 103, 114, 101, 101, 115], [101, 100, 103, 101], [116, 97, 114, 103, 101, 116], [109, 111, 100, 101], [100, 101, 103, 114, 101, 101, 115], [32], [59, 109, 111, 100, 101, 32], [59], [101, 100, 103, 101, 32]]
def qTkL_0 : List (Nat × Nat × Nat) := [(10, 187, 0), (10, 192, 1), (10, 197, 2)]
def qTkL : List (Nat × Nat × Nat) := qTkL_0
def qTxL_0 : List (Nat × Nat × Nat × Nat × Nat × Bool × String) := [(9, 90, 92, 94, 1, false, "the buffer has no such number of bytes"), (9, 90, 320, 94, 1, true, "the modes are 0 to 2"), (9, 188, 190, 192, 0, false, "there is no such slack"), (9, 188, 316, 192, 0, true, "there is no such vertex"), (9, 240, 318, 244, 2, true, "there is no such edge")]
def qTxL : List (Nat × Nat × Nat × Nat × Nat × Bool × String) := qTxL_0
def qTgL_0 : List (Nat × Nat × Nat) := [(11, 38, 0), (13, 18, 0), (14, 83, 1)]
def qTgL : List (Nat × Nat × Nat) := qTgL_0
def qToL_0 : List (Nat × Nat × Int) := [(13, 39, 2147483647), (17, 200, 2147483639)]
def qToL : List (Nat × Nat × Int) := qToL_0
def qTf (c i : Nat) : Option (Nat × Nat) := (qTfL.find? (fun e => e.1 == c && e.2.1 == i)).map (fun e => e.2.2)
def qTc (c i : Nat) : Option (Nat × qM × Nat) := (qTcL.find? (fun e => e.1 == c && e.2.1 == i)).map (fun e => e.2.2)
def qTg (c i : Nat) : Option Nat := (qTgL.find? (fun e => e.1 == c && e.2.1 == i)).map (fun e => e.2.2)
def qTo (c i : Nat) : Option Int := (qToL.find? (fun e => e.1 == c && e.2.1 == i)).map (fun e => e.2.2)
def qTn (c i : Nat) : Option Nat := (qTnL.find? (fun e => e.1 == c && e.2.1 == i)).map (fun e => e.2.2)
def qTs (c i : Nat) : Option Nat := (qTsL.find? (fun e => e.1 == c && e.2.1 == i)).map (fun e => e.2.2)
def qTk (c i : Nat) : Option Nat := (qTkL.find? (fun e => e.1 == c && e.2.1 == i)).map (fun e => e.2.2)
def qTx (c ik is ic : Nat) (w : Bool) : Option Nat := (qTxL.find? (fun e => e.1 == c && e.2.1 == ik && e.2.2.1 == is && e.2.2.2.1 == ic && e.2.2.2.2.2.1 == w)).map (fun e => e.2.2.2.2.1)
set_option maxRecDepth 20000 in
theorem qTfL_w : qTfL.map (fun e => Cond.fieldLink (qNm e.1) e.2.1 ((qKs.getD e.2.2.1 (RX1, TX1, 3)).2.1 e.2.2.2).1 ((qKs.getD e.2.2.1 (RX1, TX1, 3)).2.1 e.2.2.2).2.1 ((qKs.getD e.2.2.1 (RX1, TX1, 3)).2.1 e.2.2.2).2.2.1) = [(3, 7), (3, 8), (3, 9), (4, 17), (4, 18), (4, 19), (4, 20), (4, 21), (5, 2), (5, 3), (3, 21), (3, 22), (3, 23), (2, 13), (2, 15), (2, 16), (2, 18), (2, 19), (2, 20), (2, 21), (2, 22), (2, 23), (3, 0), (3, 1), (3, 2), (3, 3), (3, 13), (3, 14), (3, 15), (3, 16), (3, 17), (4, 3), (4, 4), (4, 8), (4, 10), (4, 11), (1, 0), (1, 4), (1, 5), (1, 6), (1, 7), (1, 11), (1, 15), (1, 19), (1, 23), (2, 3), (2, 7), (2, 8), (0, 3), (0, 16), (6, 3), (0, 7), (5, 8), (10, 16), (10, 22), (14, 3), (6, 19), (6, 20), (7, 14)].filterMap qpl := by decide +kernel
def qTcM (mo : Nat) : List (Nat × Nat × Nat × qM × Nat) := qTcL.filter (fun e => e.2.2.1 == mo)
set_option maxRecDepth 20000 in
theorem qTc0_l : (qTcM 0).map (fun e => Cond.methodLink (qNm e.1) e.2.1 e.2.2.2.1.2.1) = [(26, 12), (27, 22), (28, 11), (33, 8), (28, 23), (29, 0), (29, 1), (29, 11), (18, 4), (19, 5), (23, 2), (19, 9), (19, 17), (19, 23), (20, 15), (20, 7), (23, 6), (23, 19), (20, 3), (20, 11), (20, 19), (20, 23), (21, 3), (21, 12), (21, 16), (21, 20), (23, 10), (23, 14), (23, 18), (19, 13), (18, 8), (18, 18), (19, 1), (21, 7), (21, 8), (30, 7), (30, 8), (30, 9), (30, 10), (31, 11), (31, 15), (22, 0), (22, 1), (22, 9), (22, 21), (22, 5), (22, 13), (22, 17), (17, 5), (17, 9), (17, 13), (17, 23), (23, 23), (24, 3), (24, 7), (24, 11), (24, 15), (24, 19), (25, 4), (25, 12), (26, 4), (25, 22), (27, 4), (26, 8), (27, 9), (27, 17), (28, 7), (28, 19), (29, 7), (33, 18), (30, 3), (30, 11), (30, 19), (31, 3), (31, 7), (32, 3), (32, 7), (32, 23), (34, 0), (33, 3), (15, 21), (16, 1), (17, 1), (17, 17), (5, 23), (5, 4), (24, 20), (25, 0), (25, 8), (25, 13), (29, 19), (31, 16), (5, 19), (7, 5), (12, 13), (13, 14), (26, 20), (25, 18), (26, 16), (27, 0), (27, 5), (27, 13), (27, 23), (28, 3), (28, 15), (29, 15), (29, 23), (30, 15), (30, 23), (31, 23), (32, 19), (33, 14), (10, 17), (16, 5), (10, 12), (11, 7), (12, 7)].filterMap qpl := by decide +kernel
set_option maxRecDepth 20000 in
theorem qTc0_c_0 : (qTcL_0.filter (fun e => e.2.2.1 == 0)).map (fun e => Cond.code e.2.2.2.1.2.1 e.2.2.2.1.2.2.1 e.2.2.2.1.2.2.2.1 e.2.2.2.1.2.2.2.2.1) = [(26, 15), (27, 12), (28, 14), (24, 6), (23, 13), (26, 15), (29, 4)].filterMap qpl := by decide +kernel
set_option maxRecDepth 20000 in
theorem qTc0_c_1 : (qTcL_1.filter (fun e => e.2.2.1 == 0)).map (fun e => Cond.code e.2.2.2.1.2.1 e.2.2.2.1.2.2.1 e.2.2.2.1.2.2.2.1 e.2.2.2.1.2.2.2.2.1) = [(29, 14), (18, 7), (19, 8), (23, 5), (19, 12), (19, 20), (20, 2), (20, 18), (20, 10), (23, 9), (23, 22), (20, 6)].filterMap qpl := by decide +kernel
set_option maxRecDepth 20000 in
theorem qTc0_c_2 : (qTcL_2.filter (fun e => e.2.2.1 == 0)).map (fun e => Cond.code e.2.2.2.1.2.1 e.2.2.2.1.2.2.1 e.2.2.2.1.2.2.2.1 e.2.2.2.1.2.2.2.2.1) = [(20, 14), (20, 22), (21, 2), (21, 6), (21, 15), (21, 19), (21, 23), (23, 13), (23, 17), (22, 8), (19, 16), (18, 11)].filterMap qpl := by decide +kernel
set_option maxRecDepth 20000 in
theorem qTc0_c_3 : (qTcL_3.filter (fun e => e.2.2.1 == 0)).map (fun e => Cond.code e.2.2.2.1.2.1 e.2.2.2.1.2.2.1 e.2.2.2.1.2.2.2.1 e.2.2.2.1.2.2.2.2.1) = [(18, 21), (19, 4), (21, 2), (21, 11), (20, 22), (23, 13), (26, 11), (21, 6), (31, 14), (30, 22), (19, 16), (22, 4), (22, 12)].filterMap qpl := by decide +kernel
set_option maxRecDepth 20000 in
theorem qTc0_c_4 : (qTcL_4.filter (fun e => e.2.2.1 == 0)).map (fun e => Cond.code e.2.2.2.1.2.1 e.2.2.2.1.2.2.1 e.2.2.2.1.2.2.2.1 e.2.2.2.1.2.2.2.2.1) = [(23, 0), (22, 8), (22, 16), (22, 20)].filterMap qpl := by decide +kernel
set_option maxRecDepth 20000 in
theorem qTc0_c_5 : (qTcL_5.filter (fun e => e.2.2.1 == 0)).map (fun e => Cond.code e.2.2.2.1.2.1 e.2.2.2.1.2.2.1 e.2.2.2.1.2.2.2.1 e.2.2.2.1.2.2.2.2.1) = [(17, 8), (17, 12), (17, 16), (18, 2), (24, 2), (24, 6), (24, 10), (24, 14), (24, 18), (23, 17), (25, 7), (23, 13), (26, 7), (26, 1), (26, 15), (26, 11)].filterMap qpl := by decide +kernel
set_option maxRecDepth 20000 in
theorem qTc0_c_6 : (qTcL_6.filter (fun e => e.2.2.1 == 0)).map (fun e => Cond.code e.2.2.2.1.2.1 e.2.2.2.1.2.2.1 e.2.2.2.1.2.2.2.1 e.2.2.2.1.2.2.2.2.1) = [(27, 12), (27, 20), (28, 10), (28, 22), (29, 10), (33, 21), (30, 6), (30, 14), (30, 22), (31, 6), (31, 10), (32, 6), (32, 10), (33, 2), (22, 8), (33, 6)].filterMap qpl := by decide +kernel
set_option maxRecDepth 20000 in
theorem qTc0_c_7 : (qTcL_7.filter (fun e => e.2.2.1 == 0)).map (fun e => Cond.code e.2.2.2.1.2.1 e.2.2.2.1.2.2.1 e.2.2.2.1.2.2.2.1 e.2.2.2.1.2.2.2.2.1) = [(10, 15), (16, 4), (17, 4), (17, 20), (6, 2), (5, 7), (24, 23), (25, 3), (25, 11)].filterMap qpl := by decide +kernel
set_option maxRecDepth 20000 in
theorem qTc0_c_8 : (qTcL_8.filter (fun e => e.2.2.1 == 0)).map (fun e => Cond.code e.2.2.2.1.2.1 e.2.2.2.1.2.2.1 e.2.2.2.1.2.2.2.1 e.2.2.2.1.2.2.2.2.1) = [(25, 16), (29, 22), (31, 19), (5, 22), (7, 8), (12, 16), (13, 17), (26, 23), (25, 21), (26, 19)].filterMap qpl := by decide +kernel
set_option maxRecDepth 20000 in
theorem qTc0_c_9 : (qTcL_9.filter (fun e => e.2.2.1 == 0)).map (fun e => Cond.code e.2.2.2.1.2.1 e.2.2.2.1.2.2.1 e.2.2.2.1.2.2.2.1 e.2.2.2.1.2.2.2.2.1) = [(27, 3), (27, 8), (27, 16), (28, 2), (28, 6), (28, 18), (29, 18), (30, 2), (30, 18), (31, 2), (32, 2), (32, 22), (33, 17)].filterMap qpl := by decide +kernel
set_option maxRecDepth 20000 in
theorem qTc0_c_10 : (qTcL_10.filter (fun e => e.2.2.1 == 0)).map (fun e => Cond.code e.2.2.2.1.2.1 e.2.2.2.1.2.2.1 e.2.2.2.1.2.2.2.1 e.2.2.2.1.2.2.2.2.1) = [(10, 20), (16, 8), (10, 15), (10, 20)].filterMap qpl := by decide +kernel
set_option maxRecDepth 20000 in
theorem qTc0_c_11 : (qTcL_11.filter (fun e => e.2.2.1 == 0)).map (fun e => Cond.code e.2.2.2.1.2.1 e.2.2.2.1.2.2.1 e.2.2.2.1.2.2.2.1 e.2.2.2.1.2.2.2.2.1) = [(12, 10)].filterMap qpl := by decide +kernel
set_option maxRecDepth 20000 in
theorem qTc0_c_12 : (qTcL_12.filter (fun e => e.2.2.1 == 0)).map (fun e => Cond.code e.2.2.2.1.2.1 e.2.2.2.1.2.2.1 e.2.2.2.1.2.2.2.1 e.2.2.2.1.2.2.2.2.1) = [].filterMap qpl := by decide +kernel
theorem qTc0_cc : ∀ e ∈ qTcM 0, Cond.code e.2.2.2.1.2.1 e.2.2.2.1.2.2.1 e.2.2.2.1.2.2.2.1 e.2.2.2.1.2.2.2.2.1 ∈ wsL_law := by
  intro e he
  obtain ⟨h1, h2⟩ := List.mem_filter.mp he
  unfold qTcL at h1
  simp only [List.mem_append] at h1
  rcases h1 with (((((((((((h1 | h1) | h1) | h1) | h1) | h1) | h1) | h1) | h1) | h1) | h1) | h1) | h1
  · exact gw_all _ qTc0_c_0 _ (List.mem_map_of_mem (f := fun e : Nat × Nat × Nat × qM × Nat => Cond.code e.2.2.2.1.2.1 e.2.2.2.1.2.2.1 e.2.2.2.1.2.2.2.1 e.2.2.2.1.2.2.2.2.1) (List.mem_filter.mpr ⟨h1, h2⟩))
  · exact gw_all _ qTc0_c_1 _ (List.mem_map_of_mem (f := fun e : Nat × Nat × Nat × qM × Nat => Cond.code e.2.2.2.1.2.1 e.2.2.2.1.2.2.1 e.2.2.2.1.2.2.2.1 e.2.2.2.1.2.2.2.2.1) (List.mem_filter.mpr ⟨h1, h2⟩))
  · exact gw_all _ qTc0_c_2 _ (List.mem_map_of_mem (f := fun e : Nat × Nat × Nat × qM × Nat => Cond.code e.2.2.2.1.2.1 e.2.2.2.1.2.2.1 e.2.2.2.1.2.2.2.1 e.2.2.2.1.2.2.2.2.1) (List.mem_filter.mpr ⟨h1, h2⟩))
  · exact gw_all _ qTc0_c_3 _ (List.mem_map_of_mem (f := fun e : Nat × Nat × Nat × qM × Nat => Cond.code e.2.2.2.1.2.1 e.2.2.2.1.2.2.1 e.2.2.2.1.2.2.2.1 e.2.2.2.1.2.2.2.2.1) (List.mem_filter.mpr ⟨h1, h2⟩))
  · exact gw_all _ qTc0_c_4 _ (List.mem_map_of_mem (f := fun e : Nat × Nat × Nat × qM × Nat => Cond.code e.2.2.2.1.2.1 e.2.2.2.1.2.2.1 e.2.2.2.1.2.2.2.1 e.2.2.2.1.2.2.2.2.1) (List.mem_filter.mpr ⟨h1, h2⟩))
  · exact gw_all _ qTc0_c_5 _ (List.mem_map_of_mem (f := fun e : Nat × Nat × Nat × qM × Nat => Cond.code e.2.2.2.1.2.1 e.2.2.2.1.2.2.1 e.2.2.2.1.2.2.2.1 e.2.2.2.1.2.2.2.2.1) (List.mem_filter.mpr ⟨h1, h2⟩))
  · exact gw_all _ qTc0_c_6 _ (List.mem_map_of_mem (f := fun e : Nat × Nat × Nat × qM × Nat => Cond.code e.2.2.2.1.2.1 e.2.2.2.1.2.2.1 e.2.2.2.1.2.2.2.1 e.2.2.2.1.2.2.2.2.1) (List.mem_filter.mpr ⟨h1, h2⟩))
  · exact gw_all _ qTc0_c_7 _ (List.mem_map_of_mem (f := fun e : Nat × Nat × Nat × qM × Nat => Cond.code e.2.2.2.1.2.1 e.2.2.2.1.2.2.1 e.2.2.2.1.2.2.2.1 e.2.2.2.1.2.2.2.2.1) (List.mem_filter.mpr ⟨h1, h2⟩))
  · exact gw_all _ qTc0_c_8 _ (List.mem_map_of_mem (f := fun e : Nat × Nat × Nat × qM × Nat => Cond.code e.2.2.2.1.2.1 e.2.2.2.1.2.2.1 e.2.2.2.1.2.2.2.1 e.2.2.2.1.2.2.2.2.1) (List.mem_filter.mpr ⟨h1, h2⟩))
  · exact gw_all _ qTc0_c_9 _ (List.mem_map_of_mem (f := fun e : Nat × Nat × Nat × qM × Nat => Cond.code e.2.2.2.1.2.1 e.2.2.2.1.2.2.1 e.2.2.2.1.2.2.2.1 e.2.2.2.1.2.2.2.2.1) (List.mem_filter.mpr ⟨h1, h2⟩))
  · exact gw_all _ qTc0_c_10 _ (List.mem_map_of_mem (f := fun e : Nat × Nat × Nat × qM × Nat => Cond.code e.2.2.2.1.2.1 e.2.2.2.1.2.2.1 e.2.2.2.1.2.2.2.1 e.2.2.2.1.2.2.2.2.1) (List.mem_filter.mpr ⟨h1, h2⟩))
  · exact gw_all _ qTc0_c_11 _ (List.mem_map_of_mem (f := fun e : Nat × Nat × Nat × qM × Nat => Cond.code e.2.2.2.1.2.1 e.2.2.2.1.2.2.1 e.2.2.2.1.2.2.2.1 e.2.2.2.1.2.2.2.2.1) (List.mem_filter.mpr ⟨h1, h2⟩))
  · exact gw_all _ qTc0_c_12 _ (List.mem_map_of_mem (f := fun e : Nat × Nat × Nat × qM × Nat => Cond.code e.2.2.2.1.2.1 e.2.2.2.1.2.2.1 e.2.2.2.1.2.2.2.1 e.2.2.2.1.2.2.2.2.1) (List.mem_filter.mpr ⟨h1, h2⟩))
set_option maxRecDepth 20000 in
theorem qTc0_i : (qTcM 0).map (fun e => Cond.instanceMethod e.2.2.2.1.2.1) = [(26, 13), (27, 10), (28, 12), (24, 4), (23, 11), (26, 13), (29, 2), (29, 12), (18, 5), (19, 6), (23, 3), (19, 10), (19, 18), (20, 0), (20, 16), (20, 8), (23, 7), (23, 20), (20, 4), (20, 12), (20, 20), (21, 0), (21, 4), (21, 13), (21, 17), (21, 21), (23, 11), (23, 15), (22, 6), (19, 14), (18, 9), (18, 19), (19, 2), (21, 0), (21, 9), (20, 20), (23, 11), (26, 9), (21, 4), (31, 12), (30, 20), (19, 14), (22, 2), (22, 10), (22, 22), (22, 6), (22, 14), (22, 18), (17, 6), (17, 10), (17, 14), (18, 0), (24, 0), (24, 4), (24, 8), (24, 12), (24, 16), (23, 15), (25, 5), (23, 11), (26, 5), (25, 23), (26, 13), (26, 9), (27, 10), (27, 18), (28, 8), (28, 20), (29, 8), (33, 19), (30, 4), (30, 12), (30, 20), (31, 4), (31, 8), (32, 4), (32, 8), (33, 0), (22, 6), (33, 4), (10, 13), (16, 2), (17, 2), (17, 18), (6, 0), (5, 5), (24, 21), (25, 1), (25, 9), (25, 14), (29, 20), (31, 17), (5, 20), (7, 6), (12, 14), (13, 15), (26, 21), (25, 19), (26, 17), (27, 1), (27, 6), (27, 14), (28, 0), (28, 4), (28, 16), (29, 16), (30, 0), (30, 16), (31, 0), (32, 0), (32, 20), (33, 15), (10, 18), (16, 6), (10, 13), (10, 18), (12, 8)].filterMap qpl := by decide +kernel
set_option maxRecDepth 20000 in
theorem qTc0_v : (qTcM 0).map (fun e => Cond.selects (qNm e.2.2.2.1.1) e.2.2.2.1.2.1 e.2.2.2.1.2.1) = [(26, 14), (27, 11), (28, 13), (24, 5), (23, 12), (26, 14), (29, 3), (29, 13), (18, 6), (19, 7), (23, 4), (19, 11), (19, 19), (20, 1), (20, 17), (20, 9), (23, 8), (23, 21), (20, 5), (20, 13), (20, 21), (21, 1), (21, 5), (21, 14), (21, 18), (21, 22), (23, 12), (23, 16), (22, 7), (19, 15), (18, 10), (18, 20), (19, 3), (21, 1), (21, 10), (20, 21), (23, 12), (26, 10), (21, 5), (31, 13), (30, 21), (19, 15), (22, 3), (22, 11), (22, 23), (22, 7), (22, 15), (22, 19), (17, 7), (17, 11), (17, 15), (18, 1), (24, 1), (24, 5), (24, 9), (24, 13), (24, 17), (23, 16), (25, 6), (23, 12), (26, 6), (26, 0), (26, 14), (26, 10), (27, 11), (27, 19), (28, 9), (28, 21), (29, 9), (33, 20), (30, 5), (30, 13), (30, 21), (31, 5), (31, 9), (32, 5), (32, 9), (33, 1), (22, 7), (33, 5), (10, 14), (16, 3), (17, 3), (17, 19), (6, 1), (5, 6), (24, 22), (25, 2), (25, 10), (25, 15), (29, 21), (31, 18), (5, 21), (7, 7), (12, 15), (13, 16), (26, 22), (25, 20), (26, 18), (27, 2), (27, 7), (27, 15), (28, 1), (28, 5), (28, 17), (29, 17), (30, 1), (30, 17), (31, 1), (32, 1), (32, 21), (33, 16), (10, 19), (16, 7), (10, 14), (10, 19), (12, 9)].filterMap qpl := by decide +kernel
set_option maxRecDepth 20000 in
theorem qTc0_n : (qTcM 0).map (fun e => Cond.initialized e.2.2.2.1.2.1.cls) = [(1, 3), (1, 3), (1, 3), (1, 3), (1, 3), (1, 3), (1, 10), (1, 10), (0, 23), (0, 23), (0, 23), (0, 23), (0, 23), (0, 23), (0, 23), (0, 23), (0, 23), (0, 23), (0, 23), (0, 23), (1, 14), (1, 14), (1, 14), (1, 14), (1, 14), (1, 14), (1, 3), (1, 3), (1, 3), (1, 3), (0, 23), (0, 23), (0, 23), (1, 14), (1, 14), (1, 14), (1, 3), (1, 3), (1, 14), (1, 14), (1, 14), (1, 3), (1, 14), (1, 14), (1, 14), (1, 3), (1, 14), (1, 14), (0, 23), (0, 23), (0, 23), (0, 23), (0, 23), (1, 3), (0, 23), (0, 23), (2, 2), (1, 3), (0, 23), (1, 3), (0, 6), (0, 6), (1, 3), (1, 3), (1, 3), (1, 3), (1, 3), (1, 10), (1, 10), (0, 6), (1, 14), (1, 14), (1, 14), (0, 6), (1, 14), (0, 6), (1, 3), (0, 6), (1, 3), (2, 2), (10, 0), (10, 0), (0, 6), (0, 6), (0, 2), (0, 2), (0, 2), (0, 6), (0, 6), (0, 2), (0, 2), (0, 2), (0, 2), (5, 11), (5, 11), (5, 11), (0, 2), (0, 6), (0, 2), (0, 6), (0, 6), (0, 6), (0, 6), (0, 6), (0, 6), (0, 6), (0, 6), (0, 6), (0, 6), (0, 6), (0, 6), (0, 6), (10, 0), (10, 0), (10, 0), (10, 0), (10, 0)].filterMap qpl := by decide +kernel
set_option maxRecDepth 20000 in
theorem qTc1_l : (qTcM 1).map (fun e => Cond.methodLink (qNm e.1) e.2.1 e.2.2.2.1.2.1) = [(18, 12), (18, 15), (18, 22), (15, 22), (6, 4), (6, 7), (15, 18), (31, 20), (14, 19), (16, 9), (8, 15), (8, 6), (12, 21), (13, 1), (14, 22), (15, 1)].filterMap qpl := by decide +kernel
set_option maxRecDepth 20000 in
theorem qTc1_c : (qTcM 1).map (fun e => Cond.code e.2.2.2.1.2.1 e.2.2.2.1.2.2.1 e.2.2.2.1.2.2.2.1 e.2.2.2.1.2.2.2.2.1) = [(18, 14), (18, 17), (19, 0), (16, 0), (6, 6), (6, 9), (15, 20), (31, 22), (14, 21), (16, 11), (8, 18), (8, 9), (13, 0), (13, 3), (15, 0), (15, 3)].filterMap qpl := by decide +kernel
set_option maxRecDepth 20000 in
theorem qTc1_s : (qTcM 1).map (fun e => Cond.static e.2.2.2.1.2.1) = [(18, 13), (18, 16), (18, 23), (15, 23), (6, 5), (6, 8), (15, 19), (31, 21), (14, 20), (16, 10), (8, 16), (8, 7), (12, 22), (13, 2), (14, 23), (15, 2)].filterMap qpl := by decide +kernel
set_option maxRecDepth 20000 in
theorem qTc1_n : (qTcM 1).map (fun e => Cond.initialized e.2.2.2.1.2.1.cls) = [(0, 23), (0, 23), (0, 23), (0, 2), (0, 2), (0, 2), (0, 2), (0, 2), (8, 17), (11, 14), (8, 17), (8, 8), (12, 23), (12, 23), (8, 17), (8, 17)].filterMap qpl := by decide +kernel
set_option maxRecDepth 20000 in
theorem qTc2_l : (qTcM 2).map (fun e => Cond.methodLink (qNm e.1) e.2.1 e.2.2.2.1.2.1) = [(4, 12), (0, 8), (0, 17), (6, 10), (13, 23), (13, 20)].filterMap qpl := by decide +kernel
set_option maxRecDepth 20000 in
theorem qTc2_c : (qTcM 2).map (fun e => Cond.code e.2.2.2.1.2.1 e.2.2.2.1.2.2.1 e.2.2.2.1.2.2.2.1 e.2.2.2.1.2.2.2.2.1) = [(4, 14), (0, 10), (0, 19), (6, 12), (14, 1), (13, 22)].filterMap qpl := by decide +kernel
set_option maxRecDepth 20000 in
theorem qTc2_i : (qTcM 2).map (fun e => Cond.instanceMethod e.2.2.2.1.2.1) = [(4, 13), (0, 9), (0, 18), (6, 11), (14, 0), (13, 21)].filterMap qpl := by decide +kernel
set_option maxRecDepth 20000 in
theorem qTc2_n : (qTcM 2).map (fun e => Cond.initialized e.2.2.2.1.2.1.cls) = [(2, 2), (0, 2), (0, 6), (5, 11), (10, 0), (10, 0)].filterMap qpl := by decide +kernel
set_option maxRecDepth 20000 in
theorem qTc4_l : (qTcM 4).map (fun e => Cond.methodLink (qNm e.1) e.2.1 e.2.2.2.1.2.1) = [(32, 11), (32, 15)].filterMap qpl := by decide +kernel
set_option maxRecDepth 20000 in
theorem qTc4_c : (qTcM 4).map (fun e => Cond.codeWith e.2.2.2.1.2.1 e.2.2.2.1.2.2.1 e.2.2.2.1.2.2.2.1 e.2.2.2.1.2.2.2.2.1 e.2.2.2.1.2.2.2.2.2) = [(32, 13), (32, 17)].filterMap qpl := by decide +kernel
set_option maxRecDepth 20000 in
theorem qTc4_s : (qTcM 4).map (fun e => Cond.static e.2.2.2.1.2.1) = [(32, 12), (32, 16)].filterMap qpl := by decide +kernel
set_option maxRecDepth 20000 in
theorem qTc4_n : (qTcM 4).map (fun e => Cond.initialized e.2.2.2.1.2.1.cls) = [(0, 2), (0, 2)].filterMap qpl := by decide +kernel
set_option maxRecDepth 20000 in
theorem qTc15_l : (qTcM 15).map (fun e => Cond.methodLink (qNm e.1) e.2.1 e.2.2.2.1.2.1) = [(33, 9)].filterMap qpl := by decide +kernel
set_option maxRecDepth 20000 in
theorem qTc15_c : (qTcM 15).map (fun e => Cond.codeWith e.2.2.2.1.2.1 e.2.2.2.1.2.2.1 e.2.2.2.1.2.2.2.1 e.2.2.2.1.2.2.2.2.1 e.2.2.2.1.2.2.2.2.2) = [(33, 12)].filterMap qpl := by decide +kernel
set_option maxRecDepth 20000 in
theorem qTc15_i : (qTcM 15).map (fun e => Cond.instanceMethod e.2.2.2.1.2.1) = [(33, 10)].filterMap qpl := by decide +kernel
set_option maxRecDepth 20000 in
theorem qTc15_v : (qTcM 15).map (fun e => Cond.selects (qNm e.2.2.2.1.1) e.2.2.2.1.2.1 e.2.2.2.1.2.1) = [(33, 11)].filterMap qpl := by decide +kernel
set_option maxRecDepth 20000 in
theorem qTc15_n : (qTcM 15).map (fun e => Cond.initialized e.2.2.2.1.2.1.cls) = [(0, 2)].filterMap qpl := by decide +kernel
set_option maxRecDepth 20000 in
theorem qTc3_c : (qTcM 3).map (fun e => Cond.code e.2.2.2.1.2.1 e.2.2.2.1.2.2.1 e.2.2.2.1.2.2.2.1 e.2.2.2.1.2.2.2.2.1) = [(3, 5), (3, 5), (3, 11), (3, 5), (2, 10), (3, 5), (3, 19), (3, 11), (4, 1), (4, 6), (4, 23)].filterMap qpl := by decide +kernel
set_option maxRecDepth 20000 in
theorem qTc3_i : (qTcM 3).map (fun e => Cond.instanceMethod e.2.2.2.1.2.1) = [(3, 4), (3, 4), (3, 10), (3, 4), (2, 9), (3, 4), (3, 18), (3, 10), (4, 0), (4, 5), (4, 22)].filterMap qpl := by decide +kernel
set_option maxRecDepth 20000 in
theorem qTc3_n : (qTcM 3).map (fun e => Cond.initialized e.2.2.2.1.2.1.cls) = [(1, 3), (1, 3), (1, 14), (1, 3), (0, 23), (1, 3), (1, 10), (1, 14), (1, 18), (1, 22), (2, 6)].filterMap qpl := by decide +kernel
set_option maxRecDepth 20000 in
theorem qTc10_l : (qTcM 10).map (fun e => Cond.methodLink (qNm e.1) e.2.1 e.2.2.2.1.2.1) = [(14, 4), (14, 18), (9, 7), (7, 19), (8, 1), (10, 23), (11, 3)].filterMap qpl := by decide +kernel
set_option maxRecDepth 20000 in
theorem qTc10_m : (qTcM 10).map (fun e => Cond.sameMethod e.2.2.2.1.2.1.cls e.2.2.2.1.2.1.cls e.2.2.2.1.2.1.name e.2.2.2.1.2.1.desc) = [(14, 5), (9, 8), (9, 8), (7, 20), (8, 2), (11, 0), (11, 4)].filterMap qpl := by decide +kernel
set_option maxRecDepth 20000 in
theorem qTc10_v : (qTcM 10).map (fun e => Cond.selects RJ4 e.2.2.2.1.2.1 e.2.2.2.1.2.1) = [(14, 6), (9, 9), (9, 9), (50, 0), (50, 1), (50, 2), (50, 3)].filterMap qpl := by decide +kernel
set_option maxRecDepth 20000 in
theorem qTc10_x : [Cond.instantiable RJ4 4] = [(5, 10)].filterMap qpl := by decide +kernel
set_option maxRecDepth 20000 in
theorem qTc10_i : (qTcM 10).map (fun e => Cond.instanceMethod e.2.2.2.1.2.1) = [(14, 7), (9, 10), (9, 10), (7, 21), (8, 3), (11, 1), (11, 5)].filterMap qpl := by decide +kernel
set_option maxRecDepth 20000 in
theorem qTc10_n : (qTcM 10).map (fun e => Cond.initialized e.2.2.2.1.2.1.cls) = [(6, 15), (6, 15), (6, 15), (6, 15), (6, 15), (6, 15), (6, 15)].filterMap qpl := by decide +kernel
set_option maxRecDepth 20000 in
theorem qTc10_c : (qTcM 10).map (fun e => Cond.code e.2.2.2.1.2.1 e.2.2.2.1.2.2.1 e.2.2.2.1.2.2.2.1 e.2.2.2.1.2.2.2.2.1) = [(14, 8), (9, 11), (9, 11), (8, 0), (8, 4), (11, 2), (11, 6)].filterMap qpl := by decide +kernel
set_option maxRecDepth 20000 in
theorem qTc11_l : (qTcM 11).map (fun e => Cond.methodLink (qNm e.1) e.2.1 e.2.2.2.1.2.1) = [(7, 9), (12, 17), (14, 15)].filterMap qpl := by decide +kernel
set_option maxRecDepth 20000 in
theorem qTc11_m : (qTcM 11).map (fun e => Cond.sameMethod e.2.2.2.1.2.1.cls e.2.2.2.1.2.1.cls e.2.2.2.1.2.1.name e.2.2.2.1.2.1.desc) = [(7, 10), (12, 18), (14, 10)].filterMap qpl := by decide +kernel
set_option maxRecDepth 20000 in
theorem qTc11_v : (qTcM 11).map (fun e => Cond.superclass (qNm e.1) e.2.2.2.1.2.1.cls) = [(7, 11), (7, 11), (7, 11)].filterMap qpl := by decide +kernel
set_option maxRecDepth 20000 in
theorem qTc11_i : (qTcM 11).map (fun e => Cond.instanceMethod e.2.2.2.1.2.1) = [(7, 12), (12, 19), (14, 16)].filterMap qpl := by decide +kernel
set_option maxRecDepth 20000 in
theorem qTc11_n : (qTcM 11).map (fun e => Cond.initialized e.2.2.2.1.2.1.cls) = [(6, 15), (6, 15), (6, 15)].filterMap qpl := by decide +kernel
set_option maxRecDepth 20000 in
theorem qTc11_c : (qTcM 11).map (fun e => Cond.code e.2.2.2.1.2.1 e.2.2.2.1.2.2.1 e.2.2.2.1.2.2.2.1 e.2.2.2.1.2.2.2.2.1) = [(7, 13), (12, 20), (14, 17)].filterMap qpl := by decide +kernel
set_option maxRecDepth 20000 in
theorem qTc12_l : (qTcM 12).map (fun e => Cond.methodLink (qNm e.1) e.2.1 e.2.2.2.1.2.1) = [(6, 13)].filterMap qpl := by decide +kernel
set_option maxRecDepth 20000 in
theorem qTc12_i : (qTcM 12).map (fun e => Cond.instanceMethod e.2.2.2.1.2.1) = [(6, 14)].filterMap qpl := by decide +kernel
set_option maxRecDepth 20000 in
theorem qTc12_n : (qTcM 12).map (fun e => Cond.initialized e.2.2.2.1.2.1.cls) = [(6, 15)].filterMap qpl := by decide +kernel
set_option maxRecDepth 20000 in
theorem qTc12_c : (qTcM 12).map (fun e => Cond.code e.2.2.2.1.2.1 e.2.2.2.1.2.2.1 e.2.2.2.1.2.2.2.1 e.2.2.2.1.2.2.2.2.1) = [(6, 16)].filterMap qpl := by decide +kernel
set_option maxRecDepth 20000 in
theorem qTc16_l : (qTcM 16).map (fun e => Cond.methodLink (qNm e.1) e.2.1 yJ5_length_8abf5) = [(14, 9)].filterMap qpl := by decide +kernel
set_option maxRecDepth 20000 in
theorem qTc16_v : [Cond.sameMethod yJ5_length_8abf5.cls yJ5_length_8abf5.cls yJ5_length_8abf5.name yJ5_length_8abf5.desc, Cond.instanceMethod yJ5_length_8abf5, Cond.selects RJ4 yJ5_length_8abf5 yJ4_length_8abf5, Cond.code yJ5_length_8abf5 cJ5_length_8abf5 1 (some .int)] = [(14, 10), (14, 16), (14, 12), (14, 17)].filterMap qpl := by decide +kernel
set_option maxRecDepth 20000 in
theorem qTc16_i : (qTcM 16).map (fun e => Cond.instanceMethod e.2.2.2.1.2.1) = [(14, 13)].filterMap qpl := by decide +kernel
set_option maxRecDepth 20000 in
theorem qTc16_n : (qTcM 16).map (fun e => Cond.initialized e.2.2.2.1.2.1.cls) = [(5, 11)].filterMap qpl := by decide +kernel
set_option maxRecDepth 20000 in
theorem qTc16_c : (qTcM 16).map (fun e => Cond.code e.2.2.2.1.2.1 e.2.2.2.1.2.2.1 e.2.2.2.1.2.2.2.1 e.2.2.2.1.2.2.2.2.1) = [(14, 14)].filterMap qpl := by decide +kernel
set_option maxRecDepth 20000 in
theorem qTc13_l : (qTcM 13).map (fun e => Cond.methodLink (qNm e.1) e.2.1 yJ0_checkIndex_df160) = [(16, 12)].filterMap qpl := by decide +kernel
set_option maxRecDepth 20000 in
theorem qTc14_l : (qTcM 14).map (fun e => Cond.methodLink (qNm e.1) e.2.1 arraycopyName) = [(12, 11), (9, 3)].filterMap qpl := by decide +kernel
set_option maxRecDepth 20000 in
theorem qCln_w : [Cond.methodLink RJ7 310 ⟨"[B", "clone", "()Ljava/lang/Object;"⟩, Cond.sameMethod "[B" "java/lang/Object" "clone" "()Ljava/lang/Object;", Cond.native ⟨"java/lang/Object", "clone", "()Ljava/lang/Object;"⟩, Cond.instanceMethod ⟨"java/lang/Object", "clone", "()Ljava/lang/Object;"⟩, Cond.selects "[B" ⟨"[B", "clone", "()Ljava/lang/Object;"⟩ ⟨"java/lang/Object", "clone", "()Ljava/lang/Object;"⟩, Cond.classLink RJ7 311 "[B"] = [(8, 19), (8, 20), (8, 21), (8, 22), (9, 0), (9, 1)].filterMap qpl := by decide +kernel
set_option maxRecDepth 20000 in
theorem qTd_w : [Cond.constantDouble RL 167 4611686018427387904] = [(25, 17)].filterMap qpl := by decide +kernel
set_option maxRecDepth 20000 in
theorem qAcp_w : [Cond.native arraycopyName, Cond.static arraycopyName, Cond.initialized "java/lang/System"] = [(9, 4), (9, 5), (9, 6)].filterMap qpl := by decide +kernel
set_option maxRecDepth 20000 in
theorem qToL_w : qToL.map (fun e => Cond.constant (qNm e.1) e.2.1 (Int32.ofInt e.2.2)) = [(8, 5), (8, 11)].filterMap qpl := by decide +kernel
set_option maxRecDepth 20000 in
theorem qTg_w : qTgL.map (fun e => if e.2.2 = 0 then Cond.fieldLink (qNm e.1) e.2.1 "java/lang/String" "COMPACT_STRINGS" "Z" else Cond.fieldLink (qNm e.1) e.2.1 "java/lang/Integer" "DigitOnes" "[B") = [(10, 21), (6, 18), (13, 4)].filterMap qpl := by decide +kernel
set_option maxRecDepth 20000 in
theorem qTn_k : qTnL.map (fun e => Cond.classLink (qNm e.1) e.2.1 (qKs.getD e.2.2 (RX1, TX1, 3)).1) = [(4, 16), (2, 14), (2, 17), (4, 9), (0, 21), (1, 1), (1, 8), (1, 12), (1, 16), (1, 20), (2, 0), (2, 4), (0, 0), (0, 4), (5, 9), (13, 18)].filterMap qpl := by decide +kernel
set_option maxRecDepth 20000 in
theorem qTn_i : qTnL.map (fun e => Cond.instantiable (qKs.getD e.2.2 (RX1, TX1, 3)).1 (qKs.getD e.2.2 (RX1, TX1, 3)).2.2) = [(1, 2), (1, 2), (1, 13), (1, 2), (0, 22), (1, 2), (1, 9), (1, 13), (1, 17), (1, 21), (2, 1), (2, 5), (0, 1), (0, 5), (5, 10), (13, 19)].filterMap qpl := by decide +kernel
set_option maxRecDepth 20000 in
theorem qTn_n : qTnL.map (fun e => Cond.initialized (qKs.getD e.2.2 (RX1, TX1, 3)).1) = [(1, 3), (1, 3), (1, 14), (1, 3), (0, 23), (1, 3), (1, 10), (1, 14), (1, 18), (1, 22), (2, 2), (2, 6), (0, 2), (0, 6), (5, 11), (10, 0)].filterMap qpl := by decide +kernel
set_option maxRecDepth 20000 in
theorem qTa_k : [Cond.classLink RX2 9 RX1, Cond.classLink RL 13 "[[I"] = [(4, 16), (0, 15)].filterMap qpl := by decide +kernel
set_option maxRecDepth 20000 in
theorem qTa_a : [Cond.arrayClass .int, Cond.arrayClass .byte, Cond.arrayClass .char] = [(0, 14), (2, 12), (5, 1)].filterMap qpl := by decide +kernel
def qEx (k : Nat) : String := match k with
  | 0 => "java/lang/IndexOutOfBoundsException"
  | 1 => "java/lang/IllegalArgumentException"
  | _ => "java/util/NoSuchElementException"
set_option maxRecDepth 20000 in
theorem qTx_k : qTxL.map (fun e => Cond.classLink (qNm e.1) e.2.1 (qEx e.2.2.2.2.1)) = [(17, 21), (17, 21), (26, 2), (26, 2), (33, 22)].filterMap qpl := by decide +kernel
set_option maxRecDepth 20000 in
theorem qTx_n : qTxL.map (fun e => Cond.initialized (qEx e.2.2.2.2.1)) = [(17, 22), (17, 22), (26, 3), (26, 3), (33, 23)].filterMap qpl := by decide +kernel
set_option maxRecDepth 20000 in
theorem qTk_k : qTkL.map (fun e => Cond.classLink (qNm e.1) e.2.1 (qEx e.2.2)) = [(32, 14), (32, 18), (33, 13)].filterMap qpl := by decide +kernel
set_option maxRecDepth 20000 in
theorem qTc5_l : (qTcM 5).map (fun e => Cond.methodLink (qNm e.1) e.2.1 Lib.Math.max.name) = [(27, 21), (29, 5), (5, 16), (8, 10)].filterMap qpl := by decide +kernel
set_option maxRecDepth 20000 in
theorem qTc6_l : (qTcM 6).map (fun e => Cond.methodLink (qNm e.1) e.2.1 Lib.Math.min.name) = [(33, 7), (29, 6), (18, 3), (23, 1), (5, 12), (9, 2)].filterMap qpl := by decide +kernel
set_option maxRecDepth 20000 in
theorem qMath_w : [Cond.static Lib.Math.max.name, Cond.static Lib.Math.min.name, Cond.initialized "java/lang/Math", Cond.code Lib.Math.max.name Lib.Math.max.code 2 (some .int), Cond.code Lib.Math.min.name Lib.Math.min.code 2 (some .int)] = [(5, 17), (5, 13), (5, 14), (5, 18), (5, 15)].filterMap qpl := by decide +kernel
set_option maxRecDepth 20000 in
theorem qTc7_l : (qTcM 7).map (fun e => Cond.methodLink (qNm e.1) e.2.1 objectInit) = [(3, 6), (4, 15), (5, 0), (3, 20), (2, 11), (3, 12), (4, 2), (4, 7), (0, 20), (0, 11), (14, 2), (6, 17)].filterMap qpl := by decide +kernel
set_option maxRecDepth 20000 in
theorem qObj_w : [Cond.instanceMethod objectInit, Cond.code objectInit ⟨#[0xb1]⟩ 1 none] = [(0, 12), (0, 13)].filterMap qpl := by decide +kernel
set_option maxRecDepth 20000 in
theorem qTc8_l : (qTcM 8).map (fun e => Cond.methodLink (qNm e.1) e.2.1 yJ0_length_8abf5) = [(19, 21)].filterMap qpl := by decide +kernel
set_option maxRecDepth 20000 in
theorem qTc9_l : (qTcM 9).map (fun e => Cond.methodLink (qNm e.1) e.2.1 yJ0_charAt_5068e) = [(19, 22)].filterMap qpl := by decide +kernel

def mX0_of : qM := (0, yX0_of, cX0_of, 4, (some .int), [])
def mX0_vertexOf : qM := (0, yX0_vertexOf, cX0_vertexOf, 2, (some .int), [])
def mX0_backOf : qM := (0, yX0_backOf, cX0_backOf, 1, (some .int), [])
def mX0_isFirstOfFour : qM := (0, yX0_isFirstOfFour, cX0_isFirstOfFour, 5, (some .boolean), [])
def mX1_init : qM := (1, yX1_init, cX1_init, 1, none, [])
def mX1_clear : qM := (1, yX1_clear, cX1_clear, 3, none, [])
def mX1_become : qM := (1, yX1_become, cX1_become, 3, none, [])
def mX1_vertexCount : qM := (1, yX1_vertexCount, cX1_vertexCount, 1, (some .int), [])
def mX1_edgeCount : qM := (1, yX1_edgeCount, cX1_edgeCount, 1, (some .int), [])
def mX1_between : qM := (1, yX1_between, cX1_between, 3, (some .int), [])
def mX1_put : qM := (1, yX1_put, cX1_put, 4, none, [])
def mX1_exchangeEdges : qM := (1, yX1_exchangeEdges, cX1_exchangeEdges, 6, none, [])
def mX1_reasonAgainst : qM := (1, yX1_reasonAgainst, cX1_reasonAgainst, 9, (some .int), [])
def mX1_degreeOf : qM := (1, yX1_degreeOf, cX1_degreeOf, 4, (some .int), [])
def mX1_loopCount : qM := (1, yX1_loopCount, cX1_loopCount, 3, (some .int), [])
def mX1_defectCount : qM := (1, yX1_defectCount, cX1_defectCount, 4, (some .int), [])
def mX1_neighbourCount : qM := (1, yX1_neighbourCount, cX1_neighbourCount, 4, (some .int), [])
def mX1_triangleCount : qM := (1, yX1_triangleCount, cX1_triangleCount, 4, (some .int), [])
def mX1_commonNeighboursBehind : qM := (1, yX1_commonNeighboursBehind, cX1_commonNeighboursBehind, 5, (some .int), [])
def mX1_surplusOver : qM := (1, yX1_surplusOver, cX1_surplusOver, 5, (some .int), [])
def mX1_hasDegreesOf : qM := (1, yX1_hasDegreesOf, cX1_hasDegreesOf, 3, (some .boolean), [])
def mX2_init : qM := (2, yX2_init, cX2_init, 2, none, [])
def mX2_forget : qM := (2, yX2_forget, cX2_forget, 1, none, [])
def mX2_length : qM := (2, yX2_length, cX2_length, 1, (some .int), [])
def mX2_remember : qM := (2, yX2_remember, cX2_remember, 4, none, [])
def mX2_stepBack : qM := (2, yX2_stepBack, cX2_stepBack, 1, none, [])
def mX2_lastGraph : qM := (2, yX2_lastGraph, cX2_lastGraph, 1, (some (.object "SwitchGraphs$Graph")), [])
def mX2_lastTarget : qM := (2, yX2_lastTarget, cX2_lastTarget, 1, (some (.object "SwitchGraphs$Graph")), [])
def mX2_lastMode : qM := (2, yX2_lastMode, cX2_lastMode, 1, (some .int), [])
def mX3_init : qM := (3, yX3_init, cX3_init, 1, none, [])
def mX3_print : qM := (3, yX3_print, cX3_print, 4, none, [])
def mX3_printEdges : qM := (3, yX3_printEdges, cX3_printEdges, 4, none, [])
def mX3_printDigit : qM := (3, yX3_printDigit, cX3_printDigit, 2, none, [])
def mX3_append : qM := (3, yX3_append, cX3_append, 2, none, [])
def mX3_length : qM := (3, yX3_length, cX3_length, 1, (some .int), [])
def mX3_signAt : qM := (3, yX3_signAt, cX3_signAt, 2, (some .char), [])
def mX4_init : qM := (4, yX4_init, cX4_init, 1, none, [])
def mX4_find : qM := (4, yX4_find, cX4_find, 4, none, [])
def mX4_merge : qM := (4, yX4_merge, cX4_merge, 6, none, [])
def mX4_count : qM := (4, yX4_count, cX4_count, 1, (some .int), [])
def mX4_numberOf : qM := (4, yX4_numberOf, cX4_numberOf, 2, (some .int), [])
def mX4_countBefore : qM := (4, yX4_countBefore, cX4_countBefore, 4, (some .int), [])
def mX4_countWithEdges : qM := (4, yX4_countWithEdges, cX4_countWithEdges, 4, (some .int), [])
def mX4_areTogether : qM := (4, yX4_areTogether, cX4_areTogether, 3, (some .boolean), [])
def mX4_stepsBetween : qM := (4, yX4_stepsBetween, cX4_stepsBetween, 6, (some .int), [])
def mX4_stepOn : qM := (4, yX4_stepOn, cX4_stepOn, 4, none, [])
def mX5_init : qM := (5, yX5_init, cX5_init, 1, none, [])
def mX5_hasRoom : qM := (5, yX5_hasRoom, cX5_hasRoom, 1, (some .boolean), [])
def mX5_append : qM := (5, yX5_append, cX5_append, 3, none, [])
def mX5_fedBytes : qM := (5, yX5_fedBytes, cX5_fedBytes, 1, (some .int), [])
def mX5_kindOfError : qM := (5, yX5_kindOfError, cX5_kindOfError, 1, (some .int), [])
def mX5_placeOfError : qM := (5, yX5_placeOfError, cX5_placeOfError, 1, (some .int), [])
def mX5_readGraph : qM := (5, yX5_readGraph, cX5_readGraph, 1, (some (.object "SwitchGraphs$Graph")), [])
def mX5_readTarget : qM := (5, yX5_readTarget, cX5_readTarget, 1, (some (.object "SwitchGraphs$Graph")), [])
def mX5_readMode : qM := (5, yX5_readMode, cX5_readMode, 1, (some .int), [])
def mX5_readText : qM := (5, yX5_readText, cX5_readText, 4, (some .boolean), [])
def mX5_readFirst : qM := (5, yX5_readFirst, cX5_readFirst, 1, (some .boolean), [])
def mX5_readOther : qM := (5, yX5_readOther, cX5_readOther, 1, (some .boolean), [])
def mX5_readVertices : qM := (5, yX5_readVertices, cX5_readVertices, 1, (some .boolean), [])
def mX5_readDegrees : qM := (5, yX5_readDegrees, cX5_readDegrees, 2, (some .boolean), [])
def mX5_readEdge : qM := (5, yX5_readEdge, cX5_readEdge, 6, (some .boolean), [])
def mX5_readModeNumber : qM := (5, yX5_readModeNumber, cX5_readModeNumber, 1, (some .boolean), [])
def mX5_begin : qM := (5, yX5_begin, cX5_begin, 2, none, [])
def mX5_expectNumber : qM := (5, yX5_expectNumber, cX5_expectNumber, 3, (some .boolean), [])
def mX5_expectSemicolon : qM := (5, yX5_expectSemicolon, cX5_expectSemicolon, 1, (some .boolean), [])
def mX5_fail : qM := (5, yX5_fail, cX5_fail, 2, (some .boolean), [])
def mX5_isWord : qM := (5, yX5_isWord, cX5_isWord, 3, (some .boolean), [])
def mX5_advance : qM := (5, yX5_advance, cX5_advance, 1, none, [])
def mX5_takeWord : qM := (5, yX5_takeWord, cX5_takeWord, 1, none, [])
def mX5_takeNumber : qM := (5, yX5_takeNumber, cX5_takeNumber, 1, none, [])
def mX5_byteAt : qM := (5, yX5_byteAt, cX5_byteAt, 2, (some .int), [])
def mX5_isBlank : qM := (5, yX5_isBlank, cX5_isBlank, 1, (some .boolean), [])
def mX5_isLetter : qM := (5, yX5_isLetter, cX5_isLetter, 1, (some .boolean), [])
def mX5_isDigit : qM := (5, yX5_isDigit, cX5_isDigit, 1, (some .boolean), [])
def mX6_init : qM := (6, yX6_init, cX6_init, 1, none, [])
def mX6_clear : qM := (6, yX6_clear, cX6_clear, 1, none, [])
def mX6_isFull : qM := (6, yX6_isFull, cX6_isFull, 1, (some .boolean), [])
def mX6_length : qM := (6, yX6_length, cX6_length, 1, (some .int), [])
def mX6_total : qM := (6, yX6_total, cX6_total, 1, (some .int), [])
def mX6_append : qM := (6, yX6_append, cX6_append, 2, none, [])
def mX6_insertFalling : qM := (6, yX6_insertFalling, cX6_insertFalling, 3, none, [])
def mX6_take : qM := (6, yX6_take, cX6_take, 3, none, [])
def mX6_greatest : qM := (6, yX6_greatest, cX6_greatest, 2, (some .int), [])
def mX6_slackOf : qM := (6, yX6_slackOf, cX6_slackOf, 4, (some .int), [])
def mX6_allows : qM := (6, yX6_allows, cX6_allows, 2, (some .boolean), [])
def mX6_hasNoNegativeSlack : qM := (6, yX6_hasNoNegativeSlack, cX6_hasNoNegativeSlack, 2, (some .boolean), [])
def mX6_build : qM := (6, yX6_build, cX6_build, 4, none, [])
def mX6_buildWithLoops : qM := (6, yX6_buildWithLoops, cX6_buildWithLoops, 4, none, [])
def mX6_buildWithoutLoops : qM := (6, yX6_buildWithoutLoops, cX6_buildWithoutLoops, 4, none, [])
def mX6_buildSimple : qM := (6, yX6_buildSimple, cX6_buildSimple, 7, none, [])
def mX6_join : qM := (6, yX6_join, cX6_join, 4, none, [])
def mX6_neediestBut : qM := (6, yX6_neediestBut, cX6_neediestBut, 5, (some .int), [])
def mX7_init : qM := (7, yX7_init, cX7_init, 1, none, [])
def mX7_fill : qM := (7, yX7_fill, cX7_fill, 5, none, [])
def mX7_fillFrom : qM := (7, yX7_fillFrom, cX7_fillFrom, 7, none, [])
def mX7_append : qM := (7, yX7_append, cX7_append, 2, none, [])
def mX7_length : qM := (7, yX7_length, cX7_length, 1, (some .int), [])
def mX7_codeAt : qM := (7, yX7_codeAt, cX7_codeAt, 2, (some .int), [])
def mX8_init : qM := (8, yX8_init, cX8_init, 1, none, [])
def mX8_find : qM := (8, yX8_find, cX8_find, 5, none, [])
def mX8_nextTowards : qM := (8, yX8_nextTowards, cX8_nextTowards, 4, (some .int), [])
def mX8_codeThatJoins : qM := (8, yX8_codeThatJoins, cX8_codeThatJoins, 6, (some .int), [])
def mX8_endOfSurplus : qM := (8, yX8_endOfSurplus, cX8_endOfSurplus, 6, (some .int), [])
def mX8_length : qM := (8, yX8_length, cX8_length, 1, (some .int), [])
def mX8_codeAt : qM := (8, yX8_codeAt, cX8_codeAt, 2, (some .int), [])
def mX9_init : qM := (9, yX9_init, cX9_init, 1, none, [])
def mX9_feed : qM := (9, yX9_feed, cX9_feed, 6, (some .int), [])
def mX9_load : qM := (9, yX9_load, cX9_load, 2, (some .int), [])
def mX9_errorKind : qM := (9, yX9_errorKind, cX9_errorKind, 1, (some .int), [])
def mX9_errorPosition : qM := (9, yX9_errorPosition, cX9_errorPosition, 1, (some .int), [])
def mX9_vertices : qM := (9, yX9_vertices, cX9_vertices, 1, (some .int), [])
def mX9_mode : qM := (9, yX9_mode, cX9_mode, 1, (some .int), [])
def mX9_edges : qM := (9, yX9_edges, cX9_edges, 2, (some .int), [])
def mX9_times : qM := (9, yX9_times, cX9_times, 4, (some .int), [])
def mX9_degree : qM := (9, yX9_degree, cX9_degree, 3, (some .int), [])
def mX9_loops : qM := (9, yX9_loops, cX9_loops, 1, (some .int), [])
def mX9_defects : qM := (9, yX9_defects, cX9_defects, 1, (some .int), [])
def mX9_isSimple : qM := (9, yX9_isSimple, cX9_isSimple, 1, (some .boolean), [])
def mX9_neighbours : qM := (9, yX9_neighbours, cX9_neighbours, 2, (some .int), [])
def mX9_triangles : qM := (9, yX9_triangles, cX9_triangles, 1, (some .int), [])
def mX9_components : qM := (9, yX9_components, cX9_components, 1, (some .int), [])
def mX9_component : qM := (9, yX9_component, cX9_component, 2, (some .int), [])
def mX9_isConnected : qM := (9, yX9_isConnected, cX9_isConnected, 1, (some .boolean), [])
def mX9_isBridge : qM := (9, yX9_isBridge, cX9_isBridge, 3, (some .boolean), [])
def mX9_bridges : qM := (9, yX9_bridges, cX9_bridges, 4, (some .int), [])
def mX9_way : qM := (9, yX9_way, cX9_way, 3, (some .int), [])
def mX9_sorted : qM := (9, yX9_sorted, cX9_sorted, 2, (some .int), [])
def mX9_slack : qM := (9, yX9_slack, cX9_slack, 2, (some .int), [])
def mX9_isPossible : qM := (9, yX9_isPossible, cX9_isPossible, 2, (some .boolean), [])
def mX9_meanDegree : qM := (9, yX9_meanDegree, cX9_meanDegree, 2, (some .double), [])
def mX9_reason : qM := (9, yX9_reason, cX9_reason, 5, (some .int), [])
def mX9_switches : qM := (9, yX9_switches, cX9_switches, 1, (some .int), [])
def mX9_switchAt : qM := (9, yX9_switchAt, cX9_switchAt, 3, (some .int), [])
def mX9_componentsBehind : qM := (9, yX9_componentsBehind, cX9_componentsBehind, 5, (some .int), [])
def mX9_nearest : qM := (9, yX9_nearest, cX9_nearest, 5, (some .int), [])
def mX9_isAlike : qM := (9, yX9_isAlike, cX9_isAlike, 1, (some .boolean), [])
def mX9_difference : qM := (9, yX9_difference, cX9_difference, 1, (some .int), [])
def mX9_pathLength : qM := (9, yX9_pathLength, cX9_pathLength, 1, (some .int), [])
def mX9_path : qM := (9, yX9_path, cX9_path, 3, (some .int), [])
def mX9_distance : qM := (9, yX9_distance, cX9_distance, 2, (some .int), [])
def mX9_addEdge : qM := (9, yX9_addEdge, cX9_addEdge, 3, (some .int), [])
def mX9_removeEdge : qM := (9, yX9_removeEdge, cX9_removeEdge, 3, (some .int), [])
def mX9_switchEdges : qM := (9, yX9_switchEdges, cX9_switchEdges, 5, (some .int), [])
def mX9_realise : qM := (9, yX9_realise, cX9_realise, 2, (some .int), [])
def mX9_follow : qM := (9, yX9_follow, cX9_follow, 3, (some .int), [])
def mX9_connect : qM := (9, yX9_connect, cX9_connect, 3, (some .int), [])
def mX9_simplify : qM := (9, yX9_simplify, cX9_simplify, 3, (some .int), [])
def mX9_exchange : qM := (9, yX9_exchange, cX9_exchange, 1, (some .int), [])
def mX9_copyToTarget : qM := (9, yX9_copyToTarget, cX9_copyToTarget, 2, (some .int), [])
def mX9_setMode : qM := (9, yX9_setMode, cX9_setMode, 3, (some .int), [])
def mX9_undo : qM := (9, yX9_undo, cX9_undo, 1, (some .int), [])
def mX9_write : qM := (9, yX9_write, cX9_write, 2, (some .int), [])
def mX9_written : qM := (9, yX9_written, cX9_written, 2, (some .char), [])
def mX9_checkVertex : qM := (9, yX9_checkVertex, cX9_checkVertex, 2, none, [])
def mX9_checkVertices : qM := (9, yX9_checkVertices, cX9_checkVertices, 5, none, [])
def mX9_checkEdge : qM := (9, yX9_checkEdge, cX9_checkEdge, 3, none, [])
def mX9_checkMode : qM := (9, yX9_checkMode, cX9_checkMode, 2, none, [])
def mX9_checkWhat : qM := (9, yX9_checkWhat, cX9_checkWhat, 2, none, [])
def mX9_checkPossible : qM := (9, yX9_checkPossible, cX9_checkPossible, 5, none, [])
def mX9_checkAlike : qM := (9, yX9_checkAlike, cX9_checkAlike, 1, none, [])
def mX9_choose : qM := (9, yX9_choose, cX9_choose, 2, (some (.object "SwitchGraphs$Graph")), [])
def mX9_remember : qM := (9, yX9_remember, cX9_remember, 1, none, [])
def mX9_partsWithEdges : qM := (9, yX9_partsWithEdges, cX9_partsWithEdges, 2, (some .int), [])
def mX9_separates : qM := (9, yX9_separates, cX9_separates, 3, (some .boolean), [])
def mX9_oneSwitchLeadsBeside : qM := (9, yX9_oneSwitchLeadsBeside, cX9_oneSwitchLeadsBeside, 3, (some .boolean), [])
def mX9_firstConnecting : qM := (9, yX9_firstConnecting, cX9_firstConnecting, 4, (some .int), [])
def mX9_mostSimplifying : qM := (9, yX9_mostSimplifying, cX9_mostSimplifying, 5, (some .int), [])
def mX10_init : qM := (10, yX10_init, cX10_init, 1, none, [])
def mX10_thrown : qM := (10, yX10_thrown, cX10_thrown, 1, (some .int), [])
def mX10_isIn : qM := (10, yX10_isIn, cX10_isIn, 3, (some .boolean), [])
def mX10_good : qM := (10, yX10_good, cX10_good, 2, (some .boolean), [])
def mX10_good_ : qM := (10, yX10_good_, cX10_good_, 3, (some .boolean), [])
def mX10_good__ : qM := (10, yX10_good__, cX10_good__, 4, (some .boolean), [])
def mX10_remember : qM := (10, yX10_remember, cX10_remember, 2, none, [])
def mX10_undo : qM := (10, yX10_undo, cX10_undo, 2, (some .int), [])
def mX10_putAside : qM := (10, yX10_putAside, cX10_putAside, 2, none, [])
def mX10_layBack : qM := (10, yX10_layBack, cX10_layBack, 2, none, [])
def mX10_at : qM := (10, yX10_at, cX10_at, 3, (some .int), [])
def mX10_many : qM := (10, yX10_many, cX10_many, 4, (some .int), [])
def mX10_adds : qM := (10, yX10_adds, cX10_adds, 5, none, [])
def mX10_empties : qM := (10, yX10_empties, cX10_empties, 3, none, [])
def mX10_edgesOf : qM := (10, yX10_edgesOf, cX10_edgesOf, 5, (some .int), [])
def mX10_degreeOf : qM := (10, yX10_degreeOf, cX10_degreeOf, 5, (some .int), [])
def mX10_append : qM := (10, yX10_append, cX10_append, 3, none, [])
def mX10_feed : qM := (10, yX10_feed, cX10_feed, 6, (some .int), [])
def mX10_byteAt : qM := (10, yX10_byteAt, cX10_byteAt, 2, (some .int), [])
def mX10_isLetter : qM := (10, yX10_isLetter, cX10_isLetter, 1, (some .boolean), [])
def mX10_isDigit : qM := (10, yX10_isDigit, cX10_isDigit, 1, (some .boolean), [])
def mX10_readWord : qM := (10, yX10_readWord, cX10_readWord, 1, none, [])
def mX10_readNumber : qM := (10, yX10_readNumber, cX10_readNumber, 1, none, [])
def mX10_advance : qM := (10, yX10_advance, cX10_advance, 2, (some .boolean), [])
def mX10_isWord : qM := (10, yX10_isWord, cX10_isWord, 3, (some .boolean), [])
def mX10_fail : qM := (10, yX10_fail, cX10_fail, 2, (some .boolean), [])
def mX10_number : qM := (10, yX10_number, cX10_number, 3, (some .boolean), [])
def mX10_closed : qM := (10, yX10_closed, cX10_closed, 1, (some .boolean), [])
def mX10_degreesStatement : qM := (10, yX10_degreesStatement, cX10_degreesStatement, 4, (some .boolean), [])
def mX10_verticesStatement : qM := (10, yX10_verticesStatement, cX10_verticesStatement, 1, (some .boolean), [])
def mX10_edgeStatement : qM := (10, yX10_edgeStatement, cX10_edgeStatement, 5, (some .boolean), [])
def mX10_modeStatement : qM := (10, yX10_modeStatement, cX10_modeStatement, 1, (some .boolean), [])
def mX10_firstStatement : qM := (10, yX10_firstStatement, cX10_firstStatement, 1, (some .boolean), [])
def mX10_statement : qM := (10, yX10_statement, cX10_statement, 1, (some .boolean), [])
def mX10_parse : qM := (10, yX10_parse, cX10_parse, 3, (some .boolean), [])
def mX10_load : qM := (10, yX10_load, cX10_load, 3, (some .int), [])
def mX10_errorKind : qM := (10, yX10_errorKind, cX10_errorKind, 1, (some .int), [])
def mX10_errorPosition : qM := (10, yX10_errorPosition, cX10_errorPosition, 1, (some .int), [])
def mX10_isVertex : qM := (10, yX10_isVertex, cX10_isVertex, 2, (some .boolean), [])
def mX10_areVertices : qM := (10, yX10_areVertices, cX10_areVertices, 3, (some .boolean), [])
def mX10_vertices : qM := (10, yX10_vertices, cX10_vertices, 1, (some .int), [])
def mX10_mode : qM := (10, yX10_mode, cX10_mode, 1, (some .int), [])
def mX10_table : qM := (10, yX10_table, cX10_table, 1, (some .int), [])
def mX10_edges : qM := (10, yX10_edges, cX10_edges, 2, (some .int), [])
def mX10_times : qM := (10, yX10_times, cX10_times, 4, (some .int), [])
def mX10_degree : qM := (10, yX10_degree, cX10_degree, 3, (some .int), [])
def mX10_loopsNow : qM := (10, yX10_loopsNow, cX10_loopsNow, 3, (some .int), [])
def mX10_loops : qM := (10, yX10_loops, cX10_loops, 1, (some .int), [])
def mX10_defectsNow : qM := (10, yX10_defectsNow, cX10_defectsNow, 4, (some .int), [])
def mX10_defects : qM := (10, yX10_defects, cX10_defects, 1, (some .int), [])
def mX10_isSimple : qM := (10, yX10_isSimple, cX10_isSimple, 1, (some .boolean), [])
def mX10_areJoined : qM := (10, yX10_areJoined, cX10_areJoined, 3, (some .boolean), [])
def mX10_neighbours : qM := (10, yX10_neighbours, cX10_neighbours, 4, (some .int), [])
def mX10_triangles : qM := (10, yX10_triangles, cX10_triangles, 5, (some .int), [])
def mX10_laysParts : qM := (10, yX10_laysParts, cX10_laysParts, 3, (some .int), [])
def mX10_spreads : qM := (10, yX10_spreads, cX10_spreads, 6, none, [])
def mX10_partsWithEdges : qM := (10, yX10_partsWithEdges, cX10_partsWithEdges, 6, (some .int), [])
def mX10_components : qM := (10, yX10_components, cX10_components, 1, (some .int), [])
def mX10_component : qM := (10, yX10_component, cX10_component, 3, (some .int), [])
def mX10_isConnected : qM := (10, yX10_isConnected, cX10_isConnected, 1, (some .boolean), [])
def mX10_isBridgeNow : qM := (10, yX10_isBridgeNow, cX10_isBridgeNow, 4, (some .boolean), [])
def mX10_isBridge : qM := (10, yX10_isBridge, cX10_isBridge, 4, (some .boolean), [])
def mX10_bridges : qM := (10, yX10_bridges, cX10_bridges, 4, (some .int), [])
def mX10_way : qM := (10, yX10_way, cX10_way, 6, (some .int), [])
def mX10_ordersDegrees : qM := (10, yX10_ordersDegrees, cX10_ordersDegrees, 4, none, [])
def mX10_sorted : qM := (10, yX10_sorted, cX10_sorted, 2, (some .int), [])
def mX10_slackOf : qM := (10, yX10_slackOf, cX10_slackOf, 4, (some .int), [])
def mX10_slack : qM := (10, yX10_slack, cX10_slack, 2, (some .int), [])
def mX10_isPossibleIn : qM := (10, yX10_isPossibleIn, cX10_isPossibleIn, 4, (some .boolean), [])
def mX10_isPossible : qM := (10, yX10_isPossible, cX10_isPossible, 2, (some .boolean), [])
def mX10_meanDegree : qM := (10, yX10_meanDegree, cX10_meanDegree, 1, (some .double), [])
def mX10_realisesByLoops : qM := (10, yX10_realisesByLoops, cX10_realisesByLoops, 3, none, [])
def mX10_neediest : qM := (10, yX10_neediest, cX10_neediest, 3, (some .int), [])
def mX10_freesAll : qM := (10, yX10_freesAll, cX10_freesAll, 2, none, [])
def mX10_joins : qM := (10, yX10_joins, cX10_joins, 5, none, [])
def mX10_realises : qM := (10, yX10_realises, cX10_realises, 3, none, [])
def mX10_isSamePair : qM := (10, yX10_isSamePair, cX10_isSamePair, 5, (some .boolean), [])
def mX10_reasonBy : qM := (10, yX10_reasonBy, cX10_reasonBy, 6, (some .int), [])
def mX10_wouldDouble : qM := (10, yX10_wouldDouble, cX10_wouldDouble, 6, (some .boolean), [])
def mX10_switches : qM := (10, yX10_switches, cX10_switches, 5, none, [])
def mX10_takesBack : qM := (10, yX10_takesBack, cX10_takesBack, 5, none, [])
def mX10_codeOf : qM := (10, yX10_codeOf, cX10_codeOf, 4, (some .int), [])
def mX10_partOf : qM := (10, yX10_partOf, cX10_partOf, 2, (some .int), [])
def mX10_switchesBy : qM := (10, yX10_switchesBy, cX10_switchesBy, 2, none, [])
def mX10_takesBackBy : qM := (10, yX10_takesBackBy, cX10_takesBackBy, 2, none, [])
def mX10_isFirstOf : qM := (10, yX10_isFirstOf, cX10_isFirstOf, 5, (some .boolean), [])
def mX10_laysList : qM := (10, yX10_laysList, cX10_laysList, 8, (some .int), [])
def mX10_reason : qM := (10, yX10_reason, cX10_reason, 5, (some .int), [])
def mX10_switches_ : qM := (10, yX10_switches_, cX10_switches_, 1, (some .int), [])
def mX10_switchAt : qM := (10, yX10_switchAt, cX10_switchAt, 4, (some .int), [])
def mX10_canSwitch : qM := (10, yX10_canSwitch, cX10_canSwitch, 6, (some .boolean), [])
def mX10_componentsBehind : qM := (10, yX10_componentsBehind, cX10_componentsBehind, 6, (some .int), [])
def mX10_differenceNow : qM := (10, yX10_differenceNow, cX10_differenceNow, 4, (some .int), [])
def mX10_nearest : qM := (10, yX10_nearest, cX10_nearest, 6, (some .int), [])
def mX10_areAlike : qM := (10, yX10_areAlike, cX10_areAlike, 3, (some .boolean), [])
def mX10_isAlike : qM := (10, yX10_isAlike, cX10_isAlike, 1, (some .boolean), [])
def mX10_difference : qM := (10, yX10_difference, cX10_difference, 1, (some .int), [])
def mX10_beyond : qM := (10, yX10_beyond, cX10_beyond, 3, (some .int), [])
def mX10_firstLacking : qM := (10, yX10_firstLacking, cX10_firstLacking, 3, (some .int), [])
def mX10_firstBeyond : qM := (10, yX10_firstBeyond, cX10_firstBeyond, 5, (some .int), [])
def mX10_goesPath : qM := (10, yX10_goesPath, cX10_goesPath, 7, (some .int), [])
def mX10_laysPath : qM := (10, yX10_laysPath, cX10_laysPath, 2, (some .int), [])
def mX10_pathLength : qM := (10, yX10_pathLength, cX10_pathLength, 1, (some .int), [])
def mX10_path : qM := (10, yX10_path, cX10_path, 5, (some .int), [])
def mX10_isOneAway : qM := (10, yX10_isOneAway, cX10_isOneAway, 7, (some .boolean), [])
def mX10_isTwoAway : qM := (10, yX10_isTwoAway, cX10_isTwoAway, 4, (some .boolean), [])
def mX10_distance : qM := (10, yX10_distance, cX10_distance, 1, (some .int), [])
def mX10_addEdge : qM := (10, yX10_addEdge, cX10_addEdge, 3, (some .int), [])
def mX10_removeEdge : qM := (10, yX10_removeEdge, cX10_removeEdge, 4, (some .int), [])
def mX10_switchEdges : qM := (10, yX10_switchEdges, cX10_switchEdges, 5, (some .int), [])
def mX10_realise : qM := (10, yX10_realise, cX10_realise, 2, (some .int), [])
def mX10_follow : qM := (10, yX10_follow, cX10_follow, 4, (some .int), [])
def mX10_connecting : qM := (10, yX10_connecting, cX10_connecting, 5, (some .int), [])
def mX10_connect : qM := (10, yX10_connect, cX10_connect, 2, (some .int), [])
def mX10_simplifying : qM := (10, yX10_simplifying, cX10_simplifying, 6, (some .int), [])
def mX10_simplify : qM := (10, yX10_simplify, cX10_simplify, 2, (some .int), [])
def mX10_exchange : qM := (10, yX10_exchange, cX10_exchange, 3, (some .int), [])
def mX10_copyToTarget : qM := (10, yX10_copyToTarget, cX10_copyToTarget, 3, (some .int), [])
def mX10_setMode : qM := (10, yX10_setMode, cX10_setMode, 3, (some .int), [])
def mX10_says : qM := (10, yX10_says, cX10_says, 2, none, [])
def mX10_saysNumber : qM := (10, yX10_saysNumber, cX10_saysNumber, 2, none, [])
def mX10_saysEdges : qM := (10, yX10_saysEdges, cX10_saysEdges, 4, none, [])
def mX10_write : qM := (10, yX10_write, cX10_write, 4, (some .int), [])
def mX10_written : qM := (10, yX10_written, cX10_written, 2, (some .char), [])
def mL_load : qM := (11, yL_load, cL_load, 4, (some .int), [(0, 9, 12, 13)])
def mL_times : qM := (11, yL_times, cL_times, 6, (some .int), [(0, 12, 15, 19)])
def mL_degree : qM := (11, yL_degree, cL_degree, 5, (some .int), [(0, 10, 13, 19)])
def mL_neighbours : qM := (11, yL_neighbours, cL_neighbours, 4, (some .int), [(0, 9, 12, 19)])
def mL_component : qM := (11, yL_component, cL_component, 4, (some .int), [(0, 9, 12, 19)])
def mL_isBridge : qM := (11, yL_isBridge, cL_isBridge, 5, (some .int), [(0, 17, 20, 19), (0, 17, 24, 35)])
def mL_way : qM := (11, yL_way, cL_way, 5, (some .int), [(0, 10, 13, 19)])
def mL_sorted : qM := (11, yL_sorted, cL_sorted, 4, (some .int), [(0, 9, 12, 19)])
def mL_slack : qM := (11, yL_slack, cL_slack, 4, (some .int), [(0, 9, 12, 19)])
def mL_isPossible : qM := (11, yL_isPossible, cL_isPossible, 4, (some .int), [(0, 16, 19, 13)])
def mL_reason : qM := (11, yL_reason, cL_reason, 7, (some .int), [(0, 14, 17, 19)])
def mL_switchAt : qM := (11, yL_switchAt, cL_switchAt, 5, (some .int), [(0, 10, 13, 19), (0, 10, 17, 13)])
def mL_componentsBehind : qM := (11, yL_componentsBehind, cL_componentsBehind, 7, (some .int), [(0, 14, 17, 19), (0, 14, 21, 61)])
def mL_nearest : qM := (11, yL_nearest, cL_nearest, 3, (some .int), [(0, 8, 11, 35)])
def mL_pathLength : qM := (11, yL_pathLength, cL_pathLength, 3, (some .int), [(0, 8, 11, 61)])
def mL_path : qM := (11, yL_path, cL_path, 5, (some .int), [(0, 10, 13, 61), (0, 10, 17, 19), (0, 10, 21, 13)])
def mL_distance : qM := (11, yL_distance, cL_distance, 3, (some .int), [(0, 8, 11, 61)])
def mL_addEdge : qM := (11, yL_addEdge, cL_addEdge, 5, (some .int), [(0, 10, 13, 19), (0, 10, 17, 61)])
def mL_removeEdge : qM := (11, yL_removeEdge, cL_removeEdge, 5, (some .int), [(0, 10, 13, 19), (0, 10, 17, 35)])
def mL_switchEdges : qM := (11, yL_switchEdges, cL_switchEdges, 7, (some .int), [(0, 14, 17, 19), (0, 14, 21, 61)])
def mL_realise : qM := (11, yL_realise, cL_realise, 4, (some .int), [(0, 9, 12, 13), (0, 9, 15, 61)])
def mL_follow : qM := (11, yL_follow, cL_follow, 4, (some .int), [(0, 9, 12, 13), (0, 9, 15, 61)])
def mL_setMode : qM := (11, yL_setMode, cL_setMode, 4, (some .int), [(0, 9, 12, 13)])
def mL_written : qM := (11, yL_written, cL_written, 4, (some .int), [(0, 9, 12, 19)])
def mL_law : qM := (11, yL_law, cL_law, 9, (some .boolean), [])
def qNm (c : Nat) : String := match c with
  | 0 => RX0
  | 1 => RX1
  | 2 => RX2
  | 3 => RX3
  | 4 => RX4
  | 5 => RX5
  | 6 => RX6
  | 7 => RX7
  | 8 => RX8
  | 9 => RX9
  | 10 => RX10
  | _ => RL
def qTfL_0 : List (Nat × Nat × Nat × Nat) := [(1, 9, 0, 0), (1, 15, 0, 1), (1, 19, 0, 2), (2, 11, 1, 0), (2, 15, 1, 1), (2, 18, 1, 2), (2, 22, 1, 3), (2, 26, 1, 4), (3, 9, 2, 0), (3, 15, 2, 1), (4, 9, 3, 0), (4, 15, 3, 1), (4, 18, 3, 2), (5, 11, 4, 0), (5, 18, 4, 1), (5, 22, 4, 2), (5, 28, 4, 3), (5, 32, 4, 4), (5, 36, 4, 5), (5, 39, 4, 6), (5, 42, 4, 7), (5, 45, 4, 8), (5, 48, 4, 9), (5, 51, 4, 10), (5, 54, 4, 11), (5, 57, 4, 12), (6, 9, 5, 0), (6, 15, 5, 1), (6, 18, 5, 2), (6, 21, 5, 3), (6, 25, 5, 4), (7, 9, 6, 0), (7, 15, 6, 1), (8, 9, 7, 0), (8, 18, 7, 1), (8, 22, 7, 2), (9, 10, 8, 0), (9, 19, 8, 1), (9, 23, 8, 2), (9, 26, 8, 3), (9, 29, 8, 4), (9, 35, 8, 5), (9, 42, 8, 6), (9, 49, 8, 7), (9, 56, 8, 8), (9, 63, 8, 9), (9, 70, 8, 10), (9, 74, 8, 11), (10, 7, 9, 0), (10, 13, 9, 1), (10, 16, 9, 2), (10, 19, 9, 5), (10, 22, 9, 8), (10, 26, 9, 17), (10, 29, 9, 18), (10, 32, 9, 19), (10, 35, 9, 20), (10, 38, 9, 21), (10, 41, 9, 22), (10, 45, 9, 23)]
def qTfL_1 : List (Nat × Nat × Nat × Nat) := [(10, 48, 9, 24), (10, 51, 9, 25), (10, 54, 9, 4), (10, 61, 9, 3), (10, 71, 9, 6), (10, 78, 9, 9), (10, 81, 9, 11), (10, 92, 9, 10), (10, 95, 9, 12), (10, 98, 9, 13), (10, 119, 9, 14), (10, 122, 9, 15), (10, 132, 9, 16), (10, 197, 9, 7), (10, 349, 9, 26)]
def qTfL : List (Nat × Nat × Nat × Nat) := qTfL_0 ++ qTfL_1
def qTcL_0 : List (Nat × Nat × Nat × qM × Nat) := [(0, 9, 1, mX0_vertexOf, 2), (0, 13, 1, mX0_of, 4), (1, 3, 7, mX0_of, 0), (1, 22, 1, mX0_vertexOf, 2), (1, 28, 0, mX1_put, 3), (1, 32, 0, mX1_between, 2), (1, 35, 0, mX1_loopCount, 0), (1, 39, 5, mX0_of, 2), (1, 44, 0, mX1_commonNeighboursBehind, 2), (1, 47, 0, mX1_degreeOf, 1), (2, 1, 7, mX0_of, 0), (2, 29, 3, mX1_init, 0), (2, 30, 0, mX1_become, 1), (2, 34, 6, mX0_of, 2), (2, 40, 5, mX0_of, 2), (3, 3, 7, mX0_of, 0), (3, 19, 0, mX1_vertexCount, 0), (3, 25, 0, mX1_between, 2), (3, 29, 0, mX3_printEdges, 3), (3, 33, 0, mX3_append, 1), (3, 37, 0, mX3_printDigit, 1), (4, 3, 7, mX0_of, 0), (4, 22, 0, mX1_vertexCount, 0), (4, 28, 0, mX1_between, 2), (4, 32, 0, mX4_merge, 2), (4, 36, 5, mX0_of, 2), (4, 41, 6, mX0_of, 2), (4, 44, 0, mX4_countBefore, 1), (4, 48, 0, mX1_degreeOf, 1), (4, 51, 0, mX4_stepOn, 2), (5, 3, 7, mX0_of, 0), (5, 17, 3, mX1_init, 0), (5, 27, 3, mX6_init, 0), (5, 60, 6, mX0_of, 2), (5, 66, 0, mX5_advance, 0), (5, 69, 0, mX5_readFirst, 0), (5, 73, 0, mX5_readOther, 0), (5, 76, 0, mX5_begin, 1), (5, 82, 0, mX5_isWord, 1), (5, 86, 0, mX5_readVertices, 0), (5, 91, 0, mX5_readDegrees, 0), (5, 94, 0, mX5_fail, 1), (5, 100, 0, mX5_readEdge, 1), (5, 106, 0, mX5_readModeNumber, 0), (5, 109, 0, mX5_expectNumber, 2), (5, 113, 0, mX5_expectSemicolon, 0), (5, 116, 0, mX6_clear, 0), (5, 119, 0, mX6_isFull, 0), (5, 122, 0, mX6_append, 1), (5, 125, 0, mX6_total, 0), (5, 129, 0, mX6_length, 0), (5, 131, 0, mX6_build, 2), (5, 135, 0, mX1_vertexCount, 0), (5, 138, 0, mX1_edgeCount, 0), (5, 141, 0, mX1_put, 3), (5, 145, 0, mX1_clear, 1), (5, 147, 8, mX0_of, 0), (5, 150, 0, mX5_byteAt, 1), (5, 154, 9, mX0_of, 1), (5, 158, 1, mX5_isBlank, 1)]
def qTcL_1 : List (Nat × Nat × Nat × qM × Nat) := [(5, 161, 1, mX5_isLetter, 1), (5, 164, 0, mX5_takeWord, 0), (5, 167, 1, mX5_isDigit, 1), (5, 170, 0, mX5_takeNumber, 0), (6, 3, 7, mX0_of, 0), (6, 28, 0, mX6_isFull, 0), (6, 32, 0, mX6_insertFalling, 1), (6, 36, 0, mX6_clear, 0), (6, 39, 0, mX1_vertexCount, 0), (6, 45, 0, mX1_degreeOf, 1), (6, 49, 0, mX6_append, 1), (6, 52, 6, mX0_of, 2), (6, 58, 0, mX6_hasNoNegativeSlack, 0), (6, 61, 0, mX6_slackOf, 1), (6, 64, 0, mX1_clear, 1), (6, 66, 0, mX6_buildWithLoops, 1), (6, 70, 0, mX6_buildWithoutLoops, 1), (6, 73, 0, mX6_buildSimple, 1), (6, 76, 0, mX1_put, 3), (6, 80, 0, mX6_neediestBut, 1), (6, 83, 0, mX6_join, 3), (7, 3, 7, mX0_of, 0), (7, 19, 0, mX1_vertexCount, 0), (7, 25, 0, mX1_between, 2), (7, 29, 0, mX7_fillFrom, 4), (7, 33, 1, mX0_isFirstOfFour, 4), (7, 39, 0, mX1_reasonAgainst, 5), (7, 43, 1, mX0_of, 4), (7, 47, 0, mX7_append, 1), (8, 3, 7, mX0_of, 0), (8, 17, 3, mX1_init, 0), (8, 26, 0, mX1_become, 1), (8, 30, 0, mX8_nextTowards, 1), (8, 34, 0, mX1_exchangeEdges, 1), (8, 38, 0, mX1_vertexCount, 0), (8, 42, 0, mX1_between, 2), (8, 46, 0, mX8_codeThatJoins, 3), (8, 50, 0, mX8_endOfSurplus, 3), (8, 53, 1, mX0_of, 4), (9, 1, 7, mX0_of, 0), (9, 9, 3, mX5_init, 0), (9, 18, 3, mX1_init, 0), (9, 34, 3, mX4_init, 0), (9, 41, 3, mX6_init, 0), (9, 48, 3, mX7_init, 0), (9, 55, 3, mX8_init, 0), (9, 62, 2, mX2_init, 0), (9, 69, 3, mX3_init, 0), (9, 78, 0, mX5_hasRoom, 0), (9, 82, 0, mX5_append, 1), (9, 86, 0, mX5_fedBytes, 0), (9, 97, 0, mX5_readText, 1), (9, 101, 0, mX5_readGraph, 0), (9, 105, 0, mX1_become, 1), (9, 109, 0, mX5_readTarget, 0), (9, 112, 0, mX5_readMode, 0), (9, 115, 0, mX2_forget, 0), (9, 118, 0, mX1_edgeCount, 0), (9, 121, 0, mX5_kindOfError, 0), (9, 124, 0, mX5_placeOfError, 0)]
def qTcL_2 : List (Nat × Nat × Nat × qM × Nat) := [(9, 127, 0, mX1_vertexCount, 0), (9, 130, 0, mX9_choose, 1), (9, 134, 0, mX9_checkVertex, 1), (9, 137, 0, mX1_between, 2), (9, 141, 0, mX1_degreeOf, 1), (9, 145, 0, mX1_loopCount, 0), (9, 148, 0, mX1_defectCount, 0), (9, 151, 0, mX1_neighbourCount, 1), (9, 154, 0, mX1_triangleCount, 0), (9, 157, 0, mX4_find, 1), (9, 160, 0, mX4_count, 0), (9, 163, 0, mX4_numberOf, 1), (9, 166, 0, mX9_partsWithEdges, 1), (9, 170, 0, mX9_checkEdge, 2), (9, 174, 0, mX9_separates, 2), (9, 178, 0, mX4_stepsBetween, 3), (9, 182, 0, mX6_take, 1), (9, 185, 0, mX6_greatest, 1), (9, 193, 0, mX6_slackOf, 1), (9, 196, 0, mX9_checkMode, 1), (9, 199, 0, mX6_allows, 1), (9, 202, 0, mX9_checkVertices, 4), (9, 206, 0, mX1_reasonAgainst, 5), (9, 210, 0, mX7_fill, 2), (9, 214, 0, mX7_length, 0), (9, 219, 0, mX9_checkWhat, 1), (9, 222, 0, mX7_codeAt, 1), (9, 225, 1, mX0_vertexOf, 2), (9, 230, 0, mX9_checkPossible, 4), (9, 233, 1, mX0_of, 4), (9, 237, 0, mX1_exchangeEdges, 1), (9, 245, 0, mX1_surplusOver, 1), (9, 248, 1, mX0_backOf, 1), (9, 251, 0, mX1_hasDegreesOf, 1), (9, 255, 0, mX9_checkAlike, 0), (9, 258, 0, mX8_find, 2), (9, 261, 0, mX8_length, 0), (9, 264, 0, mX8_codeAt, 1), (9, 265, 0, mX9_oneSwitchLeadsBeside, 0), (9, 273, 0, mX9_remember, 0), (9, 276, 0, mX1_put, 3), (9, 282, 0, mX6_build, 2), (9, 287, 0, mX9_firstConnecting, 0), (9, 290, 0, mX9_mostSimplifying, 0), (9, 293, 0, mX2_length, 0), (9, 294, 0, mX2_stepBack, 0), (9, 297, 0, mX2_lastGraph, 0), (9, 300, 0, mX2_lastTarget, 0), (9, 303, 0, mX2_lastMode, 0), (9, 306, 0, mX3_print, 1), (9, 309, 0, mX3_length, 0), (9, 312, 0, mX3_signAt, 1), (9, 328, 0, mX2_remember, 3), (9, 331, 0, mX4_countWithEdges, 1), (9, 334, 0, mX4_areTogether, 2), (10, 1, 7, mX0_of, 0), (10, 57, 0, mX10_good__, 3), (10, 64, 1, mX10_at, 3), (10, 68, 0, mX10_many, 3), (10, 74, 0, mX10_append, 1)]
def qTcL_3 : List (Nat × Nat × Nat × qM × Nat) := [(10, 84, 0, mX10_byteAt, 1), (10, 88, 1, mX10_isLetter, 1), (10, 101, 1, mX10_isDigit, 1), (10, 104, 0, mX10_readWord, 0), (10, 107, 0, mX10_readNumber, 0), (10, 110, 8, mX0_of, 0), (10, 115, 9, mX0_of, 1), (10, 125, 0, mX10_fail, 1), (10, 128, 1, mX10_isIn, 3), (10, 135, 0, mX10_advance, 0), (10, 139, 0, mX10_number, 2), (10, 143, 0, mX10_realisesByLoops, 0), (10, 146, 0, mX10_edgesOf, 1), (10, 149, 0, mX10_adds, 4), (10, 155, 0, mX10_isWord, 1), (10, 159, 0, mX10_verticesStatement, 0), (10, 164, 0, mX10_degreesStatement, 0), (10, 169, 0, mX10_edgeStatement, 1), (10, 176, 0, mX10_modeStatement, 0), (10, 179, 0, mX10_firstStatement, 0), (10, 182, 0, mX10_closed, 0), (10, 185, 0, mX10_statement, 0), (10, 188, 0, mX10_good, 1), (10, 191, 0, mX10_putAside, 0), (10, 194, 0, mX10_parse, 1), (10, 200, 0, mX10_layBack, 0), (10, 203, 0, mX10_isVertex, 1), (10, 206, 1, mX10_table, 1), (10, 210, 0, mX10_areVertices, 2), (10, 213, 0, mX10_degreeOf, 2), (10, 217, 0, mX10_loopsNow, 0), (10, 220, 5, mX0_of, 2), (10, 225, 0, mX10_defectsNow, 0), (10, 228, 0, mX10_areJoined, 2), (10, 231, 0, mX10_spreads, 2), (10, 235, 0, mX10_laysParts, 0), (10, 238, 6, mX0_of, 2), (10, 241, 0, mX10_partsWithEdges, 0), (10, 244, 0, mX10_good_, 2), (10, 247, 0, mX10_isBridgeNow, 2), (10, 250, 0, mX10_ordersDegrees, 0), (10, 253, 0, mX10_slackOf, 1), (10, 256, 0, mX10_isPossibleIn, 1), (10, 259, 0, mX10_empties, 1), (10, 262, 0, mX10_freesAll, 0), (10, 265, 0, mX10_neediest, 0), (10, 268, 0, mX10_joins, 2), (10, 271, 0, mX10_isSamePair, 4), (10, 275, 0, mX10_wouldDouble, 4), (10, 278, 1, mX10_partOf, 2), (10, 281, 0, mX10_switches, 4), (10, 284, 0, mX10_takesBack, 4), (10, 287, 1, mX10_codeOf, 4), (10, 291, 1, mX10_isFirstOf, 4), (10, 294, 0, mX10_reasonBy, 5), (10, 298, 0, mX10_laysList, 1), (10, 301, 0, mX10_canSwitch, 4), (10, 304, 0, mX10_switchesBy, 1), (10, 307, 0, mX10_differenceNow, 0), (10, 310, 0, mX10_takesBackBy, 1)]
def qTcL_4 : List (Nat × Nat × Nat × qM × Nat) := [(10, 313, 0, mX10_areAlike, 0), (10, 316, 0, mX10_beyond, 2), (10, 319, 0, mX10_firstLacking, 0), (10, 322, 0, mX10_firstBeyond, 3), (10, 325, 0, mX10_goesPath, 0), (10, 328, 0, mX10_laysPath, 0), (10, 331, 0, mX10_isOneAway, 0), (10, 334, 0, mX10_isTwoAway, 0), (10, 337, 0, mX10_remember, 0), (10, 340, 0, mX10_realises, 1), (10, 343, 0, mX10_connecting, 0), (10, 346, 0, mX10_simplifying, 0), (10, 352, 0, mX10_saysNumber, 1), (10, 355, 0, mX10_says, 1), (10, 358, 0, mX10_saysEdges, 3), (11, 7, 0, mX9_load, 1), (11, 15, 0, mX9_times, 3), (11, 21, 0, mX9_degree, 2), (11, 25, 0, mX9_neighbours, 1), (11, 28, 0, mX9_component, 1), (11, 31, 0, mX9_isBridge, 2), (11, 37, 0, mX9_way, 2), (11, 41, 0, mX9_sorted, 1), (11, 44, 0, mX9_slack, 1), (11, 47, 0, mX9_isPossible, 1), (11, 51, 0, mX9_reason, 4), (11, 55, 0, mX9_switchAt, 2), (11, 58, 0, mX9_componentsBehind, 4), (11, 63, 0, mX9_nearest, 0), (11, 67, 0, mX9_pathLength, 0), (11, 70, 0, mX9_path, 2), (11, 73, 0, mX9_distance, 0), (11, 76, 0, mX9_addEdge, 2), (11, 79, 0, mX9_removeEdge, 2), (11, 82, 0, mX9_switchEdges, 4), (11, 85, 0, mX9_realise, 1), (11, 88, 0, mX9_follow, 1), (11, 91, 0, mX9_setMode, 1), (11, 94, 0, mX9_written, 1), (11, 98, 2, mX9_init, 0), (11, 101, 2, mX10_init, 0), (11, 102, 0, mX9_feed, 5), (11, 106, 0, mX10_feed, 5), (11, 107, 4, mL_load, 3), (11, 112, 0, mX10_load, 1), (11, 113, 0, mX10_thrown, 0), (11, 116, 0, mX9_errorKind, 0), (11, 119, 0, mX10_errorKind, 0), (11, 120, 0, mX9_errorPosition, 0), (11, 123, 0, mX10_errorPosition, 0), (11, 124, 0, mX9_vertices, 0), (11, 127, 0, mX10_vertices, 0), (11, 128, 0, mX9_mode, 0), (11, 131, 0, mX10_mode, 0), (11, 132, 0, mX9_edges, 1), (11, 136, 0, mX10_edges, 1), (11, 137, 4, mL_times, 5), (11, 140, 0, mX10_times, 3), (11, 141, 4, mL_degree, 4), (11, 144, 0, mX10_degree, 2)]
def qTcL_5 : List (Nat × Nat × Nat × qM × Nat) := [(11, 145, 0, mX9_loops, 0), (11, 148, 0, mX10_loops, 0), (11, 149, 0, mX9_defects, 0), (11, 152, 0, mX10_defects, 0), (11, 153, 0, mX9_isSimple, 0), (11, 157, 0, mX10_isSimple, 0), (11, 158, 4, mL_neighbours, 3), (11, 160, 0, mX10_neighbours, 1), (11, 161, 0, mX9_triangles, 0), (11, 164, 0, mX10_triangles, 0), (11, 165, 0, mX9_components, 0), (11, 168, 0, mX10_components, 0), (11, 169, 4, mL_component, 3), (11, 171, 0, mX10_component, 1), (11, 172, 0, mX9_isConnected, 0), (11, 175, 0, mX10_isConnected, 0), (11, 176, 4, mL_isBridge, 4), (11, 179, 0, mX10_isBridge, 2), (11, 180, 0, mX9_bridges, 0), (11, 183, 0, mX10_bridges, 0), (11, 184, 4, mL_way, 4), (11, 186, 0, mX10_way, 2), (11, 187, 4, mL_sorted, 3), (11, 189, 0, mX10_sorted, 1), (11, 190, 4, mL_slack, 3), (11, 192, 0, mX10_slack, 1), (11, 193, 4, mL_isPossible, 3), (11, 195, 0, mX10_isPossible, 1), (11, 196, 0, mX9_meanDegree, 0), (11, 200, 0, mX10_meanDegree, 0), (11, 201, 4, mL_reason, 6), (11, 204, 0, mX10_reason, 4), (11, 205, 0, mX9_switches, 0), (11, 208, 0, mX10_switches_, 0), (11, 209, 4, mL_switchAt, 4), (11, 211, 0, mX10_switchAt, 2), (11, 212, 4, mL_componentsBehind, 6), (11, 214, 0, mX10_componentsBehind, 4), (11, 215, 4, mL_nearest, 2), (11, 218, 0, mX10_nearest, 0), (11, 219, 0, mX9_isAlike, 0), (11, 222, 0, mX10_isAlike, 0), (11, 223, 0, mX9_difference, 0), (11, 226, 0, mX10_difference, 0), (11, 227, 4, mL_pathLength, 2), (11, 229, 0, mX10_pathLength, 0), (11, 230, 4, mL_path, 4), (11, 232, 0, mX10_path, 2), (11, 233, 4, mL_distance, 2), (11, 235, 0, mX10_distance, 0), (11, 236, 4, mL_addEdge, 4), (11, 238, 0, mX10_addEdge, 2), (11, 239, 4, mL_removeEdge, 4), (11, 241, 0, mX10_removeEdge, 2), (11, 242, 4, mL_switchEdges, 6), (11, 244, 0, mX10_switchEdges, 4), (11, 245, 4, mL_realise, 3), (11, 247, 0, mX10_realise, 1), (11, 248, 4, mL_follow, 3), (11, 250, 0, mX10_follow, 1)]
def qTcL_6 : List (Nat × Nat × Nat × qM × Nat) := [(11, 251, 0, mX9_connect, 0), (11, 254, 0, mX10_connect, 0), (11, 255, 0, mX9_simplify, 0), (11, 258, 0, mX10_simplify, 0), (11, 259, 0, mX9_exchange, 0), (11, 262, 0, mX10_exchange, 0), (11, 263, 0, mX9_copyToTarget, 0), (11, 266, 0, mX10_copyToTarget, 0), (11, 267, 4, mL_setMode, 3), (11, 269, 0, mX10_setMode, 1), (11, 270, 0, mX9_undo, 0), (11, 273, 0, mX10_undo, 0), (11, 274, 0, mX9_write, 1), (11, 277, 0, mX10_write, 1), (11, 278, 4, mL_written, 3), (11, 280, 0, mX10_written, 1)]
def qTcL : List (Nat × Nat × Nat × qM × Nat) := qTcL_0 ++ qTcL_1 ++ qTcL_2 ++ qTcL_3 ++ qTcL_4 ++ qTcL_5 ++ qTcL_6
def qTnL_0 : List (Nat × Nat × Nat) := [(2, 9, 0), (5, 15, 0), (5, 25, 5), (8, 15, 0), (9, 7, 4), (9, 16, 0), (9, 32, 3), (9, 39, 5), (9, 46, 6), (9, 53, 7), (9, 60, 1), (9, 67, 2), (11, 8, 8), (11, 99, 9)]
def qTnL : List (Nat × Nat × Nat) := qTnL_0
def qTsL_0 : List (Nat × Nat × Nat) := [(5, 80, 0), (5, 89, 1), (5, 98, 2), (5, 104, 3), (5, 105, 4), (10, 153, 5), (10, 162, 6), (10, 167, 7), (10, 172, 8), (10, 174, 9)]
def qTsL : List (Nat × Nat × Nat) := qTsL_0
def qTx1 : List String := ["vertices", "degrees", "edge", "target", "mode", "vertices", "degrees", "edge", "target", "mode"]
def qTxB : List (List Int) := [[118, 101, 114, 116, 105, 99, 101, 115], [100, 101, 103, 114, 101, 101, 115], [101, 100, 103, 101], [116, 97, 114, 103, 101, 116], [109, 111, 100, 101], [118, 101, 114, 116, 105, 99, 101, 115], [100, 101, 103, 114, 101, 101, 115], [101, 100, 103, 101], [116, 97, 114, 103, 101, 116], [109, 111, 100, 101]]
def qTkL_0 : List (Nat × Nat × Nat) := [(11, 13, 1), (11, 19, 0), (11, 35, 2), (11, 61, 3)]
def qTkL : List (Nat × Nat × Nat) := qTkL_0
def qTxL_0 : List (Nat × Nat × Nat × Nat × Nat × Bool × String) := [(9, 90, 92, 94, 1, false, "the buffer has no such number of bytes"), (9, 90, 285, 94, 1, true, "the number of switches is 0 to 16"), (9, 90, 320, 94, 1, true, "the modes are 0 to 2"), (9, 90, 322, 94, 1, true, "the vertices of a switch are 0 to 3"), (9, 188, 190, 192, 0, false, "there is no such slack"), (9, 188, 217, 192, 0, false, "there is no such switch"), (9, 188, 262, 192, 0, true, "the path has no such switch"), (9, 188, 310, 192, 0, true, "the output has no such character"), (9, 188, 316, 192, 0, true, "there is no such vertex"), (9, 240, 242, 244, 2, false, "no switch is possible"), (9, 240, 318, 244, 2, true, "there is no such edge"), (9, 268, 270, 272, 3, true, "the graph has 16 edges"), (9, 268, 280, 272, 3, true, "the degrees have no realisation in this mode"), (9, 268, 324, 272, 3, true, "the switch is not possible"), (9, 268, 326, 272, 3, true, "the graph and the target have other degrees")]
def qTxL : List (Nat × Nat × Nat × Nat × Nat × Bool × String) := qTxL_0
def qTf (c i : Nat) : Option (Nat × Nat) := (qTfL.find? (fun e => e.1 == c && e.2.1 == i)).map (fun e => e.2.2)
def qTc (c i : Nat) : Option (Nat × qM × Nat) := (qTcL.find? (fun e => e.1 == c && e.2.1 == i)).map (fun e => e.2.2)
def qTn (c i : Nat) : Option Nat := (qTnL.find? (fun e => e.1 == c && e.2.1 == i)).map (fun e => e.2.2)
def qTs (c i : Nat) : Option Nat := (qTsL.find? (fun e => e.1 == c && e.2.1 == i)).map (fun e => e.2.2)
def qTk (c i : Nat) : Option Nat := (qTkL.find? (fun e => e.1 == c && e.2.1 == i)).map (fun e => e.2.2)
def qTx (c ik is ic : Nat) (w : Bool) : Option Nat := (qTxL.find? (fun e => e.1 == c && e.2.1 == ik && e.2.2.1 == is && e.2.2.2.1 == ic && e.2.2.2.2.2.1 == w)).map (fun e => e.2.2.2.2.1)
set_option maxRecDepth 20000 in
theorem qTfL_w : qTfL.map (fun e => Cond.fieldLink (qNm e.1) e.2.1 ((vwCl.getD e.2.2.1 (RX1, TX1, 3)).2.1 e.2.2.2).1 ((vwCl.getD e.2.2.1 (RX1, TX1, 3)).2.1 e.2.2.2).2.1 ((vwCl.getD e.2.2.1 (RX1, TX1, 3)).2.1 e.2.2.2).2.2.1) = [(3, 0), (3, 1), (3, 2), (4, 10), (4, 11), (4, 12), (4, 13), (4, 14), (4, 19), (4, 20), (3, 14), (3, 15), (3, 16), (2, 5), (2, 7), (2, 8), (2, 10), (2, 11), (2, 12), (2, 13), (2, 14), (2, 15), (2, 16), (2, 17), (2, 18), (2, 19), (3, 6), (3, 7), (3, 8), (3, 9), (3, 10), (3, 20), (3, 21), (4, 1), (4, 3), (4, 4), (0, 16), (0, 20), (0, 21), (0, 22), (0, 23), (1, 3), (1, 7), (1, 11), (1, 15), (1, 19), (1, 23), (2, 0), (5, 1), (5, 2), (5, 3), (5, 4), (5, 5), (5, 6), (5, 7), (5, 8), (5, 9), (5, 10), (5, 12), (5, 13), (5, 14), (5, 15), (6, 12), (16, 11), (6, 13), (17, 3), (17, 4), (17, 10), (17, 5), (18, 5), (16, 8), (16, 10), (18, 20), (16, 9), (58, 23)].filterMap qpl := by decide +kernel
def qTcM (mo : Nat) : List (Nat × Nat × Nat × qM × Nat) := qTcL.filter (fun e => e.2.2.1 == mo)
set_option maxRecDepth 20000 in
theorem qTc0_l : (qTcM 0).map (fun e => Cond.methodLink (qNm e.1) e.2.1 e.2.2.2.1.2.1) = [(43, 8), (25, 9), (26, 21), (28, 18), (45, 16), (51, 3), (58, 1), (58, 2), (58, 3), (58, 7), (58, 11), (29, 10), (29, 11), (29, 12), (29, 22), (31, 18), (34, 13), (7, 13), (8, 14), (14, 10), (8, 18), (9, 2), (11, 7), (11, 23), (11, 15), (14, 14), (15, 3), (11, 11), (11, 19), (12, 3), (12, 7), (12, 11), (12, 20), (13, 0), (13, 4), (14, 18), (14, 22), (15, 2), (8, 22), (7, 17), (8, 3), (8, 10), (12, 15), (12, 16), (35, 8), (35, 9), (35, 10), (35, 11), (37, 10), (37, 14), (13, 8), (13, 9), (13, 17), (14, 5), (13, 13), (13, 21), (14, 1), (39, 22), (39, 23), (40, 0), (40, 11), (40, 13), (47, 0), (47, 1), (47, 16), (47, 5), (47, 6), (47, 7), (47, 11), (5, 20), (6, 0), (6, 4), (7, 5), (15, 7), (15, 11), (15, 15), (15, 19), (15, 23), (16, 3), (21, 12), (22, 0), (22, 12), (23, 5), (24, 0), (24, 6), (25, 5), (25, 22), (26, 14), (27, 22), (28, 14), (29, 6), (29, 18), (30, 21), (31, 10), (32, 11), (32, 17), (34, 9), (35, 4), (35, 12), (36, 7), (37, 2), (37, 6), (38, 14), (38, 18), (39, 18), (40, 17), (41, 21), (42, 1), (42, 20), (43, 3), (44, 8), (45, 12), (46, 16), (46, 20), (47, 17), (49, 4), (49, 19), (50, 18), (32, 21), (52, 17), (54, 5), (54, 21), (56, 16), (56, 20), (57, 1), (57, 5), (57, 9), (57, 21), (58, 15), (59, 19), (50, 22), (31, 14), (32, 22), (33, 10), (20, 16), (6, 14), (17, 11), (17, 18), (18, 1), (19, 1), (17, 6), (18, 21), (19, 9), (20, 12), (19, 17), (18, 10), (18, 16), (19, 5), (20, 8), (20, 20), (18, 6), (20, 0), (20, 4), (16, 15), (16, 19), (16, 23), (21, 0), (24, 18), (24, 14), (25, 14), (26, 6), (27, 2), (28, 6), (30, 10), (30, 6), (31, 23), (33, 6), (33, 14), (35, 20), (36, 15), (37, 19), (19, 13), (53, 2), (53, 6), (53, 10), (39, 6), (39, 10), (43, 17), (43, 21), (39, 2), (41, 1), (43, 13), (44, 20), (45, 0), (45, 4), (45, 21), (48, 13), (48, 9), (48, 17), (48, 5), (48, 1), (50, 3), (50, 7), (51, 8), (52, 22), (54, 13), (55, 5), (59, 8), (59, 4), (59, 0), (6, 23), (23, 20), (25, 1), (27, 18), (30, 17), (32, 7), (34, 5), (35, 0), (36, 3), (36, 22), (38, 10), (41, 17), (42, 16), (44, 4), (46, 12), (49, 0), (49, 15), (50, 14), (51, 15), (52, 2), (52, 13), (53, 17), (56, 4), (59, 15), (5, 16), (6, 8), (16, 4), (21, 4), (21, 8), (21, 16), (21, 20), (22, 4), (22, 8), (22, 13), (22, 17), (22, 21), (23, 1), (23, 9), (24, 10), (25, 10), (25, 18), (26, 2), (26, 10), (26, 22), (27, 7), (27, 11), (28, 2), (28, 10), (28, 22), (29, 2), (30, 2), (31, 1), (31, 6), (31, 19), (33, 2), (33, 18), (33, 22), (34, 17), (35, 16), (36, 11), (37, 15), (37, 23), (38, 3), (38, 22), (39, 14), (40, 21), (42, 8), (43, 9), (44, 16), (45, 8), (45, 17), (46, 1), (46, 5), (47, 21), (49, 8), (49, 23), (51, 4), (51, 19), (52, 6), (52, 18), (53, 21), (54, 1), (54, 9), (54, 17), (55, 1), (55, 9), (55, 13), (55, 17), (55, 21), (56, 8), (56, 12), (57, 13), (57, 17), (58, 19), (59, 23)].filterMap qpl := by decide +kernel
set_option maxRecDepth 20000 in
theorem qTc0_c_0 : (qTcL_0.filter (fun e => e.2.2.1 == 0)).map (fun e => Cond.code e.2.2.2.1.2.1 e.2.2.2.1.2.2.1 e.2.2.2.1.2.2.2.1 e.2.2.2.1.2.2.2.2.1) = [(13, 16), (24, 9), (26, 1), (28, 21), (25, 8), (15, 14), (14, 21), (24, 9), (58, 6), (58, 10), (58, 14), (14, 21), (24, 9), (29, 15), (30, 1), (25, 8), (34, 16), (7, 16), (8, 17), (14, 13), (8, 21), (9, 5), (11, 10), (12, 2), (11, 18), (14, 17), (15, 6), (11, 14), (11, 22), (12, 6), (12, 10), (12, 14), (12, 23), (13, 3), (13, 7), (14, 21), (15, 1), (13, 16), (9, 1), (7, 20)].filterMap qpl := by decide +kernel
set_option maxRecDepth 20000 in
theorem qTc0_c_1 : (qTcL_1.filter (fun e => e.2.2.1 == 0)).map (fun e => Cond.code e.2.2.2.1.2.1 e.2.2.2.1.2.2.1 e.2.2.2.1.2.2.2.1 e.2.2.2.1.2.2.2.2.1) = [(8, 6), (8, 13), (12, 10), (12, 19), (12, 6), (14, 21), (25, 8), (12, 14), (37, 13), (36, 10), (9, 1), (13, 12), (13, 20), (14, 8), (13, 16), (14, 0), (14, 4), (14, 21), (24, 9), (40, 3), (38, 21), (40, 16), (15, 14), (47, 4), (43, 6), (14, 21), (24, 9), (47, 10), (47, 14), (5, 23), (6, 3), (6, 7), (7, 8), (15, 10), (15, 14), (15, 18), (15, 22), (16, 2), (15, 1), (21, 15), (22, 3)].filterMap qpl := by decide +kernel
set_option maxRecDepth 20000 in
theorem qTc0_c_2 : (qTcL_2.filter (fun e => e.2.2.1 == 0)).map (fun e => Cond.code e.2.2.2.1.2.1 e.2.2.2.1.2.2.1 e.2.2.2.1.2.2.2.1 e.2.2.2.1.2.2.2.2.1) = [(14, 21), (23, 8), (24, 3), (24, 9), (25, 8), (26, 1), (26, 17), (28, 1), (28, 17), (29, 9), (29, 21), (31, 0), (31, 13), (32, 14), (32, 20), (34, 12), (35, 7), (35, 15), (36, 10), (37, 5), (37, 9), (38, 17), (38, 21), (39, 21), (40, 20), (42, 0), (42, 4), (42, 23), (43, 6), (44, 11), (45, 15), (46, 19), (46, 23), (47, 20), (49, 7), (49, 22), (50, 21), (13, 16), (13, 7), (54, 8), (55, 0), (56, 19), (56, 23), (57, 4), (57, 8), (57, 12), (58, 0), (58, 18), (59, 22), (51, 1), (31, 17), (33, 1), (33, 13), (20, 19), (6, 17)].filterMap qpl := by decide +kernel
set_option maxRecDepth 20000 in
theorem qTc0_c_3 : (qTcL_3.filter (fun e => e.2.2.1 == 0)).map (fun e => Cond.code e.2.2.2.1.2.1 e.2.2.2.1.2.2.1 e.2.2.2.1.2.2.2.1 e.2.2.2.1.2.2.2.2.1) = [(17, 14), (17, 21), (18, 4), (19, 4), (17, 9), (19, 0), (19, 12), (20, 15), (19, 20), (18, 13), (18, 19), (19, 8), (20, 11), (20, 23), (18, 9), (20, 3), (20, 7), (16, 18), (16, 22), (17, 2), (21, 3), (24, 21), (24, 17), (25, 17), (26, 9), (27, 5), (28, 9), (30, 13), (30, 9), (32, 2), (33, 9), (33, 17), (35, 23), (36, 18), (37, 22), (19, 16), (53, 5), (53, 9), (53, 13), (39, 9), (39, 13), (43, 20), (44, 0), (39, 5), (41, 4), (43, 16), (44, 23), (45, 3), (45, 7)].filterMap qpl := by decide +kernel
set_option maxRecDepth 20000 in
theorem qTc0_c_4 : (qTcL_4.filter (fun e => e.2.2.1 == 0)).map (fun e => Cond.code e.2.2.2.1.2.1 e.2.2.2.1.2.2.1 e.2.2.2.1.2.2.2.1 e.2.2.2.1.2.2.2.2.1) = [(46, 0), (48, 16), (48, 12), (48, 20), (48, 8), (48, 4), (50, 6), (50, 10), (51, 11), (53, 1), (54, 16), (55, 8), (59, 11), (59, 7), (59, 3), (7, 2), (23, 23), (25, 4), (27, 21), (30, 20), (32, 10), (34, 8), (35, 3), (36, 6), (37, 1), (38, 13), (41, 20), (42, 19), (44, 7), (46, 15), (49, 3), (49, 18), (50, 17), (51, 18), (52, 5), (52, 16), (53, 20), (56, 7), (59, 18), (5, 19), (6, 11), (16, 7), (21, 7), (21, 11), (21, 19), (21, 23), (22, 7), (22, 11), (22, 16), (22, 20), (23, 0), (23, 4), (23, 12), (24, 13), (25, 13)].filterMap qpl := by decide +kernel
set_option maxRecDepth 20000 in
theorem qTc0_c_5 : (qTcL_5.filter (fun e => e.2.2.1 == 0)).map (fun e => Cond.code e.2.2.2.1.2.1 e.2.2.2.1.2.2.1 e.2.2.2.1.2.2.2.1 e.2.2.2.1.2.2.2.2.1) = [(25, 21), (26, 5), (26, 13), (27, 1), (27, 10), (27, 14), (28, 5), (28, 13), (29, 1), (29, 5), (30, 5), (31, 4), (31, 9), (31, 22), (33, 5), (33, 21), (34, 1), (34, 20), (35, 19), (36, 14), (37, 18), (38, 2), (38, 6), (39, 1), (39, 17), (41, 0), (42, 11), (43, 12), (44, 19), (45, 11), (45, 20), (46, 4), (46, 8), (48, 0), (49, 11), (50, 2), (51, 7), (51, 22), (52, 9), (52, 21), (54, 0)].filterMap qpl := by decide +kernel
set_option maxRecDepth 20000 in
theorem qTc0_c_6 : (qTcL_6.filter (fun e => e.2.2.1 == 0)).map (fun e => Cond.code e.2.2.2.1.2.1 e.2.2.2.1.2.2.1 e.2.2.2.1.2.2.2.1 e.2.2.2.1.2.2.2.2.1) = [(54, 4), (54, 12), (54, 20), (55, 4), (55, 12), (55, 16), (55, 20), (56, 0), (56, 11), (56, 15), (57, 16), (57, 20), (58, 22), (60, 2)].filterMap qpl := by decide +kernel
theorem qTc0_cc : ∀ e ∈ qTcM 0, Cond.code e.2.2.2.1.2.1 e.2.2.2.1.2.2.1 e.2.2.2.1.2.2.2.1 e.2.2.2.1.2.2.2.2.1 ∈ wsL_law := by
  intro e he
  obtain ⟨h1, h2⟩ := List.mem_filter.mp he
  unfold qTcL at h1
  simp only [List.mem_append] at h1
  rcases h1 with (((((h1 | h1) | h1) | h1) | h1) | h1) | h1
  · exact gw_all _ qTc0_c_0 _ (List.mem_map_of_mem (f := fun e : Nat × Nat × Nat × qM × Nat => Cond.code e.2.2.2.1.2.1 e.2.2.2.1.2.2.1 e.2.2.2.1.2.2.2.1 e.2.2.2.1.2.2.2.2.1) (List.mem_filter.mpr ⟨h1, h2⟩))
  · exact gw_all _ qTc0_c_1 _ (List.mem_map_of_mem (f := fun e : Nat × Nat × Nat × qM × Nat => Cond.code e.2.2.2.1.2.1 e.2.2.2.1.2.2.1 e.2.2.2.1.2.2.2.1 e.2.2.2.1.2.2.2.2.1) (List.mem_filter.mpr ⟨h1, h2⟩))
  · exact gw_all _ qTc0_c_2 _ (List.mem_map_of_mem (f := fun e : Nat × Nat × Nat × qM × Nat => Cond.code e.2.2.2.1.2.1 e.2.2.2.1.2.2.1 e.2.2.2.1.2.2.2.1 e.2.2.2.1.2.2.2.2.1) (List.mem_filter.mpr ⟨h1, h2⟩))
  · exact gw_all _ qTc0_c_3 _ (List.mem_map_of_mem (f := fun e : Nat × Nat × Nat × qM × Nat => Cond.code e.2.2.2.1.2.1 e.2.2.2.1.2.2.1 e.2.2.2.1.2.2.2.1 e.2.2.2.1.2.2.2.2.1) (List.mem_filter.mpr ⟨h1, h2⟩))
  · exact gw_all _ qTc0_c_4 _ (List.mem_map_of_mem (f := fun e : Nat × Nat × Nat × qM × Nat => Cond.code e.2.2.2.1.2.1 e.2.2.2.1.2.2.1 e.2.2.2.1.2.2.2.1 e.2.2.2.1.2.2.2.2.1) (List.mem_filter.mpr ⟨h1, h2⟩))
  · exact gw_all _ qTc0_c_5 _ (List.mem_map_of_mem (f := fun e : Nat × Nat × Nat × qM × Nat => Cond.code e.2.2.2.1.2.1 e.2.2.2.1.2.2.1 e.2.2.2.1.2.2.2.1 e.2.2.2.1.2.2.2.2.1) (List.mem_filter.mpr ⟨h1, h2⟩))
  · exact gw_all _ qTc0_c_6 _ (List.mem_map_of_mem (f := fun e : Nat × Nat × Nat × qM × Nat => Cond.code e.2.2.2.1.2.1 e.2.2.2.1.2.2.1 e.2.2.2.1.2.2.2.1 e.2.2.2.1.2.2.2.2.1) (List.mem_filter.mpr ⟨h1, h2⟩))
set_option maxRecDepth 20000 in
theorem qTc0_i : (qTcM 0).map (fun e => Cond.instanceMethod e.2.2.2.1.2.1) = [(13, 14), (24, 7), (25, 23), (28, 19), (25, 6), (15, 12), (14, 19), (24, 7), (58, 4), (58, 8), (58, 12), (14, 19), (24, 7), (29, 13), (29, 23), (25, 6), (34, 14), (7, 14), (8, 15), (14, 11), (8, 19), (9, 3), (11, 8), (12, 0), (11, 16), (14, 15), (15, 4), (11, 12), (11, 20), (12, 4), (12, 8), (12, 12), (12, 21), (13, 1), (13, 5), (14, 19), (14, 23), (13, 14), (8, 23), (7, 18), (8, 4), (8, 11), (12, 8), (12, 17), (12, 4), (14, 19), (25, 6), (12, 12), (37, 11), (36, 8), (8, 23), (13, 10), (13, 18), (14, 6), (13, 14), (13, 22), (14, 2), (14, 19), (24, 7), (40, 1), (38, 19), (40, 14), (15, 12), (47, 2), (43, 4), (14, 19), (24, 7), (47, 8), (47, 12), (5, 21), (6, 1), (6, 5), (7, 6), (15, 8), (15, 12), (15, 16), (15, 20), (16, 0), (14, 23), (21, 13), (22, 1), (14, 19), (23, 6), (24, 1), (24, 7), (25, 6), (25, 23), (26, 15), (27, 23), (28, 15), (29, 7), (29, 19), (30, 22), (31, 11), (32, 12), (32, 18), (34, 10), (35, 5), (35, 13), (36, 8), (37, 3), (37, 7), (38, 15), (38, 19), (39, 19), (40, 18), (41, 22), (42, 2), (42, 21), (43, 4), (44, 9), (45, 13), (46, 17), (46, 21), (47, 18), (49, 5), (49, 20), (50, 19), (13, 14), (13, 5), (54, 6), (54, 22), (56, 17), (56, 21), (57, 2), (57, 6), (57, 10), (57, 22), (58, 16), (59, 20), (50, 23), (31, 15), (32, 23), (33, 11), (20, 17), (6, 15), (17, 12), (17, 19), (18, 2), (19, 2), (17, 7), (18, 22), (19, 10), (20, 13), (19, 18), (18, 11), (18, 17), (19, 6), (20, 9), (20, 21), (18, 7), (20, 1), (20, 5), (16, 16), (16, 20), (17, 0), (21, 1), (24, 19), (24, 15), (25, 15), (26, 7), (27, 3), (28, 7), (30, 11), (30, 7), (32, 0), (33, 7), (33, 15), (35, 21), (36, 16), (37, 20), (19, 14), (53, 3), (53, 7), (53, 11), (39, 7), (39, 11), (43, 18), (43, 22), (39, 3), (41, 2), (43, 14), (44, 21), (45, 1), (45, 5), (45, 22), (48, 14), (48, 10), (48, 18), (48, 6), (48, 2), (50, 4), (50, 8), (51, 9), (52, 23), (54, 14), (55, 6), (59, 9), (59, 5), (59, 1), (7, 0), (23, 21), (25, 2), (27, 19), (30, 18), (32, 8), (34, 6), (35, 1), (36, 4), (36, 23), (38, 11), (41, 18), (42, 17), (44, 5), (46, 13), (49, 1), (49, 16), (50, 15), (51, 16), (52, 3), (52, 14), (53, 18), (56, 5), (59, 16), (5, 17), (6, 9), (16, 5), (21, 5), (21, 9), (21, 17), (21, 21), (22, 5), (22, 9), (22, 14), (22, 18), (22, 22), (23, 2), (23, 10), (24, 11), (25, 11), (25, 19), (26, 3), (26, 11), (26, 23), (27, 8), (27, 12), (28, 3), (28, 11), (28, 23), (29, 3), (30, 3), (31, 2), (31, 7), (31, 20), (33, 3), (33, 19), (33, 23), (34, 18), (35, 17), (36, 12), (37, 16), (38, 0), (38, 4), (38, 23), (39, 15), (40, 22), (42, 9), (43, 10), (44, 17), (45, 9), (45, 18), (46, 2), (46, 6), (47, 22), (49, 9), (50, 0), (51, 5), (51, 20), (52, 7), (52, 19), (53, 22), (54, 2), (54, 10), (54, 18), (55, 2), (55, 10), (55, 14), (55, 18), (55, 22), (56, 9), (56, 13), (57, 14), (57, 18), (58, 20), (60, 0)].filterMap qpl := by decide +kernel
set_option maxRecDepth 20000 in
theorem qTc0_v : (qTcM 0).map (fun e => Cond.selects (qNm e.2.2.2.1.1) e.2.2.2.1.2.1 e.2.2.2.1.2.1) = [(13, 15), (24, 8), (26, 0), (28, 20), (25, 7), (15, 13), (14, 20), (24, 8), (58, 5), (58, 9), (58, 13), (14, 20), (24, 8), (29, 14), (30, 0), (25, 7), (34, 15), (7, 15), (8, 16), (14, 12), (8, 20), (9, 4), (11, 9), (12, 1), (11, 17), (14, 16), (15, 5), (11, 13), (11, 21), (12, 5), (12, 9), (12, 13), (12, 22), (13, 2), (13, 6), (14, 20), (15, 0), (13, 15), (9, 0), (7, 19), (8, 5), (8, 12), (12, 9), (12, 18), (12, 5), (14, 20), (25, 7), (12, 13), (37, 12), (36, 9), (9, 0), (13, 11), (13, 19), (14, 7), (13, 15), (13, 23), (14, 3), (14, 20), (24, 8), (40, 2), (38, 20), (40, 15), (15, 13), (47, 3), (43, 5), (14, 20), (24, 8), (47, 9), (47, 13), (5, 22), (6, 2), (6, 6), (7, 7), (15, 9), (15, 13), (15, 17), (15, 21), (16, 1), (15, 0), (21, 14), (22, 2), (14, 20), (23, 7), (24, 2), (24, 8), (25, 7), (26, 0), (26, 16), (28, 0), (28, 16), (29, 8), (29, 20), (30, 23), (31, 12), (32, 13), (32, 19), (34, 11), (35, 6), (35, 14), (36, 9), (37, 4), (37, 8), (38, 16), (38, 20), (39, 20), (40, 19), (41, 23), (42, 3), (42, 22), (43, 5), (44, 10), (45, 14), (46, 18), (46, 22), (47, 19), (49, 6), (49, 21), (50, 20), (13, 15), (13, 6), (54, 7), (54, 23), (56, 18), (56, 22), (57, 3), (57, 7), (57, 11), (57, 23), (58, 17), (59, 21), (51, 0), (31, 16), (33, 0), (33, 12), (20, 18), (6, 16), (17, 13), (17, 20), (18, 3), (19, 3), (17, 8), (18, 23), (19, 11), (20, 14), (19, 19), (18, 12), (18, 18), (19, 7), (20, 10), (20, 22), (18, 8), (20, 2), (20, 6), (16, 17), (16, 21), (17, 1), (21, 2), (24, 20), (24, 16), (25, 16), (26, 8), (27, 4), (28, 8), (30, 12), (30, 8), (32, 1), (33, 8), (33, 16), (35, 22), (36, 17), (37, 21), (19, 15), (53, 4), (53, 8), (53, 12), (39, 8), (39, 12), (43, 19), (43, 23), (39, 4), (41, 3), (43, 15), (44, 22), (45, 2), (45, 6), (45, 23), (48, 15), (48, 11), (48, 19), (48, 7), (48, 3), (50, 5), (50, 9), (51, 10), (53, 0), (54, 15), (55, 7), (59, 10), (59, 6), (59, 2), (7, 1), (23, 22), (25, 3), (27, 20), (30, 19), (32, 9), (34, 7), (35, 2), (36, 5), (37, 0), (38, 12), (41, 19), (42, 18), (44, 6), (46, 14), (49, 2), (49, 17), (50, 16), (51, 17), (52, 4), (52, 15), (53, 19), (56, 6), (59, 17), (5, 18), (6, 10), (16, 6), (21, 6), (21, 10), (21, 18), (21, 22), (22, 6), (22, 10), (22, 15), (22, 19), (22, 23), (23, 3), (23, 11), (24, 12), (25, 12), (25, 20), (26, 4), (26, 12), (27, 0), (27, 9), (27, 13), (28, 4), (28, 12), (29, 0), (29, 4), (30, 4), (31, 3), (31, 8), (31, 21), (33, 4), (33, 20), (34, 0), (34, 19), (35, 18), (36, 13), (37, 17), (38, 1), (38, 5), (39, 0), (39, 16), (40, 23), (42, 10), (43, 11), (44, 18), (45, 10), (45, 19), (46, 3), (46, 7), (47, 23), (49, 10), (50, 1), (51, 6), (51, 21), (52, 8), (52, 20), (53, 23), (54, 3), (54, 11), (54, 19), (55, 3), (55, 11), (55, 15), (55, 19), (55, 23), (56, 10), (56, 14), (57, 15), (57, 19), (58, 21), (60, 1)].filterMap qpl := by decide +kernel
set_option maxRecDepth 20000 in
theorem qTc0_n : (qTcM 0).map (fun e => Cond.initialized e.2.2.2.1.2.1.cls) = [(0, 19), (0, 19), (0, 19), (0, 19), (0, 19), (0, 19), (0, 19), (0, 19), (1, 22), (1, 22), (1, 22), (0, 19), (0, 19), (1, 2), (1, 2), (0, 19), (1, 2), (0, 15), (0, 15), (0, 15), (0, 15), (0, 15), (0, 15), (0, 15), (0, 15), (0, 15), (0, 15), (0, 15), (0, 15), (1, 6), (1, 6), (1, 6), (1, 6), (1, 6), (1, 6), (0, 19), (0, 19), (0, 19), (0, 19), (0, 15), (0, 15), (0, 15), (1, 6), (1, 6), (1, 6), (0, 19), (0, 19), (1, 6), (1, 6), (1, 6), (0, 19), (1, 6), (1, 6), (1, 6), (0, 19), (1, 6), (1, 6), (0, 19), (0, 19), (1, 10), (0, 19), (1, 10), (0, 19), (1, 14), (0, 19), (0, 19), (0, 19), (1, 14), (1, 14), (0, 15), (0, 15), (0, 15), (0, 15), (0, 15), (0, 19), (0, 15), (0, 15), (1, 18), (0, 19), (0, 15), (0, 15), (0, 19), (0, 2), (0, 2), (0, 19), (0, 19), (0, 19), (0, 19), (0, 19), (0, 19), (1, 2), (1, 2), (1, 2), (0, 2), (0, 2), (0, 2), (1, 2), (1, 6), (1, 6), (1, 6), (0, 2), (1, 6), (0, 2), (0, 19), (1, 10), (1, 10), (0, 2), (1, 10), (0, 2), (0, 19), (0, 19), (0, 19), (0, 2), (1, 14), (1, 14), (1, 14), (0, 2), (0, 2), (0, 19), (1, 6), (0, 2), (0, 2), (1, 18), (1, 18), (1, 18), (1, 18), (1, 18), (1, 22), (1, 22), (1, 22), (1, 18), (1, 2), (1, 2), (0, 5), (0, 5), (0, 5), (0, 5), (0, 5), (0, 5), (0, 5), (0, 5), (0, 5), (0, 5), (0, 5), (0, 5), (0, 5), (0, 5), (0, 5), (0, 5), (0, 5), (0, 5), (0, 5), (0, 5), (0, 5), (0, 5), (0, 5), (0, 5), (0, 5), (0, 5), (0, 5), (0, 5), (0, 5), (0, 5), (0, 5), (0, 5), (0, 5), (0, 5), (0, 5), (0, 5), (0, 5), (0, 5), (0, 5), (0, 5), (0, 5), (0, 5), (0, 5), (0, 5), (0, 5), (0, 5), (0, 5), (0, 5), (0, 5), (0, 5), (0, 5), (0, 5), (0, 5), (0, 5), (0, 5), (0, 5), (0, 5), (0, 5), (0, 5), (0, 5), (0, 5), (0, 5), (0, 5), (0, 5), (0, 5), (0, 5), (0, 5), (0, 2), (0, 2), (0, 2), (0, 2), (0, 2), (0, 2), (0, 2), (0, 2), (0, 2), (0, 2), (0, 2), (0, 2), (0, 2), (0, 2), (0, 2), (0, 2), (0, 2), (0, 2), (0, 2), (0, 2), (0, 2), (0, 2), (0, 2), (0, 2), (0, 2), (0, 5), (0, 5), (0, 5), (0, 2), (0, 5), (0, 2), (0, 5), (0, 2), (0, 5), (0, 2), (0, 5), (0, 2), (0, 5), (0, 5), (0, 5), (0, 2), (0, 5), (0, 2), (0, 5), (0, 2), (0, 5), (0, 5), (0, 2), (0, 5), (0, 2), (0, 5), (0, 5), (0, 2), (0, 5), (0, 5), (0, 2), (0, 5), (0, 5), (0, 5), (0, 5), (0, 5), (0, 2), (0, 5), (0, 5), (0, 2), (0, 5), (0, 5), (0, 5), (0, 5), (0, 2), (0, 5), (0, 2), (0, 5), (0, 5), (0, 5), (0, 5), (0, 5), (0, 5), (0, 5), (0, 5), (0, 5), (0, 2), (0, 5), (0, 2), (0, 5), (0, 2), (0, 5), (0, 2), (0, 5), (0, 5), (0, 2), (0, 5), (0, 2), (0, 5), (0, 5)].filterMap qpl := by decide +kernel
set_option maxRecDepth 20000 in
theorem qTc1_l : (qTcM 1).map (fun e => Cond.methodLink (qNm e.1) e.2.1 e.2.2.2.1.2.1) = [(44, 15), (40, 8), (43, 7), (7, 21), (8, 0), (8, 7), (40, 4), (40, 12), (47, 15), (42, 5), (43, 2), (44, 12), (19, 21), (17, 15), (17, 22), (16, 12), (23, 13), (41, 5), (41, 11), (41, 8)].filterMap qpl := by decide +kernel
set_option maxRecDepth 20000 in
theorem qTc1_c : (qTcM 1).map (fun e => Cond.code e.2.2.2.1.2.1 e.2.2.2.1.2.2.1 e.2.2.2.1.2.2.2.1 e.2.2.2.1.2.2.2.2.1) = [(42, 7), (40, 10), (42, 7), (7, 23), (8, 2), (8, 9), (40, 7), (40, 10), (40, 10), (42, 7), (40, 10), (44, 14), (19, 23), (17, 17), (18, 0), (16, 14), (23, 15), (41, 7), (41, 13), (41, 10)].filterMap qpl := by decide +kernel
set_option maxRecDepth 20000 in
theorem qTc1_s : (qTcM 1).map (fun e => Cond.static e.2.2.2.1.2.1) = [(42, 6), (40, 9), (42, 6), (7, 22), (8, 1), (8, 8), (40, 5), (40, 9), (40, 9), (42, 6), (40, 9), (44, 13), (19, 22), (17, 16), (17, 23), (16, 13), (23, 14), (41, 6), (41, 12), (41, 9)].filterMap qpl := by decide +kernel
set_option maxRecDepth 20000 in
theorem qTc1_n : (qTcM 1).map (fun e => Cond.initialized e.2.2.2.1.2.1.cls) = [(40, 6), (40, 6), (40, 6), (0, 15), (0, 15), (0, 15), (40, 6), (40, 6), (40, 6), (40, 6), (40, 6), (40, 6), (0, 5), (0, 5), (0, 5), (0, 5), (0, 5), (0, 5), (0, 5), (0, 5)].filterMap qpl := by decide +kernel
set_option maxRecDepth 20000 in
theorem qTc2_l : (qTcM 2).map (fun e => Cond.methodLink (qNm e.1) e.2.1 e.2.2.2.1.2.1) = [(4, 5), (0, 7), (4, 21)].filterMap qpl := by decide +kernel
set_option maxRecDepth 20000 in
theorem qTc2_c : (qTcM 2).map (fun e => Cond.code e.2.2.2.1.2.1 e.2.2.2.1.2.2.1 e.2.2.2.1.2.2.2.1 e.2.2.2.1.2.2.2.2.1) = [(4, 7), (0, 9), (4, 23)].filterMap qpl := by decide +kernel
set_option maxRecDepth 20000 in
theorem qTc2_i : (qTcM 2).map (fun e => Cond.instanceMethod e.2.2.2.1.2.1) = [(4, 6), (0, 8), (4, 22)].filterMap qpl := by decide +kernel
set_option maxRecDepth 20000 in
theorem qTc2_n : (qTcM 2).map (fun e => Cond.initialized e.2.2.2.1.2.1.cls) = [(1, 18), (0, 2), (0, 5)].filterMap qpl := by decide +kernel
set_option maxRecDepth 20000 in
theorem qTc4_l : (qTcM 4).map (fun e => Cond.methodLink (qNm e.1) e.2.1 e.2.2.2.1.2.1) = [(6, 18), (23, 16), (24, 22), (27, 15), (30, 14), (32, 3), (34, 2), (34, 21), (36, 0), (36, 19), (38, 7), (41, 14), (42, 12), (44, 1), (46, 9), (48, 21), (49, 12), (50, 11), (51, 12), (51, 23), (52, 10), (53, 14), (56, 1), (59, 12)].filterMap qpl := by decide +kernel
set_option maxRecDepth 20000 in
theorem qTc4_c : (qTcM 4).map (fun e => Cond.codeWith e.2.2.2.1.2.1 e.2.2.2.1.2.2.1 e.2.2.2.1.2.2.2.1 e.2.2.2.1.2.2.2.2.1 e.2.2.2.1.2.2.2.2.2) = [(6, 21), (23, 18), (25, 0), (27, 17), (30, 16), (32, 5), (34, 4), (34, 23), (36, 2), (36, 21), (38, 9), (41, 16), (42, 14), (44, 3), (46, 11), (48, 23), (49, 14), (50, 13), (51, 14), (52, 1), (52, 12), (53, 16), (56, 3), (59, 14)].filterMap qpl := by decide +kernel
set_option maxRecDepth 20000 in
theorem qTc4_s : (qTcM 4).map (fun e => Cond.static e.2.2.2.1.2.1) = [(6, 19), (23, 17), (24, 23), (27, 16), (30, 15), (32, 4), (34, 3), (34, 22), (36, 1), (36, 20), (38, 8), (41, 15), (42, 13), (44, 2), (46, 10), (48, 22), (49, 13), (50, 12), (51, 13), (52, 0), (52, 11), (53, 15), (56, 2), (59, 13)].filterMap qpl := by decide +kernel
set_option maxRecDepth 20000 in
theorem qTc4_n : (qTcM 4).map (fun e => Cond.initialized e.2.2.2.1.2.1.cls) = [(6, 20), (6, 20), (6, 20), (6, 20), (6, 20), (6, 20), (6, 20), (6, 20), (6, 20), (6, 20), (6, 20), (6, 20), (6, 20), (6, 20), (6, 20), (6, 20), (6, 20), (6, 20), (6, 20), (6, 20), (6, 20), (6, 20), (6, 20), (6, 20)].filterMap qpl := by decide +kernel
set_option maxRecDepth 20000 in
theorem qTc3_c : (qTcM 3).map (fun e => Cond.code e.2.2.2.1.2.1 e.2.2.2.1.2.2.1 e.2.2.2.1.2.2.2.1 e.2.2.2.1.2.2.2.2.1) = [(2, 21), (2, 21), (3, 4), (2, 21), (2, 2), (2, 21), (3, 12), (3, 4), (3, 18), (3, 23), (4, 16)].filterMap qpl := by decide +kernel
set_option maxRecDepth 20000 in
theorem qTc3_i : (qTcM 3).map (fun e => Cond.instanceMethod e.2.2.2.1.2.1) = [(2, 20), (2, 20), (3, 3), (2, 20), (2, 1), (2, 20), (3, 11), (3, 3), (3, 17), (3, 22), (4, 15)].filterMap qpl := by decide +kernel
set_option maxRecDepth 20000 in
theorem qTc3_n : (qTcM 3).map (fun e => Cond.initialized e.2.2.2.1.2.1.cls) = [(0, 19), (0, 19), (1, 6), (0, 19), (0, 15), (0, 19), (1, 2), (1, 6), (1, 10), (1, 14), (1, 22)].filterMap qpl := by decide +kernel
set_option maxRecDepth 20000 in
theorem qTn_k : qTnL.map (fun e => Cond.classLink (qNm e.1) e.2.1 (vwCl.getD e.2.2 (RX1, TX1, 3)).1) = [(4, 9), (2, 6), (2, 9), (4, 2), (0, 13), (0, 17), (1, 0), (1, 4), (1, 8), (1, 12), (1, 16), (1, 20), (0, 0), (0, 3)].filterMap qpl := by decide +kernel
set_option maxRecDepth 20000 in
theorem qTn_i : qTnL.map (fun e => Cond.instantiable (vwCl.getD e.2.2 (RX1, TX1, 3)).1 (vwCl.getD e.2.2 (RX1, TX1, 3)).2.2) = [(0, 18), (0, 18), (1, 5), (0, 18), (0, 14), (0, 18), (1, 1), (1, 5), (1, 9), (1, 13), (1, 17), (1, 21), (0, 1), (0, 4)].filterMap qpl := by decide +kernel
set_option maxRecDepth 20000 in
theorem qTn_n : qTnL.map (fun e => Cond.initialized (vwCl.getD e.2.2 (RX1, TX1, 3)).1) = [(0, 19), (0, 19), (1, 6), (0, 19), (0, 15), (0, 19), (1, 2), (1, 6), (1, 10), (1, 14), (1, 18), (1, 22), (0, 2), (0, 5)].filterMap qpl := by decide +kernel
set_option maxRecDepth 20000 in
theorem qTa_k : [Cond.classLink RX2 9 RX1] = [(4, 9)].filterMap qpl := by decide +kernel
set_option maxRecDepth 20000 in
theorem qTa_a : [Cond.arrayClass .int, Cond.arrayClass .byte, Cond.arrayClass .char, Cond.arrayClass .boolean, Cond.arrayClass .long] = [(2, 23), (2, 4), (4, 18), (5, 11), (0, 6)].filterMap qpl := by decide +kernel
def qEx (k : Nat) : String := match k with
  | 0 => "java/lang/IndexOutOfBoundsException"
  | 1 => "java/lang/IllegalArgumentException"
  | 2 => "java/util/NoSuchElementException"
  | _ => "java/lang/IllegalStateException"
set_option maxRecDepth 20000 in
theorem qTx_k : qTxL.map (fun e => Cond.classLink (qNm e.1) e.2.1 (qEx e.2.2.2.2.1)) = [(7, 3), (7, 3), (7, 3), (7, 3), (24, 4), (24, 4), (24, 4), (24, 4), (24, 4), (32, 15), (32, 15), (43, 0), (43, 0), (43, 0), (43, 0)].filterMap qpl := by decide +kernel
set_option maxRecDepth 20000 in
theorem qTx_n : qTxL.map (fun e => Cond.initialized (qEx e.2.2.2.2.1)) = [(7, 4), (7, 4), (7, 4), (7, 4), (24, 5), (24, 5), (24, 5), (24, 5), (24, 5), (32, 16), (32, 16), (43, 1), (43, 1), (43, 1), (43, 1)].filterMap qpl := by decide +kernel
set_option maxRecDepth 20000 in
theorem qTk_k : qTkL.map (fun e => Cond.classLink (qNm e.1) e.2.1 (qEx e.2.2)) = [(6, 22), (23, 19), (32, 6), (42, 15)].filterMap qpl := by decide +kernel
set_option maxRecDepth 20000 in
theorem qTc5_l : (qTcM 5).map (fun e => Cond.methodLink (qNm e.1) e.2.1 Lib.Math.max.name) = [(26, 18), (57, 0), (29, 16), (27, 6)].filterMap qpl := by decide +kernel
set_option maxRecDepth 20000 in
theorem qTc6_l : (qTcM 6).map (fun e => Cond.methodLink (qNm e.1) e.2.1 Lib.Math.min.name) = [(51, 2), (29, 17), (7, 9), (14, 9), (31, 5)].filterMap qpl := by decide +kernel
set_option maxRecDepth 20000 in
theorem qMath_w : [Cond.static Lib.Math.max.name, Cond.static Lib.Math.min.name, Cond.initialized "java/lang/Math", Cond.code Lib.Math.max.name Lib.Math.max.code 2 (some .int), Cond.code Lib.Math.min.name Lib.Math.min.code 2 (some .int)] = [(26, 19), (7, 10), (7, 11), (26, 20), (7, 12)].filterMap qpl := by decide +kernel
set_option maxRecDepth 20000 in
theorem qTc7_l : (qTcM 7).map (fun e => Cond.methodLink (qNm e.1) e.2.1 objectInit) = [(2, 22), (4, 8), (4, 17), (3, 13), (2, 3), (3, 5), (3, 19), (4, 0), (0, 10), (5, 0)].filterMap qpl := by decide +kernel
set_option maxRecDepth 20000 in
theorem qObj_w : [Cond.instanceMethod objectInit, Cond.code objectInit ⟨#[0xb1]⟩ 1 none] = [(0, 11), (0, 12)].filterMap qpl := by decide +kernel
set_option maxRecDepth 20000 in
theorem qTc8_l : (qTcM 8).map (fun e => Cond.methodLink (qNm e.1) e.2.1 yJ0_length_8abf5) = [(9, 6), (18, 14)].filterMap qpl := by decide +kernel
set_option maxRecDepth 20000 in
theorem qTc9_l : (qTcM 9).map (fun e => Cond.methodLink (qNm e.1) e.2.1 yJ0_charAt_5068e) = [(9, 18), (18, 15)].filterMap qpl := by decide +kernel

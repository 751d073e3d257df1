/-! ===== each program is right ===== -/
set_option maxRecDepth 20000 in
theorem ok_X11_knowsHops : m_okE mTT (yX11_knowsHops, cX11_knowsHops, 7, none, 1, 22, pg_X11_knowsHops) = true := by decide +kernel
set_option maxRecDepth 20000 in
theorem ok_X11_isOrder : m_okE mTT (yX11_isOrder, cX11_isOrder, 7, (some .boolean), 0, 0, pg_X11_isOrder) = true := by decide +kernel
set_option maxRecDepth 20000 in
theorem ok_X11_changes : m_okE mTT (yX11_changes, cX11_changes, 4, none, 0, 0, pg_X11_changes) = true := by decide +kernel
set_option maxRecDepth 20000 in
theorem ok_X11_nextRow : m_okE mTT (yX11_nextRow, cX11_nextRow, 7, none, 1, 23, pg_X11_nextRow) = true := by decide +kernel
set_option maxRecDepth 20000 in
theorem ok_X11_laysOrder : m_okE mTT (yX11_laysOrder, cX11_laysOrder, 6, none, 2, 49, pg_X11_laysOrder) = true := by decide +kernel
set_option maxRecDepth 20000 in
theorem ok_X11_knowsOne : m_okE mTT (yX11_knowsOne, cX11_knowsOne, 10, none, 3, 74, pg_X11_knowsOne) = true := by decide +kernel
set_option maxRecDepth 20000 in
theorem ok_X11_knows : m_okE mTT (yX11_knows, cX11_knows, 5, none, 5, 117, pg_X11_knows) = true := by decide +kernel
set_option maxRecDepth 20000 in
theorem ok_X11_hopOf : m_okE mTT (yX11_hopOf, cX11_hopOf, 4, (some .int), 0, 0, pg_X11_hopOf) = true := by decide +kernel
set_option maxRecDepth 20000 in
theorem ok_X11_linkOfHop : m_okE mTT (yX11_linkOfHop, cX11_linkOfHop, 7, (some .int), 2, 42, pg_X11_linkOfHop) = true := by decide +kernel
set_option maxRecDepth 20000 in
theorem ok_X11_goes : m_okE mTT (yX11_goes, cX11_goes, 7, (some .boolean), 6, 141, pg_X11_goes) = true := by decide +kernel
set_option maxRecDepth 20000 in
theorem ok_X11_send : m_okE mTT (yX11_send, cX11_send, 5, (some .int), 7, 167, pg_X11_send) = true := by decide +kernel
set_option maxRecDepth 20000 in
theorem ok_X2_bring : m_okE mTT (yX2_bring, cX2_bring, 2, (some .boolean), 1, 22, pg_X2_bring) = true := by decide +kernel
set_option maxRecDepth 20000 in
theorem ok_X10_undo : m_okE mTT (yX10_undo, cX10_undo, 1, (some .boolean), 2, 43, pg_X10_undo) = true := by decide +kernel
set_option maxRecDepth 20000 in
theorem ok_X11_undo : m_okE mTT (yX11_undo, cX11_undo, 3, (some .boolean), 0, 0, pg_X11_undo) = true := by decide +kernel
set_option maxRecDepth 20000 in
theorem ok_X10_link : m_okE mTT (yX10_link, cX10_link, 3, (some .int), 1, 21, pg_X10_link) = true := by decide +kernel
set_option maxRecDepth 20000 in
theorem ok_X11_link : m_okE mTT (yX11_link, cX11_link, 3, (some .int), 2, 43, pg_X11_link) = true := by decide +kernel
set_option maxRecDepth 20000 in
theorem ok_X10_isNet : m_okE mTT (yX10_isNet, cX10_isNet, 1, (some .boolean), 0, 0, pg_X10_isNet) = true := by decide +kernel
set_option maxRecDepth 20000 in
theorem ok_X1_forget : m_okE mTT (yX1_forget, cX1_forget, 1, none, 0, 0, pg_X1_forget) = true := by decide +kernel
set_option maxRecDepth 20000 in
theorem ok_X10_presentNet : m_okE mTT (yX10_presentNet, cX10_presentNet, 1, (some (.object "RedBlueWays$Net")), 4, 99, pg_X10_presentNet) = true := by decide +kernel
set_option maxRecDepth 20000 in
theorem ok_X10_netOf : m_okE mTT (yX10_netOf, cX10_netOf, 2, (some (.object "RedBlueWays$Net")), 5, 119, pg_X10_netOf) = true := by decide +kernel
set_option maxRecDepth 20000 in
theorem ok_X3_isLeast : m_okE mTT (yX3_isLeast, cX3_isLeast, 3, (some .boolean), 1, 21, pg_X3_isLeast) = true := by decide +kernel
set_option maxRecDepth 20000 in
theorem ok_X3_pieceAt : m_okE mTT (yX3_pieceAt, cX3_pieceAt, 4, (some .int), 2, 43, pg_X3_pieceAt) = true := by decide +kernel
set_option maxRecDepth 20000 in
theorem ok_X10_piece : m_okE mTT (yX10_piece, cX10_piece, 3, (some .int), 6, 140, pg_X10_piece) = true := by decide +kernel
set_option maxRecDepth 20000 in
theorem ok_X11_isWhich : m_okE mTT (yX11_isWhich, cX11_isWhich, 1, (some .boolean), 1, 22, pg_X11_isWhich) = true := by decide +kernel
set_option maxRecDepth 20000 in
theorem ok_X11_piece : m_okE mTT (yX11_piece, cX11_piece, 7, (some .int), 4, 85, pg_X11_piece) = true := by decide +kernel
set_option maxRecDepth 20000 in
theorem ok_X3_leastBlock : m_okE mTT (yX3_leastBlock, cX3_leastBlock, 6, (some .int), 1, 22, pg_X3_leastBlock) = true := by decide +kernel
set_option maxRecDepth 20000 in
theorem ok_X3_blockAt : m_okE mTT (yX3_blockAt, cX3_blockAt, 5, (some .int), 2, 47, pg_X3_blockAt) = true := by decide +kernel
set_option maxRecDepth 20000 in
theorem ok_X10_block : m_okE mTT (yX10_block, cX10_block, 3, (some .int), 6, 140, pg_X10_block) = true := by decide +kernel
set_option maxRecDepth 20000 in
theorem ok_X11_block : m_okE mTT (yX11_block, cX11_block, 3, (some .int), 5, 117, pg_X11_block) = true := by decide +kernel
set_option maxRecDepth 20000 in
theorem ok_X3_cutPosts : m_okE mTT (yX3_cutPosts, cX3_cutPosts, 4, (some .int), 1, 22, pg_X3_cutPosts) = true := by decide +kernel
set_option maxRecDepth 20000 in
theorem ok_X10_cuts : m_okE mTT (yX10_cuts, cX10_cuts, 2, (some .int), 6, 140, pg_X10_cuts) = true := by decide +kernel
set_option maxRecDepth 20000 in
theorem ok_X11_piecesOf : m_okE mTT (yX11_piecesOf, cX11_piecesOf, 5, (some .int), 2, 47, pg_X11_piecesOf) = true := by decide +kernel
set_option maxRecDepth 20000 in
theorem ok_X11_cuts : m_okE mTT (yX11_cuts, cX11_cuts, 6, (some .int), 4, 85, pg_X11_cuts) = true := by decide +kernel
set_option maxRecDepth 20000 in
theorem ok_X3_bridgeLinks : m_okE mTT (yX3_bridgeLinks, cX3_bridgeLinks, 5, (some .int), 2, 43, pg_X3_bridgeLinks) = true := by decide +kernel
set_option maxRecDepth 20000 in
theorem ok_X10_bridges : m_okE mTT (yX10_bridges, cX10_bridges, 2, (some .int), 6, 140, pg_X10_bridges) = true := by decide +kernel
set_option maxRecDepth 20000 in
theorem ok_X11_bridges : m_okE mTT (yX11_bridges, cX11_bridges, 7, (some .int), 4, 85, pg_X11_bridges) = true := by decide +kernel
set_option maxRecDepth 20000 in
theorem ok_X10_hasWay : m_okE mTT (yX10_hasWay, cX10_hasWay, 3, (some .boolean), 5, 128, pg_X10_hasWay) = true := by decide +kernel
set_option maxRecDepth 20000 in
theorem ok_X7_headOf : m_okE mTT (yX7_headOf, cX7_headOf, 3, (some .int), 0, 0, pg_X7_headOf) = true := by decide +kernel
set_option maxRecDepth 20000 in
theorem ok_X10_head : m_okE mTT (yX10_head, cX10_head, 3, (some .int), 6, 150, pg_X10_head) = true := by decide +kernel
set_option maxRecDepth 20000 in
theorem ok_X11_placeOf : m_okE mTT (yX11_placeOf, cX11_placeOf, 3, (some .int), 6, 141, pg_X11_placeOf) = true := by decide +kernel
set_option maxRecDepth 20000 in
theorem ok_X11_head : m_okE mTT (yX11_head, cX11_head, 4, (some .int), 7, 163, pg_X11_head) = true := by decide +kernel
set_option maxRecDepth 20000 in
theorem ok_X10_last : m_okE mTT (yX10_last, cX10_last, 3, (some .int), 6, 150, pg_X10_last) = true := by decide +kernel
set_option maxRecDepth 20000 in
theorem ok_X11_last : m_okE mTT (yX11_last, cX11_last, 4, (some .int), 7, 163, pg_X11_last) = true := by decide +kernel
set_option maxRecDepth 20000 in
theorem ok_X10_order : m_okE mTT (yX10_order, cX10_order, 4, (some .int), 6, 150, pg_X10_order) = true := by decide +kernel
set_option maxRecDepth 20000 in
theorem ok_X11_order : m_okE mTT (yX11_order, cX11_order, 6, (some .int), 7, 163, pg_X11_order) = true := by decide +kernel
set_option maxRecDepth 20000 in
theorem ok_X10_isColour : m_okE mTT (yX10_isColour, cX10_isColour, 1, (some .boolean), 0, 0, pg_X10_isColour) = true := by decide +kernel
set_option maxRecDepth 20000 in
theorem ok_X10_hop : m_okE mTT (yX10_hop, cX10_hop, 4, (some .int), 6, 150, pg_X10_hop) = true := by decide +kernel
set_option maxRecDepth 20000 in
theorem ok_X11_hop : m_okE mTT (yX11_hop, cX11_hop, 4, (some .int), 7, 163, pg_X11_hop) = true := by decide +kernel
set_option maxRecDepth 20000 in
theorem ok_X7_along : m_okE mTT (yX7_along, cX7_along, 8, (some .int), 2, 45, pg_X7_along) = true := by decide +kernel
set_option maxRecDepth 20000 in
theorem ok_X10_way : m_okE mTT (yX10_way, cX10_way, 5, (some .int), 6, 150, pg_X10_way) = true := by decide +kernel
set_option maxRecDepth 20000 in
theorem ok_X11_way : m_okE mTT (yX11_way, cX11_way, 7, (some .int), 7, 163, pg_X11_way) = true := by decide +kernel
set_option maxRecDepth 20000 in
theorem ok_X7_passed : m_okE mTT (yX7_passed, cX7_passed, 7, (some .int), 2, 45, pg_X7_passed) = true := by decide +kernel
set_option maxRecDepth 20000 in
theorem ok_X7_shared : m_okE mTT (yX7_shared, cX7_shared, 3, (some .int), 3, 71, pg_X7_shared) = true := by decide +kernel
set_option maxRecDepth 20000 in
theorem ok_X10_both : m_okE mTT (yX10_both, cX10_both, 3, (some .int), 6, 150, pg_X10_both) = true := by decide +kernel
set_option maxRecDepth 20000 in
theorem ok_X11_onWay : m_okE mTT (yX11_onWay, cX11_onWay, 6, (some .int), 1, 23, pg_X11_onWay) = true := by decide +kernel
set_option maxRecDepth 20000 in
theorem ok_X11_both : m_okE mTT (yX11_both, cX11_both, 3, (some .int), 7, 163, pg_X11_both) = true := by decide +kernel
set_option maxRecDepth 20000 in
theorem ok_X9_meet : m_okE mTT (yX9_meet, cX9_meet, 3, none, 0, 0, pg_X9_meet) = true := by decide +kernel
set_option maxRecDepth 20000 in
theorem ok_X9_lowestNew : m_okE mTT (yX9_lowestNew, cX9_lowestNew, 3, (some .int), 1, 21, pg_X9_lowestNew) = true := by decide +kernel
set_option maxRecDepth 20000 in
theorem ok_X9_lowOf : m_okE mTT (yX9_lowOf, cX9_lowOf, 5, (some .int), 1, 21, pg_X9_lowOf) = true := by decide +kernel
set_option maxRecDepth 20000 in
theorem ok_X9_from : m_okE mTT (yX9_from, cX9_from, 6, none, 2, 45, pg_X9_from) = true := by decide +kernel
set_option maxRecDepth 20000 in
theorem ok_X10_search : m_okE mTT (yX10_search, cX10_search, 4, (some .int), 5, 119, pg_X10_search) = true := by decide +kernel
set_option maxRecDepth 20000 in
theorem ok_X11_searches : m_okE mTT (yX11_searches, cX11_searches, 7, none, 4, 85, pg_X11_searches) = true := by decide +kernel
set_option maxRecDepth 20000 in
theorem ok_X11_search : m_okE mTT (yX11_search, cX11_search, 4, (some .int), 5, 111, pg_X11_search) = true := by decide +kernel
set_option maxRecDepth 20000 in
theorem ok_X0_enter : m_okE mTT (yX0_enter, cX0_enter, 2, none, 0, 0, pg_X0_enter) = true := by decide +kernel
set_option maxRecDepth 20000 in
theorem ok_X0_firstLoose : m_okE mTT (yX0_firstLoose, cX0_firstLoose, 2, (some .int), 0, 0, pg_X0_firstLoose) = true := by decide +kernel
set_option maxRecDepth 20000 in
theorem ok_X0_putCell : m_okE mTT (yX0_putCell, cX0_putCell, 2, none, 0, 0, pg_X0_putCell) = true := by decide +kernel
set_option maxRecDepth 20000 in
theorem ok_X0_goOver : m_okE mTT (yX0_goOver, cX0_goOver, 3, none, 1, 21, pg_X0_goOver) = true := by decide +kernel
set_option maxRecDepth 20000 in
theorem ok_X0_measure : m_okE mTT (yX0_measure, cX0_measure, 8, none, 1, 21, pg_X0_measure) = true := by decide +kernel

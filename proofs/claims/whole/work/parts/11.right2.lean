/-! ===== each program is right ===== -/
set_option maxRecDepth 20000 in
theorem ok_X11_wrong : m_okE mTT (yX11_wrong, cX11_wrong, 4, none, 0, 0, pg_X11_wrong) = true := by decide +kernel
set_option maxRecDepth 20000 in
theorem ok_X11_named : m_okE mTT (yX11_named, cX11_named, 3, (some .int), 0, 0, pg_X11_named) = true := by decide +kernel
set_option maxRecDepth 20000 in
theorem ok_X11_known : m_okE mTT (yX11_known, cX11_known, 3, (some .int), 1, 23, pg_X11_known) = true := by decide +kernel
set_option maxRecDepth 20000 in
theorem ok_X11_isLinked : m_okE mTT (yX11_isLinked, cX11_isLinked, 7, (some .boolean), 1, 22, pg_X11_isLinked) = true := by decide +kernel
set_option maxRecDepth 20000 in
theorem ok_X11_in : m_okE mTT (yX11_in, cX11_in, 3, (some .boolean), 0, 0, pg_X11_in) = true := by decide +kernel
set_option maxRecDepth 20000 in
theorem ok_X11_meansLink : m_okE mTT (yX11_meansLink, cX11_meansLink, 6, none, 2, 48, pg_X11_meansLink) = true := by decide +kernel
set_option maxRecDepth 20000 in
theorem ok_X11_meansDown : m_okE mTT (yX11_meansDown, cX11_meansDown, 5, none, 1, 22, pg_X11_meansDown) = true := by decide +kernel
set_option maxRecDepth 20000 in
theorem ok_X11_means : m_okE mTT (yX11_means, cX11_means, 6, none, 3, 73, pg_X11_means) = true := by decide +kernel
set_option maxRecDepth 20000 in
theorem ok_X11_has : m_okE mTT (yX11_has, cX11_has, 2, (some .boolean), 0, 0, pg_X11_has) = true := by decide +kernel
set_option maxRecDepth 20000 in
theorem ok_X11_isOn : m_okE mTT (yX11_isOn, cX11_isOn, 2, (some .boolean), 1, 21, pg_X11_isOn) = true := by decide +kernel
set_option maxRecDepth 20000 in
theorem ok_X11_netLinks : m_okE mTT (yX11_netLinks, cX11_netLinks, 3, (some .int), 2, 42, pg_X11_netLinks) = true := by decide +kernel
set_option maxRecDepth 20000 in
theorem ok_X11_learns : m_okE mTT (yX11_learns, cX11_learns, 1, none, 3, 64, pg_X11_learns) = true := by decide +kernel
set_option maxRecDepth 20000 in
theorem ok_X11_read : m_okE mTT (yX11_read, cX11_read, 2, (some .int), 4, 98, pg_X11_read) = true := by decide +kernel
set_option maxRecDepth 20000 in
theorem ok_X10_place : m_okE mTT (yX10_place, cX10_place, 1, (some .int), 0, 0, pg_X10_place) = true := by decide +kernel
set_option maxRecDepth 20000 in
theorem ok_X11_place : m_okE mTT (yX11_place, cX11_place, 1, (some .int), 0, 0, pg_X11_place) = true := by decide +kernel
set_option maxRecDepth 20000 in
theorem ok_X10_isLink : m_okE mTT (yX10_isLink, cX10_isLink, 2, (some .boolean), 0, 0, pg_X10_isLink) = true := by decide +kernel
set_option maxRecDepth 20000 in
theorem ok_X2_keep : m_okE mTT (yX2_keep, cX2_keep, 2, none, 1, 22, pg_X2_keep) = true := by decide +kernel
set_option maxRecDepth 20000 in
theorem ok_X10_join : m_okE mTT (yX10_join, cX10_join, 3, (some .boolean), 2, 43, pg_X10_join) = true := by decide +kernel
set_option maxRecDepth 20000 in
theorem ok_X11_isLink : m_okE mTT (yX11_isLink, cX11_isLink, 2, (some .boolean), 1, 22, pg_X11_isLink) = true := by decide +kernel
set_option maxRecDepth 20000 in
theorem ok_X11_marks : m_okE mTT (yX11_marks, cX11_marks, 3, none, 0, 0, pg_X11_marks) = true := by decide +kernel
set_option maxRecDepth 20000 in
theorem ok_X11_join : m_okE mTT (yX11_join, cX11_join, 3, (some .boolean), 2, 43, pg_X11_join) = true := by decide +kernel
set_option maxRecDepth 20000 in
theorem ok_X10_cost : m_okE mTT (yX10_cost, cX10_cost, 3, (some .boolean), 2, 43, pg_X10_cost) = true := by decide +kernel
set_option maxRecDepth 20000 in
theorem ok_X11_cost : m_okE mTT (yX11_cost, cX11_cost, 3, (some .boolean), 2, 43, pg_X11_cost) = true := by decide +kernel
set_option maxRecDepth 20000 in
theorem ok_X10_isPost : m_okE mTT (yX10_isPost, cX10_isPost, 2, (some .boolean), 0, 0, pg_X10_isPost) = true := by decide +kernel
set_option maxRecDepth 20000 in
theorem ok_X10_power : m_okE mTT (yX10_power, cX10_power, 3, (some .boolean), 2, 43, pg_X10_power) = true := by decide +kernel
set_option maxRecDepth 20000 in
theorem ok_X11_isPost : m_okE mTT (yX11_isPost, cX11_isPost, 2, (some .boolean), 1, 22, pg_X11_isPost) = true := by decide +kernel
set_option maxRecDepth 20000 in
theorem ok_X11_power : m_okE mTT (yX11_power, cX11_power, 3, (some .boolean), 2, 43, pg_X11_power) = true := by decide +kernel
set_option maxRecDepth 20000 in
theorem ok_X10_lay : m_okE mTT (yX10_lay, cX10_lay, 4, (some .int), 2, 43, pg_X10_lay) = true := by decide +kernel
set_option maxRecDepth 20000 in
theorem ok_X11_between : m_okE mTT (yX11_between, cX11_between, 4, (some .int), 0, 0, pg_X11_between) = true := by decide +kernel
set_option maxRecDepth 20000 in
theorem ok_X11_lay : m_okE mTT (yX11_lay, cX11_lay, 5, (some .int), 2, 43, pg_X11_lay) = true := by decide +kernel
set_option maxRecDepth 20000 in
theorem ok_X10_learn : m_okE mTT (yX10_learn, cX10_learn, 2, (some .boolean), 2, 43, pg_X10_learn) = true := by decide +kernel
set_option maxRecDepth 20000 in
theorem ok_X11_learn : m_okE mTT (yX11_learn, cX11_learn, 1, (some .boolean), 4, 84, pg_X11_learn) = true := by decide +kernel
set_option maxRecDepth 20000 in
theorem ok_X10_canSend : m_okE mTT (yX10_canSend, cX10_canSend, 3, (some .boolean), 1, 21, pg_X10_canSend) = true := by decide +kernel
set_option maxRecDepth 20000 in
theorem ok_X10_reach : m_okE mTT (yX10_reach, cX10_reach, 7, (some .int), 0, 0, pg_X10_reach) = true := by decide +kernel
set_option maxRecDepth 20000 in
theorem ok_X10_parts : m_okE mTT (yX10_parts, cX10_parts, 7, none, 1, 26, pg_X10_parts) = true := by decide +kernel
set_option maxRecDepth 20000 in
theorem ok_X3_divide : m_okE mTT (yX3_divide, cX3_divide, 2, none, 2, 52, pg_X3_divide) = true := by decide +kernel
set_option maxRecDepth 20000 in
theorem ok_X3_without : m_okE mTT (yX3_without, cX3_without, 3, (some .int), 0, 0, pg_X3_without) = true := by decide +kernel
set_option maxRecDepth 20000 in
theorem ok_X3_match : m_okE mTT (yX3_match, cX3_match, 3, none, 1, 22, pg_X3_match) = true := by decide +kernel
set_option maxRecDepth 20000 in
theorem ok_X3_build : m_okE mTT (yX3_build, cX3_build, 7, none, 3, 73, pg_X3_build) = true := by decide +kernel
set_option maxRecDepth 20000 in
theorem ok_X7_forget : m_okE mTT (yX7_forget, cX7_forget, 1, none, 0, 0, pg_X7_forget) = true := by decide +kernel
set_option maxRecDepth 20000 in
theorem ok_X10_learntNet : m_okE mTT (yX10_learntNet, cX10_learntNet, 1, (some (.object "RedBlueWays$Net")), 4, 99, pg_X10_learntNet) = true := by decide +kernel
set_option maxRecDepth 20000 in
theorem ok_X7_cell : m_okE mTT (yX7_cell, cX7_cell, 3, (some .int), 0, 0, pg_X7_cell) = true := by decide +kernel
set_option maxRecDepth 20000 in
theorem ok_X3_linkOf : m_okE mTT (yX3_linkOf, cX3_linkOf, 3, (some .int), 1, 21, pg_X3_linkOf) = true := by decide +kernel
set_option maxRecDepth 20000 in
theorem ok_X7_putHop : m_okE mTT (yX7_putHop, cX7_putHop, 6, none, 2, 43, pg_X7_putHop) = true := by decide +kernel
set_option maxRecDepth 20000 in
theorem ok_X7_ownOf : m_okE mTT (yX7_ownOf, cX7_ownOf, 3, (some .int), 0, 0, pg_X7_ownOf) = true := by decide +kernel
set_option maxRecDepth 20000 in
theorem ok_X3_headFrom : m_okE mTT (yX3_headFrom, cX3_headFrom, 4, (some .int), 1, 22, pg_X3_headFrom) = true := by decide +kernel
set_option maxRecDepth 20000 in
theorem ok_X3_blockOf : m_okE mTT (yX3_blockOf, cX3_blockOf, 3, (some .int), 0, 0, pg_X3_blockOf) = true := by decide +kernel
set_option maxRecDepth 20000 in
theorem ok_X10_lowest : m_okE mTT (yX10_lowest, cX10_lowest, 2, (some .int), 0, 0, pg_X10_lowest) = true := by decide +kernel
set_option maxRecDepth 20000 in
theorem ok_X3_lastOf : m_okE mTT (yX3_lastOf, cX3_lastOf, 3, (some .int), 1, 21, pg_X3_lastOf) = true := by decide +kernel
set_option maxRecDepth 20000 in
theorem ok_X7_putRow : m_okE mTT (yX7_putRow, cX7_putRow, 2, none, 0, 0, pg_X7_putRow) = true := by decide +kernel
set_option maxRecDepth 20000 in
theorem ok_X7_nextOf : m_okE mTT (yX7_nextOf, cX7_nextOf, 7, (some .int), 1, 26, pg_X7_nextOf) = true := by decide +kernel
set_option maxRecDepth 20000 in
theorem ok_X7_arrange : m_okE mTT (yX7_arrange, cX7_arrange, 8, none, 2, 52, pg_X7_arrange) = true := by decide +kernel
set_option maxRecDepth 20000 in
theorem ok_X7_redHop : m_okE mTT (yX7_redHop, cX7_redHop, 5, (some .int), 1, 21, pg_X7_redHop) = true := by decide +kernel
set_option maxRecDepth 20000 in
theorem ok_X7_blueHop : m_okE mTT (yX7_blueHop, cX7_blueHop, 4, (some .int), 1, 21, pg_X7_blueHop) = true := by decide +kernel
set_option maxRecDepth 20000 in
theorem ok_X7_settle : m_okE mTT (yX7_settle, cX7_settle, 7, none, 3, 79, pg_X7_settle) = true := by decide +kernel
set_option maxRecDepth 20000 in
theorem ok_X7_prepare : m_okE mTT (yX7_prepare, cX7_prepare, 4, none, 4, 105, pg_X7_prepare) = true := by decide +kernel
set_option maxRecDepth 20000 in
theorem ok_X10_canGo : m_okE mTT (yX10_canGo, cX10_canGo, 3, (some .boolean), 5, 128, pg_X10_canGo) = true := by decide +kernel
set_option maxRecDepth 20000 in
theorem ok_X7_linkAt : m_okE mTT (yX7_linkAt, cX7_linkAt, 4, (some .int), 1, 22, pg_X7_linkAt) = true := by decide +kernel
set_option maxRecDepth 20000 in
theorem ok_X7_next : m_okE mTT (yX7_next, cX7_next, 4, (some .int), 1, 22, pg_X7_next) = true := by decide +kernel
set_option maxRecDepth 20000 in
theorem ok_X8_run : m_okE mTT (yX8_run, cX8_run, 8, none, 2, 45, pg_X8_run) = true := by decide +kernel
set_option maxRecDepth 20000 in
theorem ok_X8_tally : m_okE mTT (yX8_tally, cX8_tally, 3, none, 0, 0, pg_X8_tally) = true := by decide +kernel
set_option maxRecDepth 20000 in
theorem ok_X10_send : m_okE mTT (yX10_send, cX10_send, 3, (some .int), 6, 150, pg_X10_send) = true := by decide +kernel
set_option maxRecDepth 20000 in
theorem ok_X11_canSend : m_okE mTT (yX11_canSend, cX11_canSend, 3, (some .boolean), 2, 43, pg_X11_canSend) = true := by decide +kernel
set_option maxRecDepth 20000 in
theorem ok_X11_lays_ : m_okE mTT (yX11_lays_, cX11_lays_, 4, none, 1, 21, pg_X11_lays_) = true := by decide +kernel
set_option maxRecDepth 20000 in
theorem ok_X11_laysNet : m_okE mTT (yX11_laysNet, cX11_laysNet, 2, (some .int), 3, 64, pg_X11_laysNet) = true := by decide +kernel
set_option maxRecDepth 20000 in
theorem ok_X11_bitsOf : m_okE mTT (yX11_bitsOf, cX11_bitsOf, 3, (some .int), 0, 0, pg_X11_bitsOf) = true := by decide +kernel
set_option maxRecDepth 20000 in
theorem ok_X11_lowestOf : m_okE mTT (yX11_lowestOf, cX11_lowestOf, 2, (some .int), 1, 21, pg_X11_lowestOf) = true := by decide +kernel
set_option maxRecDepth 20000 in
theorem ok_X11_comes : m_okE mTT (yX11_comes, cX11_comes, 7, (some .int), 1, 21, pg_X11_comes) = true := by decide +kernel
set_option maxRecDepth 20000 in
theorem ok_X11_isOne : m_okE mTT (yX11_isOne, cX11_isOne, 3, (some .boolean), 2, 47, pg_X11_isOne) = true := by decide +kernel
set_option maxRecDepth 20000 in
theorem ok_X11_isTight : m_okE mTT (yX11_isTight, cX11_isTight, 4, (some .boolean), 3, 69, pg_X11_isTight) = true := by decide +kernel
set_option maxRecDepth 20000 in
theorem ok_X11_laysBlocks : m_okE mTT (yX11_laysBlocks, cX11_laysBlocks, 6, none, 4, 92, pg_X11_laysBlocks) = true := by decide +kernel

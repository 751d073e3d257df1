/-! ===== each program is right ===== -/
set_option maxRecDepth 20000 in
theorem ok_X0_nearest : m_okE mTT (yX0_nearest, cX0_nearest, 4, (some .int), 1, 21, pg_X0_nearest) = true := by decide +kernel
set_option maxRecDepth 20000 in
theorem ok_X0_lead : m_okE mTT (yX0_lead, cX0_lead, 9, none, 2, 48, pg_X0_lead) = true := by decide +kernel
set_option maxRecDepth 20000 in
theorem ok_X0_trace : m_okE mTT (yX0_trace, cX0_trace, 6, none, 3, 76, pg_X0_trace) = true := by decide +kernel
set_option maxRecDepth 20000 in
theorem ok_X0_at : m_okE mTT (yX0_at, cX0_at, 4, (some .int), 0, 0, pg_X0_at) = true := by decide +kernel
set_option maxRecDepth 20000 in
theorem ok_X10_ear : m_okE mTT (yX10_ear, cX10_ear, 5, (some .int), 6, 150, pg_X10_ear) = true := by decide +kernel
set_option maxRecDepth 20000 in
theorem ok_X11_freeFrom : m_okE mTT (yX11_freeFrom, cX11_freeFrom, 4, (some .int), 1, 21, pg_X11_freeFrom) = true := by decide +kernel
set_option maxRecDepth 20000 in
theorem ok_X11_goesTo : m_okE mTT (yX11_goesTo, cX11_goesTo, 3, none, 1, 23, pg_X11_goesTo) = true := by decide +kernel
set_option maxRecDepth 20000 in
theorem ok_X11_laysFarFrom : m_okE mTT (yX11_laysFarFrom, cX11_laysFarFrom, 8, none, 1, 21, pg_X11_laysFarFrom) = true := by decide +kernel
set_option maxRecDepth 20000 in
theorem ok_X11_canGo : m_okE mTT (yX11_canGo, cX11_canGo, 5, (some .boolean), 1, 21, pg_X11_canGo) = true := by decide +kernel
set_option maxRecDepth 20000 in
theorem ok_X11_laysEar : m_okE mTT (yX11_laysEar, cX11_laysEar, 7, none, 2, 48, pg_X11_laysEar) = true := by decide +kernel
set_option maxRecDepth 20000 in
theorem ok_X11_laysEars : m_okE mTT (yX11_laysEars, cX11_laysEars, 4, none, 4, 85, pg_X11_laysEars) = true := by decide +kernel
set_option maxRecDepth 20000 in
theorem ok_X11_ear : m_okE mTT (yX11_ear, cX11_ear, 6, (some .int), 7, 163, pg_X11_ear) = true := by decide +kernel
set_option maxRecDepth 20000 in
theorem ok_X10_would : m_okE mTT (yX10_would, cX10_would, 4, (some .int), 6, 150, pg_X10_would) = true := by decide +kernel
set_option maxRecDepth 20000 in
theorem ok_X11_would : m_okE mTT (yX11_would, cX11_would, 5, (some .int), 7, 167, pg_X11_would) = true := by decide +kernel
set_option maxRecDepth 20000 in
theorem ok_X10_comes : m_okE mTT (yX10_comes, cX10_comes, 4, (some .boolean), 3, 72, pg_X10_comes) = true := by decide +kernel
set_option maxRecDepth 20000 in
theorem ok_X10_loss : m_okE mTT (yX10_loss, cX10_loss, 6, (some .int), 6, 150, pg_X10_loss) = true := by decide +kernel
set_option maxRecDepth 20000 in
theorem ok_X11_loss : m_okE mTT (yX11_loss, cX11_loss, 6, (some .int), 7, 167, pg_X11_loss) = true := by decide +kernel
set_option maxRecDepth 20000 in
theorem ok_X6_joined : m_okE mTT (yX6_joined, cX6_joined, 8, (some .boolean), 1, 21, pg_X6_joined) = true := by decide +kernel
set_option maxRecDepth 20000 in
theorem ok_X10_weak : m_okE mTT (yX10_weak, cX10_weak, 9, (some .int), 6, 150, pg_X10_weak) = true := by decide +kernel
set_option maxRecDepth 20000 in
theorem ok_X11_weak : m_okE mTT (yX11_weak, cX11_weak, 8, (some .int), 7, 167, pg_X11_weak) = true := by decide +kernel
set_option maxRecDepth 20000 in
theorem ok_X10_fillLoads : m_okE mTT (yX10_fillLoads, cX10_fillLoads, 4, (some .int), 6, 150, pg_X10_fillLoads) = true := by decide +kernel
set_option maxRecDepth 20000 in
theorem ok_X10_load : m_okE mTT (yX10_load, cX10_load, 2, (some .int), 7, 173, pg_X10_load) = true := by decide +kernel
set_option maxRecDepth 20000 in
theorem ok_X11_laysLoads : m_okE mTT (yX11_laysLoads, cX11_laysLoads, 4, none, 7, 167, pg_X11_laysLoads) = true := by decide +kernel
set_option maxRecDepth 20000 in
theorem ok_X11_load : m_okE mTT (yX11_load, cX11_load, 2, (some .int), 8, 190, pg_X11_load) = true := by decide +kernel
set_option maxRecDepth 20000 in
theorem ok_X4_better : m_okE mTT (yX4_better, cX4_better, 4, (some .boolean), 0, 0, pg_X4_better) = true := by decide +kernel
set_option maxRecDepth 20000 in
theorem ok_X4_cheapest : m_okE mTT (yX4_cheapest, cX4_cheapest, 11, (some .int), 1, 23, pg_X4_cheapest) = true := by decide +kernel
set_option maxRecDepth 20000 in
theorem ok_X10_cheap : m_okE mTT (yX10_cheap, cX10_cheap, 4, (some .int), 2, 53, pg_X10_cheap) = true := by decide +kernel
set_option maxRecDepth 20000 in
theorem ok_X11_costOf : m_okE mTT (yX11_costOf, cX11_costOf, 3, (some .int), 1, 23, pg_X11_costOf) = true := by decide +kernel
set_option maxRecDepth 20000 in
theorem ok_X11_laysWays : m_okE mTT (yX11_laysWays, cX11_laysWays, 9, none, 4, 85, pg_X11_laysWays) = true := by decide +kernel
set_option maxRecDepth 20000 in
theorem ok_X11_cheap : m_okE mTT (yX11_cheap, cX11_cheap, 5, (some .int), 5, 113, pg_X11_cheap) = true := by decide +kernel
set_option maxRecDepth 20000 in
theorem ok_X4_cheapestTwo : m_okE mTT (yX4_cheapestTwo, cX4_cheapestTwo, 12, (some .int), 2, 53, pg_X4_cheapestTwo) = true := by decide +kernel
set_option maxRecDepth 20000 in
theorem ok_X10_pair : m_okE mTT (yX10_pair, cX10_pair, 4, (some .int), 3, 84, pg_X10_pair) = true := by decide +kernel
set_option maxRecDepth 20000 in
theorem ok_X11_pair : m_okE mTT (yX11_pair, cX11_pair, 6, (some .int), 5, 113, pg_X11_pair) = true := by decide +kernel
set_option maxRecDepth 20000 in
theorem ok_X7_priceAlong : m_okE mTT (yX7_priceAlong, cX7_priceAlong, 9, (some .int), 2, 45, pg_X7_priceAlong) = true := by decide +kernel
set_option maxRecDepth 20000 in
theorem ok_X10_dear : m_okE mTT (yX10_dear, cX10_dear, 4, (some .int), 6, 150, pg_X10_dear) = true := by decide +kernel
set_option maxRecDepth 20000 in
theorem ok_X11_dear : m_okE mTT (yX11_dear, cX11_dear, 7, (some .int), 7, 163, pg_X11_dear) = true := by decide +kernel
set_option maxRecDepth 20000 in
theorem ok_J6_bitCount_0f7a4 : m_okE mTT (yJ6_bitCount_0f7a4, cJ6_bitCount_0f7a4, 1, (some .int), 0, 0, pg_J6_bitCount_0f7a4) = true := by decide +kernel
set_option maxRecDepth 20000 in
theorem ok_X1_partsWithout : m_okE mTT (yX1_partsWithout, cX1_partsWithout, 4, (some .int), 2, 43, pg_X1_partsWithout) = true := by decide +kernel
set_option maxRecDepth 20000 in
theorem ok_X1_endsAt : m_okE mTT (yX1_endsAt, cX1_endsAt, 6, (some .int), 2, 43, pg_X1_endsAt) = true := by decide +kernel
set_option maxRecDepth 20000 in
theorem ok_X1_need : m_okE mTT (yX1_need, cX1_need, 6, (some .int), 3, 68, pg_X1_need) = true := by decide +kernel
set_option maxRecDepth 20000 in
theorem ok_X1_isNew : m_okE mTT (yX1_isNew, cX1_isNew, 3, (some .boolean), 1, 21, pg_X1_isNew) = true := by decide +kernel
set_option maxRecDepth 20000 in
theorem ok_X1_flip : m_okE mTT (yX1_flip, cX1_flip, 3, none, 3, 73, pg_X1_flip) = true := by decide +kernel
set_option maxRecDepth 20000 in
theorem ok_X1_helps : m_okE mTT (yX1_helps, cX1_helps, 4, (some .boolean), 4, 95, pg_X1_helps) = true := by decide +kernel
set_option maxRecDepth 20000 in
theorem ok_X1_plan : m_okE mTT (yX1_plan, cX1_plan, 5, none, 5, 118, pg_X1_plan) = true := by decide +kernel
set_option maxRecDepth 20000 in
theorem ok_X10_grow : m_okE mTT (yX10_grow, cX10_grow, 2, (some .int), 6, 142, pg_X10_grow) = true := by decide +kernel
set_option maxRecDepth 20000 in
theorem ok_X11_isTied : m_okE mTT (yX11_isTied, cX11_isTied, 1, (some .boolean), 4, 92, pg_X11_isTied) = true := by decide +kernel
set_option maxRecDepth 20000 in
theorem ok_X11_nextPick : m_okE mTT (yX11_nextPick, cX11_nextPick, 4, (some .boolean), 0, 0, pg_X11_nextPick) = true := by decide +kernel
set_option maxRecDepth 20000 in
theorem ok_X11_areEnough : m_okE mTT (yX11_areEnough, cX11_areEnough, 6, (some .boolean), 5, 112, pg_X11_areEnough) = true := by decide +kernel
set_option maxRecDepth 20000 in
theorem ok_X11_grow : m_okE mTT (yX11_grow, cX11_grow, 4, (some .int), 6, 137, pg_X11_grow) = true := by decide +kernel
set_option maxRecDepth 20000 in
theorem ok_X10_hold : m_okE mTT (yX10_hold, cX10_hold, 2, (some .boolean), 1, 22, pg_X10_hold) = true := by decide +kernel
set_option maxRecDepth 20000 in
theorem ok_X11_hold : m_okE mTT (yX11_hold, cX11_hold, 3, (some .boolean), 1, 22, pg_X11_hold) = true := by decide +kernel

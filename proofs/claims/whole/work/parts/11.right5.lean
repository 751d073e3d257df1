/-! ===== each program is right ===== -/
set_option maxRecDepth 20000 in
theorem ok_X10_restore : m_okE mTT (yX10_restore, cX10_restore, 2, (some .boolean), 1, 22, pg_X10_restore) = true := by decide +kernel
set_option maxRecDepth 20000 in
theorem ok_X11_restore : m_okE mTT (yX11_restore, cX11_restore, 3, (some .boolean), 1, 22, pg_X11_restore) = true := by decide +kernel
set_option maxRecDepth 20000 in
theorem ok_X3_isTied : m_okE mTT (yX3_isTied, cX3_isTied, 2, (some .boolean), 1, 21, pg_X3_isTied) = true := by decide +kernel
set_option maxRecDepth 20000 in
theorem ok_X10_clearPosts : m_okE mTT (yX10_clearPosts, cX10_clearPosts, 3, (some .int), 6, 150, pg_X10_clearPosts) = true := by decide +kernel
set_option maxRecDepth 20000 in
theorem ok_X10_count : m_okE mTT (yX10_count, cX10_count, 2, (some .int), 7, 173, pg_X10_count) = true := by decide +kernel
set_option maxRecDepth 20000 in
theorem ok_X11_apartFromRoot : m_okE mTT (yX11_apartFromRoot, cX11_apartFromRoot, 3, (some .int), 7, 163, pg_X11_apartFromRoot) = true := by decide +kernel
set_option maxRecDepth 20000 in
theorem ok_X11_count : m_okE mTT (yX11_count, cX11_count, 4, (some .int), 8, 190, pg_X11_count) = true := by decide +kernel

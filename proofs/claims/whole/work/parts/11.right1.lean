/-! ===== each program is right ===== -/
set_option maxRecDepth 20000 in
theorem ok_X6_init : m_okE mTT (yX6_init, cX6_init, 1, none, 1, 20, pg_X6_init) = true := by decide +kernel
set_option maxRecDepth 20000 in
theorem ok_X5_init : m_okE mTT (yX5_init, cX5_init, 1, none, 2, 40, pg_X5_init) = true := by decide +kernel
set_option maxRecDepth 20000 in
theorem ok_X2_init : m_okE mTT (yX2_init, cX2_init, 2, none, 2, 40, pg_X2_init) = true := by decide +kernel
set_option maxRecDepth 20000 in
theorem ok_X3_init : m_okE mTT (yX3_init, cX3_init, 1, none, 1, 20, pg_X3_init) = true := by decide +kernel
set_option maxRecDepth 20000 in
theorem ok_X7_init : m_okE mTT (yX7_init, cX7_init, 1, none, 1, 20, pg_X7_init) = true := by decide +kernel
set_option maxRecDepth 20000 in
theorem ok_X9_init : m_okE mTT (yX9_init, cX9_init, 1, none, 1, 20, pg_X9_init) = true := by decide +kernel
set_option maxRecDepth 20000 in
theorem ok_X0_init : m_okE mTT (yX0_init, cX0_init, 1, none, 1, 20, pg_X0_init) = true := by decide +kernel
set_option maxRecDepth 20000 in
theorem ok_X8_init : m_okE mTT (yX8_init, cX8_init, 1, none, 1, 20, pg_X8_init) = true := by decide +kernel
set_option maxRecDepth 20000 in
theorem ok_X4_init : m_okE mTT (yX4_init, cX4_init, 1, none, 1, 20, pg_X4_init) = true := by decide +kernel
set_option maxRecDepth 20000 in
theorem ok_X1_init : m_okE mTT (yX1_init, cX1_init, 1, none, 2, 40, pg_X1_init) = true := by decide +kernel
set_option maxRecDepth 20000 in
theorem ok_X10_init : m_okE mTT (yX10_init, cX10_init, 2, none, 3, 61, pg_X10_init) = true := by decide +kernel
set_option maxRecDepth 20000 in
theorem ok_X11_appends : m_okE mTT (yX11_appends, cX11_appends, 3, (some .long), 0, 0, pg_X11_appends) = true := by decide +kernel
set_option maxRecDepth 20000 in
theorem ok_X11_letters : m_okE mTT (yX11_letters, cX11_letters, 7, (some .long), 1, 22, pg_X11_letters) = true := by decide +kernel
set_option maxRecDepth 20000 in
theorem ok_X11_init : m_okE mTT (yX11_init, cX11_init, 1, none, 2, 48, pg_X11_init) = true := by decide +kernel
set_option maxRecDepth 20000 in
theorem ok_X5_hasRoom : m_okE mTT (yX5_hasRoom, cX5_hasRoom, 1, (some .boolean), 0, 0, pg_X5_hasRoom) = true := by decide +kernel
set_option maxRecDepth 20000 in
theorem ok_X5_append : m_okE mTT (yX5_append, cX5_append, 3, none, 0, 0, pg_X5_append) = true := by decide +kernel
set_option maxRecDepth 20000 in
theorem ok_X10_feed : m_okE mTT (yX10_feed, cX10_feed, 6, (some .int), 1, 22, pg_X10_feed) = true := by decide +kernel
set_option maxRecDepth 20000 in
theorem ok_X11_lays : m_okE mTT (yX11_lays, cX11_lays, 3, none, 0, 0, pg_X11_lays) = true := by decide +kernel
set_option maxRecDepth 20000 in
theorem ok_X11_feed : m_okE mTT (yX11_feed, cX11_feed, 6, (some .int), 1, 22, pg_X11_feed) = true := by decide +kernel
set_option maxRecDepth 20000 in
theorem ok_X10_back : m_okE mTT (yX10_back, cX10_back, 2, (some .int), 0, 0, pg_X10_back) = true := by decide +kernel
set_option maxRecDepth 20000 in
theorem ok_X11_back : m_okE mTT (yX11_back, cX11_back, 2, (some .int), 0, 0, pg_X11_back) = true := by decide +kernel
set_option maxRecDepth 20000 in
theorem ok_X5_byteAt : m_okE mTT (yX5_byteAt, cX5_byteAt, 2, (some .int), 0, 0, pg_X5_byteAt) = true := by decide +kernel
set_option maxRecDepth 20000 in
theorem ok_X5_isBlank : m_okE mTT (yX5_isBlank, cX5_isBlank, 1, (some .boolean), 0, 0, pg_X5_isBlank) = true := by decide +kernel
set_option maxRecDepth 20000 in
theorem ok_X5_afterBlanks : m_okE mTT (yX5_afterBlanks, cX5_afterBlanks, 4, (some .int), 1, 21, pg_X5_afterBlanks) = true := by decide +kernel
set_option maxRecDepth 20000 in
theorem ok_J0_coder_7d493 : m_okE mTT (yJ0_coder_7d493, cJ0_coder_7d493, 1, (some .byte), 0, 0, pg_J0_coder_7d493) = true := by decide +kernel
set_option maxRecDepth 20000 in
theorem ok_J0_length_8abf5 : m_okE mTT (yJ0_length_8abf5, cJ0_length_8abf5, 1, (some .int), 1, 20, pg_J0_length_8abf5) = true := by decide +kernel
set_option maxRecDepth 20000 in
theorem ok_X5_failAt : m_okE mTT (yX5_failAt, cX5_failAt, 3, (some .int), 0, 0, pg_X5_failAt) = true := by decide +kernel
set_option maxRecDepth 20000 in
theorem ok_X5_isLetter : m_okE mTT (yX5_isLetter, cX5_isLetter, 1, (some .boolean), 0, 0, pg_X5_isLetter) = true := by decide +kernel
set_option maxRecDepth 20000 in
theorem ok_X5_isDigit : m_okE mTT (yX5_isDigit, cX5_isDigit, 1, (some .boolean), 0, 0, pg_X5_isDigit) = true := by decide +kernel
set_option maxRecDepth 20000 in
theorem ok_X5_tokenEnd : m_okE mTT (yX5_tokenEnd, cX5_tokenEnd, 7, (some .int), 1, 21, pg_X5_tokenEnd) = true := by decide +kernel
set_option maxRecDepth 20000 in
theorem ok_J0_isLatin1_aae02 : m_okE mTT (yJ0_isLatin1_aae02, cJ0_isLatin1_aae02, 1, (some .boolean), 0, 0, pg_J0_isLatin1_aae02) = true := by decide +kernel
set_option maxRecDepth 20000 in
theorem ok_J3_checkIndex_8e157 : m_okE mTT (yJ3_checkIndex_8e157, cJ3_checkIndex_8e157, 3, (some .int), 0, 0, pg_J3_checkIndex_8e157) = true := by decide +kernel
set_option maxRecDepth 20000 in
theorem ok_J0_checkIndex_df160 : m_okE mTT (yJ0_checkIndex_df160, cJ0_checkIndex_df160, 2, none, 1, 22, pg_J0_checkIndex_df160) = true := by decide +kernel
set_option maxRecDepth 20000 in
theorem ok_J1_charAt_3b067 : m_okE mTT (yJ1_charAt_3b067, cJ1_charAt_3b067, 2, (some .char), 2, 43, pg_J1_charAt_3b067) = true := by decide +kernel
set_option maxRecDepth 20000 in
theorem ok_J0_charAt_5068e : m_okE mTT (yJ0_charAt_5068e, cJ0_charAt_5068e, 2, (some .char), 3, 64, pg_J0_charAt_5068e) = true := by decide +kernel
set_option maxRecDepth 20000 in
theorem ok_X5_spells : m_okE mTT (yX5_spells, cX5_spells, 5, (some .boolean), 4, 85, pg_X5_spells) = true := by decide +kernel
set_option maxRecDepth 20000 in
theorem ok_X5_sortOf : m_okE mTT (yX5_sortOf, cX5_sortOf, 5, (some .int), 5, 109, pg_X5_sortOf) = true := by decide +kernel
set_option maxRecDepth 20000 in
theorem ok_X5_shapeOf : m_okE mTT (yX5_shapeOf, cX5_shapeOf, 1, (some (.object "java/lang/String")), 0, 0, pg_X5_shapeOf) = true := by decide +kernel
set_option maxRecDepth 20000 in
theorem ok_J0_isEmpty_aae02 : m_okE mTT (yJ0_isEmpty_aae02, cJ0_isEmpty_aae02, 1, (some .boolean), 0, 0, pg_J0_isEmpty_aae02) = true := by decide +kernel
set_option maxRecDepth 20000 in
theorem ok_X5_goesOn : m_okE mTT (yX5_goesOn, cX5_goesOn, 3, (some .boolean), 4, 85, pg_X5_goesOn) = true := by decide +kernel
set_option maxRecDepth 20000 in
theorem ok_X5_fits : m_okE mTT (yX5_fits, cX5_fits, 2, (some .boolean), 0, 0, pg_X5_fits) = true := by decide +kernel
set_option maxRecDepth 20000 in
theorem ok_X5_packed : m_okE mTT (yX5_packed, cX5_packed, 8, (some .long), 1, 21, pg_X5_packed) = true := by decide +kernel
set_option maxRecDepth 20000 in
theorem ok_X5_keepToken : m_okE mTT (yX5_keepToken, cX5_keepToken, 4, none, 2, 48, pg_X5_keepToken) = true := by decide +kernel
set_option maxRecDepth 20000 in
theorem ok_X5_split : m_okE mTT (yX5_split, cX5_split, 5, (some .int), 6, 133, pg_X5_split) = true := by decide +kernel
set_option maxRecDepth 20000 in
theorem ok_X5_kindAt : m_okE mTT (yX5_kindAt, cX5_kindAt, 2, (some .int), 0, 0, pg_X5_kindAt) = true := by decide +kernel
set_option maxRecDepth 20000 in
theorem ok_X5_valueAt : m_okE mTT (yX5_valueAt, cX5_valueAt, 2, (some .long), 0, 0, pg_X5_valueAt) = true := by decide +kernel
set_option maxRecDepth 20000 in
theorem ok_X5_find : m_okE mTT (yX5_find, cX5_find, 4, (some .int), 0, 0, pg_X5_find) = true := by decide +kernel
set_option maxRecDepth 20000 in
theorem ok_X5_mark : m_okE mTT (yX5_mark, cX5_mark, 3, none, 0, 0, pg_X5_mark) = true := by decide +kernel
set_option maxRecDepth 20000 in
theorem ok_X5_gather : m_okE mTT (yX5_gather, cX5_gather, 2, none, 1, 23, pg_X5_gather) = true := by decide +kernel
set_option maxRecDepth 20000 in
theorem ok_X6_clear : m_okE mTT (yX6_clear, cX6_clear, 1, none, 0, 0, pg_X6_clear) = true := by decide +kernel
set_option maxRecDepth 20000 in
theorem ok_X5_placeAt : m_okE mTT (yX5_placeAt, cX5_placeAt, 2, (some .int), 0, 0, pg_X5_placeAt) = true := by decide +kernel
set_option maxRecDepth 20000 in
theorem ok_X5_tellPost : m_okE mTT (yX5_tellPost, cX5_tellPost, 2, (some .int), 1, 23, pg_X5_tellPost) = true := by decide +kernel
set_option maxRecDepth 20000 in
theorem ok_X6_between : m_okE mTT (yX6_between, cX6_between, 4, (some .int), 0, 0, pg_X6_between) = true := by decide +kernel
set_option maxRecDepth 20000 in
theorem ok_X10_isCost : m_okE mTT (yX10_isCost, cX10_isCost, 1, (some .boolean), 0, 0, pg_X10_isCost) = true := by decide +kernel
set_option maxRecDepth 20000 in
theorem ok_X6_add : m_okE mTT (yX6_add, cX6_add, 4, none, 0, 0, pg_X6_add) = true := by decide +kernel
set_option maxRecDepth 20000 in
theorem ok_X5_tellLink : m_okE mTT (yX5_tellLink, cX5_tellLink, 5, (some .int), 1, 23, pg_X5_tellLink) = true := by decide +kernel
set_option maxRecDepth 20000 in
theorem ok_X5_tellOne : m_okE mTT (yX5_tellOne, cX5_tellOne, 4, (some .int), 1, 23, pg_X5_tellOne) = true := by decide +kernel
set_option maxRecDepth 20000 in
theorem ok_X10_has : m_okE mTT (yX10_has, cX10_has, 2, (some .boolean), 0, 0, pg_X10_has) = true := by decide +kernel
set_option maxRecDepth 20000 in
theorem ok_X5_tellDown : m_okE mTT (yX5_tellDown, cX5_tellDown, 4, (some .int), 1, 23, pg_X5_tellDown) = true := by decide +kernel
set_option maxRecDepth 20000 in
theorem ok_X5_tellLine : m_okE mTT (yX5_tellLine, cX5_tellLine, 2, (some .int), 2, 47, pg_X5_tellLine) = true := by decide +kernel
set_option maxRecDepth 20000 in
theorem ok_X5_tell : m_okE mTT (yX5_tell, cX5_tell, 3, (some .int), 3, 68, pg_X5_tell) = true := by decide +kernel
set_option maxRecDepth 20000 in
theorem ok_X6_live : m_okE mTT (yX6_live, cX6_live, 3, (some .int), 1, 21, pg_X6_live) = true := by decide +kernel
set_option maxRecDepth 20000 in
theorem ok_X5_finish : m_okE mTT (yX5_finish, cX5_finish, 2, none, 2, 43, pg_X5_finish) = true := by decide +kernel
set_option maxRecDepth 20000 in
theorem ok_X5_parse : m_okE mTT (yX5_parse, cX5_parse, 2, (some .int), 7, 157, pg_X5_parse) = true := by decide +kernel
set_option maxRecDepth 20000 in
theorem ok_X6_copy : m_okE mTT (yX6_copy, cX6_copy, 3, none, 0, 0, pg_X6_copy) = true := by decide +kernel
set_option maxRecDepth 20000 in
theorem ok_X2_forget : m_okE mTT (yX2_forget, cX2_forget, 1, none, 0, 0, pg_X2_forget) = true := by decide +kernel
set_option maxRecDepth 20000 in
theorem ok_X10_allChanged : m_okE mTT (yX10_allChanged, cX10_allChanged, 1, none, 0, 0, pg_X10_allChanged) = true := by decide +kernel
set_option maxRecDepth 20000 in
theorem ok_X10_read : m_okE mTT (yX10_read, cX10_read, 2, (some .int), 8, 178, pg_X10_read) = true := by decide +kernel
set_option maxRecDepth 20000 in
theorem ok_X11_byteAt : m_okE mTT (yX11_byteAt, cX11_byteAt, 2, (some .int), 0, 0, pg_X11_byteAt) = true := by decide +kernel
set_option maxRecDepth 20000 in
theorem ok_X11_token : m_okE mTT (yX11_token, cX11_token, 6, none, 0, 0, pg_X11_token) = true := by decide +kernel
set_option maxRecDepth 20000 in
theorem ok_X11_isLetter : m_okE mTT (yX11_isLetter, cX11_isLetter, 1, (some .boolean), 0, 0, pg_X11_isLetter) = true := by decide +kernel
set_option maxRecDepth 20000 in
theorem ok_X11_isDigit : m_okE mTT (yX11_isDigit, cX11_isDigit, 1, (some .boolean), 0, 0, pg_X11_isDigit) = true := by decide +kernel
set_option maxRecDepth 20000 in
theorem ok_X11_sign : m_okE mTT (yX11_sign, cX11_sign, 4, (some .int), 1, 25, pg_X11_sign) = true := by decide +kernel
set_option maxRecDepth 20000 in
theorem ok_X11_parts : m_okE mTT (yX11_parts, cX11_parts, 8, none, 2, 48, pg_X11_parts) = true := by decide +kernel
set_option maxRecDepth 20000 in
theorem ok_X11_is : m_okE mTT (yX11_is, cX11_is, 2, (some .boolean), 0, 0, pg_X11_is) = true := by decide +kernel
set_option maxRecDepth 20000 in
theorem ok_X11_fail : m_okE mTT (yX11_fail, cX11_fail, 2, none, 0, 0, pg_X11_fail) = true := by decide +kernel
set_option maxRecDepth 20000 in
theorem ok_X11_passes : m_okE mTT (yX11_passes, cX11_passes, 1, none, 1, 21, pg_X11_passes) = true := by decide +kernel
set_option maxRecDepth 20000 in
theorem ok_X11_must : m_okE mTT (yX11_must, cX11_must, 2, none, 2, 41, pg_X11_must) = true := by decide +kernel
set_option maxRecDepth 20000 in
theorem ok_X11_line : m_okE mTT (yX11_line, cX11_line, 2, none, 3, 62, pg_X11_line) = true := by decide +kernel

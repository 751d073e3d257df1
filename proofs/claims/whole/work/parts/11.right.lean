/-! ===== each program is right ===== -/
set_option maxRecDepth 20000 in
theorem ok_X6_init : m_okE mTT (yX6_init, cX6_init, 1, none, 1, 20, pg_X6_init) = true := by decide +kernel
set_option maxRecDepth 20000 in
theorem ok_X5_init : m_okE mTT (yX5_init, cX5_init, 1, none, 2, 40, pg_X5_init) = true := by decide +kernel
set_option maxRecDepth 20000 in
theorem ok_X2_init : m_okE mTT (yX2_init, cX2_init, 2, none, 2, 40, pg_X2_init) = true := by decide +kernel
set_option maxRecDepth 20000 in
theorem ok_X3_init : m_okE mTT (yX3_init, cX3_init, 1, none, 1, 20, pg_X3_init) = true := by decide +kernel
set_option maxRecDepth 20000 in
theorem ok_X7_init : m_okE mTT (yX7_init, cX7_init, 1, none, 1, 20, pg_X7_init) = true := by decide +kernel
set_option maxRecDepth 20000 in
theorem ok_X9_init : m_okE mTT (yX9_init, cX9_init, 1, none, 1, 20, pg_X9_init) = true := by decide +kernel
set_option maxRecDepth 20000 in
theorem ok_X0_init : m_okE mTT (yX0_init, cX0_init, 1, none, 1, 20, pg_X0_init) = true := by decide +kernel
set_option maxRecDepth 20000 in
theorem ok_X8_init : m_okE mTT (yX8_init, cX8_init, 1, none, 1, 20, pg_X8_init) = true := by decide +kernel
set_option maxRecDepth 20000 in
theorem ok_X4_init : m_okE mTT (yX4_init, cX4_init, 1, none, 1, 20, pg_X4_init) = true := by decide +kernel
set_option maxRecDepth 20000 in
theorem ok_X1_init : m_okE mTT (yX1_init, cX1_init, 1, none, 2, 40, pg_X1_init) = true := by decide +kernel
set_option maxRecDepth 20000 in
theorem ok_X10_init : m_okE mTT (yX10_init, cX10_init, 2, none, 3, 61, pg_X10_init) = true := by decide +kernel
set_option maxRecDepth 20000 in
theorem ok_X11_appends : m_okE mTT (yX11_appends, cX11_appends, 3, (some .long), 0, 0, pg_X11_appends) = true := by decide +kernel
set_option maxRecDepth 20000 in
theorem ok_X11_letters : m_okE mTT (yX11_letters, cX11_letters, 7, (some .long), 1, 22, pg_X11_letters) = true := by decide +kernel
set_option maxRecDepth 20000 in
theorem ok_X11_init : m_okE mTT (yX11_init, cX11_init, 1, none, 2, 48, pg_X11_init) = true := by decide +kernel
set_option maxRecDepth 20000 in
theorem ok_X5_hasRoom : m_okE mTT (yX5_hasRoom, cX5_hasRoom, 1, (some .boolean), 0, 0, pg_X5_hasRoom) = true := by decide +kernel
set_option maxRecDepth 20000 in
theorem ok_X5_append : m_okE mTT (yX5_append, cX5_append, 3, none, 0, 0, pg_X5_append) = true := by decide +kernel
set_option maxRecDepth 20000 in
theorem ok_X10_feed : m_okE mTT (yX10_feed, cX10_feed, 6, (some .int), 1, 22, pg_X10_feed) = true := by decide +kernel
set_option maxRecDepth 20000 in
theorem ok_X11_lays : m_okE mTT (yX11_lays, cX11_lays, 3, none, 0, 0, pg_X11_lays) = true := by decide +kernel
set_option maxRecDepth 20000 in
theorem ok_X11_feed : m_okE mTT (yX11_feed, cX11_feed, 6, (some .int), 1, 22, pg_X11_feed) = true := by decide +kernel
set_option maxRecDepth 20000 in
theorem ok_X10_back : m_okE mTT (yX10_back, cX10_back, 2, (some .int), 0, 0, pg_X10_back) = true := by decide +kernel
set_option maxRecDepth 20000 in
theorem ok_X11_back : m_okE mTT (yX11_back, cX11_back, 2, (some .int), 0, 0, pg_X11_back) = true := by decide +kernel
set_option maxRecDepth 20000 in
theorem ok_X5_byteAt : m_okE mTT (yX5_byteAt, cX5_byteAt, 2, (some .int), 0, 0, pg_X5_byteAt) = true := by decide +kernel
set_option maxRecDepth 20000 in
theorem ok_X5_isBlank : m_okE mTT (yX5_isBlank, cX5_isBlank, 1, (some .boolean), 0, 0, pg_X5_isBlank) = true := by decide +kernel
set_option maxRecDepth 20000 in
theorem ok_X5_afterBlanks : m_okE mTT (yX5_afterBlanks, cX5_afterBlanks, 4, (some .int), 1, 21, pg_X5_afterBlanks) = true := by decide +kernel
set_option maxRecDepth 20000 in
theorem ok_J0_coder_7d493 : m_okE mTT (yJ0_coder_7d493, cJ0_coder_7d493, 1, (some .byte), 0, 0, pg_J0_coder_7d493) = true := by decide +kernel
set_option maxRecDepth 20000 in
theorem ok_J0_length_8abf5 : m_okE mTT (yJ0_length_8abf5, cJ0_length_8abf5, 1, (some .int), 1, 20, pg_J0_length_8abf5) = true := by decide +kernel
set_option maxRecDepth 20000 in
theorem ok_X5_failAt : m_okE mTT (yX5_failAt, cX5_failAt, 3, (some .int), 0, 0, pg_X5_failAt) = true := by decide +kernel
set_option maxRecDepth 20000 in
theorem ok_X5_isLetter : m_okE mTT (yX5_isLetter, cX5_isLetter, 1, (some .boolean), 0, 0, pg_X5_isLetter) = true := by decide +kernel
set_option maxRecDepth 20000 in
theorem ok_X5_isDigit : m_okE mTT (yX5_isDigit, cX5_isDigit, 1, (some .boolean), 0, 0, pg_X5_isDigit) = true := by decide +kernel
set_option maxRecDepth 20000 in
theorem ok_X5_tokenEnd : m_okE mTT (yX5_tokenEnd, cX5_tokenEnd, 7, (some .int), 1, 21, pg_X5_tokenEnd) = true := by decide +kernel
set_option maxRecDepth 20000 in
theorem ok_J0_isLatin1_aae02 : m_okE mTT (yJ0_isLatin1_aae02, cJ0_isLatin1_aae02, 1, (some .boolean), 0, 0, pg_J0_isLatin1_aae02) = true := by decide +kernel
set_option maxRecDepth 20000 in
theorem ok_J3_checkIndex_8e157 : m_okE mTT (yJ3_checkIndex_8e157, cJ3_checkIndex_8e157, 3, (some .int), 0, 0, pg_J3_checkIndex_8e157) = true := by decide +kernel
set_option maxRecDepth 20000 in
theorem ok_J0_checkIndex_df160 : m_okE mTT (yJ0_checkIndex_df160, cJ0_checkIndex_df160, 2, none, 1, 22, pg_J0_checkIndex_df160) = true := by decide +kernel
set_option maxRecDepth 20000 in
theorem ok_J1_charAt_3b067 : m_okE mTT (yJ1_charAt_3b067, cJ1_charAt_3b067, 2, (some .char), 2, 43, pg_J1_charAt_3b067) = true := by decide +kernel
set_option maxRecDepth 20000 in
theorem ok_J0_charAt_5068e : m_okE mTT (yJ0_charAt_5068e, cJ0_charAt_5068e, 2, (some .char), 3, 64, pg_J0_charAt_5068e) = true := by decide +kernel
set_option maxRecDepth 20000 in
theorem ok_X5_spells : m_okE mTT (yX5_spells, cX5_spells, 5, (some .boolean), 4, 85, pg_X5_spells) = true := by decide +kernel
set_option maxRecDepth 20000 in
theorem ok_X5_sortOf : m_okE mTT (yX5_sortOf, cX5_sortOf, 5, (some .int), 5, 109, pg_X5_sortOf) = true := by decide +kernel
set_option maxRecDepth 20000 in
theorem ok_X5_shapeOf : m_okE mTT (yX5_shapeOf, cX5_shapeOf, 1, (some (.object "java/lang/String")), 0, 0, pg_X5_shapeOf) = true := by decide +kernel
set_option maxRecDepth 20000 in
theorem ok_J0_isEmpty_aae02 : m_okE mTT (yJ0_isEmpty_aae02, cJ0_isEmpty_aae02, 1, (some .boolean), 0, 0, pg_J0_isEmpty_aae02) = true := by decide +kernel
set_option maxRecDepth 20000 in
theorem ok_X5_goesOn : m_okE mTT (yX5_goesOn, cX5_goesOn, 3, (some .boolean), 4, 85, pg_X5_goesOn) = true := by decide +kernel
set_option maxRecDepth 20000 in
theorem ok_X5_fits : m_okE mTT (yX5_fits, cX5_fits, 2, (some .boolean), 0, 0, pg_X5_fits) = true := by decide +kernel
set_option maxRecDepth 20000 in
theorem ok_X5_packed : m_okE mTT (yX5_packed, cX5_packed, 8, (some .long), 1, 21, pg_X5_packed) = true := by decide +kernel
set_option maxRecDepth 20000 in
theorem ok_X5_keepToken : m_okE mTT (yX5_keepToken, cX5_keepToken, 4, none, 2, 48, pg_X5_keepToken) = true := by decide +kernel
set_option maxRecDepth 20000 in
theorem ok_X5_split : m_okE mTT (yX5_split, cX5_split, 5, (some .int), 6, 133, pg_X5_split) = true := by decide +kernel
set_option maxRecDepth 20000 in
theorem ok_X5_kindAt : m_okE mTT (yX5_kindAt, cX5_kindAt, 2, (some .int), 0, 0, pg_X5_kindAt) = true := by decide +kernel
set_option maxRecDepth 20000 in
theorem ok_X5_valueAt : m_okE mTT (yX5_valueAt, cX5_valueAt, 2, (some .long), 0, 0, pg_X5_valueAt) = true := by decide +kernel
set_option maxRecDepth 20000 in
theorem ok_X5_find : m_okE mTT (yX5_find, cX5_find, 4, (some .int), 0, 0, pg_X5_find) = true := by decide +kernel
set_option maxRecDepth 20000 in
theorem ok_X5_mark : m_okE mTT (yX5_mark, cX5_mark, 3, none, 0, 0, pg_X5_mark) = true := by decide +kernel
set_option maxRecDepth 20000 in
theorem ok_X5_gather : m_okE mTT (yX5_gather, cX5_gather, 2, none, 1, 23, pg_X5_gather) = true := by decide +kernel
set_option maxRecDepth 20000 in
theorem ok_X6_clear : m_okE mTT (yX6_clear, cX6_clear, 1, none, 0, 0, pg_X6_clear) = true := by decide +kernel
set_option maxRecDepth 20000 in
theorem ok_X5_placeAt : m_okE mTT (yX5_placeAt, cX5_placeAt, 2, (some .int), 0, 0, pg_X5_placeAt) = true := by decide +kernel
set_option maxRecDepth 20000 in
theorem ok_X5_tellPost : m_okE mTT (yX5_tellPost, cX5_tellPost, 2, (some .int), 1, 23, pg_X5_tellPost) = true := by decide +kernel
set_option maxRecDepth 20000 in
theorem ok_X6_between : m_okE mTT (yX6_between, cX6_between, 4, (some .int), 0, 0, pg_X6_between) = true := by decide +kernel
set_option maxRecDepth 20000 in
theorem ok_X10_isCost : m_okE mTT (yX10_isCost, cX10_isCost, 1, (some .boolean), 0, 0, pg_X10_isCost) = true := by decide +kernel
set_option maxRecDepth 20000 in
theorem ok_X6_add : m_okE mTT (yX6_add, cX6_add, 4, none, 0, 0, pg_X6_add) = true := by decide +kernel
set_option maxRecDepth 20000 in
theorem ok_X5_tellLink : m_okE mTT (yX5_tellLink, cX5_tellLink, 5, (some .int), 1, 23, pg_X5_tellLink) = true := by decide +kernel
set_option maxRecDepth 20000 in
theorem ok_X5_tellOne : m_okE mTT (yX5_tellOne, cX5_tellOne, 4, (some .int), 1, 23, pg_X5_tellOne) = true := by decide +kernel
set_option maxRecDepth 20000 in
theorem ok_X10_has : m_okE mTT (yX10_has, cX10_has, 2, (some .boolean), 0, 0, pg_X10_has) = true := by decide +kernel
set_option maxRecDepth 20000 in
theorem ok_X5_tellDown : m_okE mTT (yX5_tellDown, cX5_tellDown, 4, (some .int), 1, 23, pg_X5_tellDown) = true := by decide +kernel
set_option maxRecDepth 20000 in
theorem ok_X5_tellLine : m_okE mTT (yX5_tellLine, cX5_tellLine, 2, (some .int), 2, 47, pg_X5_tellLine) = true := by decide +kernel
set_option maxRecDepth 20000 in
theorem ok_X5_tell : m_okE mTT (yX5_tell, cX5_tell, 3, (some .int), 3, 68, pg_X5_tell) = true := by decide +kernel
set_option maxRecDepth 20000 in
theorem ok_X6_live : m_okE mTT (yX6_live, cX6_live, 3, (some .int), 1, 21, pg_X6_live) = true := by decide +kernel
set_option maxRecDepth 20000 in
theorem ok_X5_finish : m_okE mTT (yX5_finish, cX5_finish, 2, none, 2, 43, pg_X5_finish) = true := by decide +kernel
set_option maxRecDepth 20000 in
theorem ok_X5_parse : m_okE mTT (yX5_parse, cX5_parse, 2, (some .int), 7, 157, pg_X5_parse) = true := by decide +kernel
set_option maxRecDepth 20000 in
theorem ok_X6_copy : m_okE mTT (yX6_copy, cX6_copy, 3, none, 0, 0, pg_X6_copy) = true := by decide +kernel
set_option maxRecDepth 20000 in
theorem ok_X2_forget : m_okE mTT (yX2_forget, cX2_forget, 1, none, 0, 0, pg_X2_forget) = true := by decide +kernel
set_option maxRecDepth 20000 in
theorem ok_X10_allChanged : m_okE mTT (yX10_allChanged, cX10_allChanged, 1, none, 0, 0, pg_X10_allChanged) = true := by decide +kernel
set_option maxRecDepth 20000 in
theorem ok_X10_read : m_okE mTT (yX10_read, cX10_read, 2, (some .int), 8, 178, pg_X10_read) = true := by decide +kernel
set_option maxRecDepth 20000 in
theorem ok_X11_byteAt : m_okE mTT (yX11_byteAt, cX11_byteAt, 2, (some .int), 0, 0, pg_X11_byteAt) = true := by decide +kernel
set_option maxRecDepth 20000 in
theorem ok_X11_token : m_okE mTT (yX11_token, cX11_token, 6, none, 0, 0, pg_X11_token) = true := by decide +kernel
set_option maxRecDepth 20000 in
theorem ok_X11_isLetter : m_okE mTT (yX11_isLetter, cX11_isLetter, 1, (some .boolean), 0, 0, pg_X11_isLetter) = true := by decide +kernel
set_option maxRecDepth 20000 in
theorem ok_X11_isDigit : m_okE mTT (yX11_isDigit, cX11_isDigit, 1, (some .boolean), 0, 0, pg_X11_isDigit) = true := by decide +kernel
set_option maxRecDepth 20000 in
theorem ok_X11_sign : m_okE mTT (yX11_sign, cX11_sign, 4, (some .int), 1, 25, pg_X11_sign) = true := by decide +kernel
set_option maxRecDepth 20000 in
theorem ok_X11_parts : m_okE mTT (yX11_parts, cX11_parts, 8, none, 2, 48, pg_X11_parts) = true := by decide +kernel
set_option maxRecDepth 20000 in
theorem ok_X11_is : m_okE mTT (yX11_is, cX11_is, 2, (some .boolean), 0, 0, pg_X11_is) = true := by decide +kernel
set_option maxRecDepth 20000 in
theorem ok_X11_fail : m_okE mTT (yX11_fail, cX11_fail, 2, none, 0, 0, pg_X11_fail) = true := by decide +kernel
set_option maxRecDepth 20000 in
theorem ok_X11_passes : m_okE mTT (yX11_passes, cX11_passes, 1, none, 1, 21, pg_X11_passes) = true := by decide +kernel
set_option maxRecDepth 20000 in
theorem ok_X11_must : m_okE mTT (yX11_must, cX11_must, 2, none, 2, 41, pg_X11_must) = true := by decide +kernel
set_option maxRecDepth 20000 in
theorem ok_X11_line : m_okE mTT (yX11_line, cX11_line, 2, none, 3, 62, pg_X11_line) = true := by decide +kernel
set_option maxRecDepth 20000 in
theorem ok_X11_wrong : m_okE mTT (yX11_wrong, cX11_wrong, 4, none, 0, 0, pg_X11_wrong) = true := by decide +kernel
set_option maxRecDepth 20000 in
theorem ok_X11_named : m_okE mTT (yX11_named, cX11_named, 3, (some .int), 0, 0, pg_X11_named) = true := by decide +kernel
set_option maxRecDepth 20000 in
theorem ok_X11_known : m_okE mTT (yX11_known, cX11_known, 3, (some .int), 1, 23, pg_X11_known) = true := by decide +kernel
set_option maxRecDepth 20000 in
theorem ok_X11_isLinked : m_okE mTT (yX11_isLinked, cX11_isLinked, 7, (some .boolean), 1, 22, pg_X11_isLinked) = true := by decide +kernel
set_option maxRecDepth 20000 in
theorem ok_X11_in : m_okE mTT (yX11_in, cX11_in, 3, (some .boolean), 0, 0, pg_X11_in) = true := by decide +kernel
set_option maxRecDepth 20000 in
theorem ok_X11_meansLink : m_okE mTT (yX11_meansLink, cX11_meansLink, 6, none, 2, 48, pg_X11_meansLink) = true := by decide +kernel
set_option maxRecDepth 20000 in
theorem ok_X11_meansDown : m_okE mTT (yX11_meansDown, cX11_meansDown, 5, none, 1, 22, pg_X11_meansDown) = true := by decide +kernel
set_option maxRecDepth 20000 in
theorem ok_X11_means : m_okE mTT (yX11_means, cX11_means, 6, none, 3, 73, pg_X11_means) = true := by decide +kernel
set_option maxRecDepth 20000 in
theorem ok_X11_has : m_okE mTT (yX11_has, cX11_has, 2, (some .boolean), 0, 0, pg_X11_has) = true := by decide +kernel
set_option maxRecDepth 20000 in
theorem ok_X11_isOn : m_okE mTT (yX11_isOn, cX11_isOn, 2, (some .boolean), 1, 21, pg_X11_isOn) = true := by decide +kernel
set_option maxRecDepth 20000 in
theorem ok_X11_netLinks : m_okE mTT (yX11_netLinks, cX11_netLinks, 3, (some .int), 2, 42, pg_X11_netLinks) = true := by decide +kernel
set_option maxRecDepth 20000 in
theorem ok_X11_learns : m_okE mTT (yX11_learns, cX11_learns, 1, none, 3, 64, pg_X11_learns) = true := by decide +kernel
set_option maxRecDepth 20000 in
theorem ok_X11_read : m_okE mTT (yX11_read, cX11_read, 2, (some .int), 4, 98, pg_X11_read) = true := by decide +kernel
set_option maxRecDepth 20000 in
theorem ok_X10_place : m_okE mTT (yX10_place, cX10_place, 1, (some .int), 0, 0, pg_X10_place) = true := by decide +kernel
set_option maxRecDepth 20000 in
theorem ok_X11_place : m_okE mTT (yX11_place, cX11_place, 1, (some .int), 0, 0, pg_X11_place) = true := by decide +kernel
set_option maxRecDepth 20000 in
theorem ok_X10_isLink : m_okE mTT (yX10_isLink, cX10_isLink, 2, (some .boolean), 0, 0, pg_X10_isLink) = true := by decide +kernel
set_option maxRecDepth 20000 in
theorem ok_J9_min_7cf53 : m_okE mTT (yJ9_min_7cf53, cJ9_min_7cf53, 2, (some .int), 0, 0, pg_J9_min_7cf53) = true := by decide +kernel
set_option maxRecDepth 20000 in
theorem ok_X2_keep : m_okE mTT (yX2_keep, cX2_keep, 2, none, 1, 22, pg_X2_keep) = true := by decide +kernel
set_option maxRecDepth 20000 in
theorem ok_X10_join : m_okE mTT (yX10_join, cX10_join, 3, (some .boolean), 2, 43, pg_X10_join) = true := by decide +kernel
set_option maxRecDepth 20000 in
theorem ok_X11_isLink : m_okE mTT (yX11_isLink, cX11_isLink, 2, (some .boolean), 1, 22, pg_X11_isLink) = true := by decide +kernel
set_option maxRecDepth 20000 in
theorem ok_X11_marks : m_okE mTT (yX11_marks, cX11_marks, 3, none, 0, 0, pg_X11_marks) = true := by decide +kernel
set_option maxRecDepth 20000 in
theorem ok_X11_join : m_okE mTT (yX11_join, cX11_join, 3, (some .boolean), 2, 43, pg_X11_join) = true := by decide +kernel
set_option maxRecDepth 20000 in
theorem ok_X10_cost : m_okE mTT (yX10_cost, cX10_cost, 3, (some .boolean), 2, 43, pg_X10_cost) = true := by decide +kernel
set_option maxRecDepth 20000 in
theorem ok_X11_cost : m_okE mTT (yX11_cost, cX11_cost, 3, (some .boolean), 2, 43, pg_X11_cost) = true := by decide +kernel
set_option maxRecDepth 20000 in
theorem ok_X10_isPost : m_okE mTT (yX10_isPost, cX10_isPost, 2, (some .boolean), 0, 0, pg_X10_isPost) = true := by decide +kernel
set_option maxRecDepth 20000 in
theorem ok_X10_power : m_okE mTT (yX10_power, cX10_power, 3, (some .boolean), 2, 43, pg_X10_power) = true := by decide +kernel
set_option maxRecDepth 20000 in
theorem ok_X11_isPost : m_okE mTT (yX11_isPost, cX11_isPost, 2, (some .boolean), 1, 22, pg_X11_isPost) = true := by decide +kernel
set_option maxRecDepth 20000 in
theorem ok_X11_power : m_okE mTT (yX11_power, cX11_power, 3, (some .boolean), 2, 43, pg_X11_power) = true := by decide +kernel
set_option maxRecDepth 20000 in
theorem ok_X10_lay : m_okE mTT (yX10_lay, cX10_lay, 4, (some .int), 2, 43, pg_X10_lay) = true := by decide +kernel
set_option maxRecDepth 20000 in
theorem ok_X11_between : m_okE mTT (yX11_between, cX11_between, 4, (some .int), 0, 0, pg_X11_between) = true := by decide +kernel
set_option maxRecDepth 20000 in
theorem ok_X11_lay : m_okE mTT (yX11_lay, cX11_lay, 5, (some .int), 2, 43, pg_X11_lay) = true := by decide +kernel
set_option maxRecDepth 20000 in
theorem ok_X10_learn : m_okE mTT (yX10_learn, cX10_learn, 2, (some .boolean), 2, 43, pg_X10_learn) = true := by decide +kernel
set_option maxRecDepth 20000 in
theorem ok_X11_learn : m_okE mTT (yX11_learn, cX11_learn, 1, (some .boolean), 4, 84, pg_X11_learn) = true := by decide +kernel
set_option maxRecDepth 20000 in
theorem ok_X10_canSend : m_okE mTT (yX10_canSend, cX10_canSend, 3, (some .boolean), 1, 21, pg_X10_canSend) = true := by decide +kernel
set_option maxRecDepth 20000 in
theorem ok_X10_reach : m_okE mTT (yX10_reach, cX10_reach, 7, (some .int), 0, 0, pg_X10_reach) = true := by decide +kernel
set_option maxRecDepth 20000 in
theorem ok_X10_parts : m_okE mTT (yX10_parts, cX10_parts, 7, none, 1, 26, pg_X10_parts) = true := by decide +kernel
set_option maxRecDepth 20000 in
theorem ok_X3_divide : m_okE mTT (yX3_divide, cX3_divide, 2, none, 2, 52, pg_X3_divide) = true := by decide +kernel
set_option maxRecDepth 20000 in
theorem ok_X3_without : m_okE mTT (yX3_without, cX3_without, 3, (some .int), 0, 0, pg_X3_without) = true := by decide +kernel
set_option maxRecDepth 20000 in
theorem ok_X3_match : m_okE mTT (yX3_match, cX3_match, 3, none, 1, 22, pg_X3_match) = true := by decide +kernel
set_option maxRecDepth 20000 in
theorem ok_X3_build : m_okE mTT (yX3_build, cX3_build, 7, none, 3, 73, pg_X3_build) = true := by decide +kernel
set_option maxRecDepth 20000 in
theorem ok_X7_forget : m_okE mTT (yX7_forget, cX7_forget, 1, none, 0, 0, pg_X7_forget) = true := by decide +kernel
set_option maxRecDepth 20000 in
theorem ok_X10_learntNet : m_okE mTT (yX10_learntNet, cX10_learntNet, 1, (some (.object "RedBlueWays$Net")), 4, 99, pg_X10_learntNet) = true := by decide +kernel
set_option maxRecDepth 20000 in
theorem ok_X7_cell : m_okE mTT (yX7_cell, cX7_cell, 3, (some .int), 0, 0, pg_X7_cell) = true := by decide +kernel
set_option maxRecDepth 20000 in
theorem ok_X3_linkOf : m_okE mTT (yX3_linkOf, cX3_linkOf, 3, (some .int), 1, 21, pg_X3_linkOf) = true := by decide +kernel
set_option maxRecDepth 20000 in
theorem ok_X7_putHop : m_okE mTT (yX7_putHop, cX7_putHop, 6, none, 2, 43, pg_X7_putHop) = true := by decide +kernel
set_option maxRecDepth 20000 in
theorem ok_X7_ownOf : m_okE mTT (yX7_ownOf, cX7_ownOf, 3, (some .int), 0, 0, pg_X7_ownOf) = true := by decide +kernel
set_option maxRecDepth 20000 in
theorem ok_X3_headFrom : m_okE mTT (yX3_headFrom, cX3_headFrom, 4, (some .int), 1, 22, pg_X3_headFrom) = true := by decide +kernel
set_option maxRecDepth 20000 in
theorem ok_X3_blockOf : m_okE mTT (yX3_blockOf, cX3_blockOf, 3, (some .int), 0, 0, pg_X3_blockOf) = true := by decide +kernel
set_option maxRecDepth 20000 in
theorem ok_X10_lowest : m_okE mTT (yX10_lowest, cX10_lowest, 2, (some .int), 0, 0, pg_X10_lowest) = true := by decide +kernel
set_option maxRecDepth 20000 in
theorem ok_X3_lastOf : m_okE mTT (yX3_lastOf, cX3_lastOf, 3, (some .int), 1, 21, pg_X3_lastOf) = true := by decide +kernel
set_option maxRecDepth 20000 in
theorem ok_X7_putRow : m_okE mTT (yX7_putRow, cX7_putRow, 2, none, 0, 0, pg_X7_putRow) = true := by decide +kernel
set_option maxRecDepth 20000 in
theorem ok_X7_nextOf : m_okE mTT (yX7_nextOf, cX7_nextOf, 7, (some .int), 1, 26, pg_X7_nextOf) = true := by decide +kernel
set_option maxRecDepth 20000 in
theorem ok_X7_arrange : m_okE mTT (yX7_arrange, cX7_arrange, 8, none, 2, 52, pg_X7_arrange) = true := by decide +kernel
set_option maxRecDepth 20000 in
theorem ok_X7_redHop : m_okE mTT (yX7_redHop, cX7_redHop, 5, (some .int), 1, 21, pg_X7_redHop) = true := by decide +kernel
set_option maxRecDepth 20000 in
theorem ok_X7_blueHop : m_okE mTT (yX7_blueHop, cX7_blueHop, 4, (some .int), 1, 21, pg_X7_blueHop) = true := by decide +kernel
set_option maxRecDepth 20000 in
theorem ok_X7_settle : m_okE mTT (yX7_settle, cX7_settle, 7, none, 3, 79, pg_X7_settle) = true := by decide +kernel
set_option maxRecDepth 20000 in
theorem ok_X7_prepare : m_okE mTT (yX7_prepare, cX7_prepare, 4, none, 4, 105, pg_X7_prepare) = true := by decide +kernel
set_option maxRecDepth 20000 in
theorem ok_X10_canGo : m_okE mTT (yX10_canGo, cX10_canGo, 3, (some .boolean), 5, 128, pg_X10_canGo) = true := by decide +kernel
set_option maxRecDepth 20000 in
theorem ok_X7_linkAt : m_okE mTT (yX7_linkAt, cX7_linkAt, 4, (some .int), 1, 22, pg_X7_linkAt) = true := by decide +kernel
set_option maxRecDepth 20000 in
theorem ok_X7_next : m_okE mTT (yX7_next, cX7_next, 4, (some .int), 1, 22, pg_X7_next) = true := by decide +kernel
set_option maxRecDepth 20000 in
theorem ok_X8_run : m_okE mTT (yX8_run, cX8_run, 8, none, 2, 45, pg_X8_run) = true := by decide +kernel
set_option maxRecDepth 20000 in
theorem ok_X8_tally : m_okE mTT (yX8_tally, cX8_tally, 3, none, 0, 0, pg_X8_tally) = true := by decide +kernel
set_option maxRecDepth 20000 in
theorem ok_X10_send : m_okE mTT (yX10_send, cX10_send, 3, (some .int), 6, 150, pg_X10_send) = true := by decide +kernel
set_option maxRecDepth 20000 in
theorem ok_X11_canSend : m_okE mTT (yX11_canSend, cX11_canSend, 3, (some .boolean), 2, 43, pg_X11_canSend) = true := by decide +kernel
set_option maxRecDepth 20000 in
theorem ok_X11_lays_ : m_okE mTT (yX11_lays_, cX11_lays_, 4, none, 1, 21, pg_X11_lays_) = true := by decide +kernel
set_option maxRecDepth 20000 in
theorem ok_X11_laysNet : m_okE mTT (yX11_laysNet, cX11_laysNet, 2, (some .int), 3, 64, pg_X11_laysNet) = true := by decide +kernel
set_option maxRecDepth 20000 in
theorem ok_X11_bitsOf : m_okE mTT (yX11_bitsOf, cX11_bitsOf, 3, (some .int), 0, 0, pg_X11_bitsOf) = true := by decide +kernel
set_option maxRecDepth 20000 in
theorem ok_X11_lowestOf : m_okE mTT (yX11_lowestOf, cX11_lowestOf, 2, (some .int), 1, 21, pg_X11_lowestOf) = true := by decide +kernel
set_option maxRecDepth 20000 in
theorem ok_X11_comes : m_okE mTT (yX11_comes, cX11_comes, 7, (some .int), 1, 21, pg_X11_comes) = true := by decide +kernel
set_option maxRecDepth 20000 in
theorem ok_X11_isOne : m_okE mTT (yX11_isOne, cX11_isOne, 3, (some .boolean), 2, 47, pg_X11_isOne) = true := by decide +kernel
set_option maxRecDepth 20000 in
theorem ok_X11_isTight : m_okE mTT (yX11_isTight, cX11_isTight, 4, (some .boolean), 3, 69, pg_X11_isTight) = true := by decide +kernel
set_option maxRecDepth 20000 in
theorem ok_X11_laysBlocks : m_okE mTT (yX11_laysBlocks, cX11_laysBlocks, 6, none, 4, 92, pg_X11_laysBlocks) = true := by decide +kernel
set_option maxRecDepth 20000 in
theorem ok_X11_knowsHops : m_okE mTT (yX11_knowsHops, cX11_knowsHops, 7, none, 1, 22, pg_X11_knowsHops) = true := by decide +kernel
set_option maxRecDepth 20000 in
theorem ok_X11_isOrder : m_okE mTT (yX11_isOrder, cX11_isOrder, 7, (some .boolean), 0, 0, pg_X11_isOrder) = true := by decide +kernel
set_option maxRecDepth 20000 in
theorem ok_X11_changes : m_okE mTT (yX11_changes, cX11_changes, 4, none, 0, 0, pg_X11_changes) = true := by decide +kernel
set_option maxRecDepth 20000 in
theorem ok_X11_nextRow : m_okE mTT (yX11_nextRow, cX11_nextRow, 7, none, 1, 23, pg_X11_nextRow) = true := by decide +kernel
set_option maxRecDepth 20000 in
theorem ok_X11_laysOrder : m_okE mTT (yX11_laysOrder, cX11_laysOrder, 6, none, 2, 49, pg_X11_laysOrder) = true := by decide +kernel
set_option maxRecDepth 20000 in
theorem ok_X11_knowsOne : m_okE mTT (yX11_knowsOne, cX11_knowsOne, 10, none, 3, 74, pg_X11_knowsOne) = true := by decide +kernel
set_option maxRecDepth 20000 in
theorem ok_X11_knows : m_okE mTT (yX11_knows, cX11_knows, 5, none, 5, 117, pg_X11_knows) = true := by decide +kernel
set_option maxRecDepth 20000 in
theorem ok_X11_hopOf : m_okE mTT (yX11_hopOf, cX11_hopOf, 4, (some .int), 0, 0, pg_X11_hopOf) = true := by decide +kernel
set_option maxRecDepth 20000 in
theorem ok_X11_linkOfHop : m_okE mTT (yX11_linkOfHop, cX11_linkOfHop, 7, (some .int), 2, 42, pg_X11_linkOfHop) = true := by decide +kernel
set_option maxRecDepth 20000 in
theorem ok_X11_goes : m_okE mTT (yX11_goes, cX11_goes, 7, (some .boolean), 6, 141, pg_X11_goes) = true := by decide +kernel
set_option maxRecDepth 20000 in
theorem ok_X11_send : m_okE mTT (yX11_send, cX11_send, 5, (some .int), 7, 167, pg_X11_send) = true := by decide +kernel
set_option maxRecDepth 20000 in
theorem ok_X2_bring : m_okE mTT (yX2_bring, cX2_bring, 2, (some .boolean), 1, 22, pg_X2_bring) = true := by decide +kernel
set_option maxRecDepth 20000 in
theorem ok_X10_undo : m_okE mTT (yX10_undo, cX10_undo, 1, (some .boolean), 2, 43, pg_X10_undo) = true := by decide +kernel
set_option maxRecDepth 20000 in
theorem ok_X11_undo : m_okE mTT (yX11_undo, cX11_undo, 3, (some .boolean), 0, 0, pg_X11_undo) = true := by decide +kernel
set_option maxRecDepth 20000 in
theorem ok_X10_link : m_okE mTT (yX10_link, cX10_link, 3, (some .int), 1, 21, pg_X10_link) = true := by decide +kernel
set_option maxRecDepth 20000 in
theorem ok_X11_link : m_okE mTT (yX11_link, cX11_link, 3, (some .int), 2, 43, pg_X11_link) = true := by decide +kernel
set_option maxRecDepth 20000 in
theorem ok_X10_isNet : m_okE mTT (yX10_isNet, cX10_isNet, 1, (some .boolean), 0, 0, pg_X10_isNet) = true := by decide +kernel
set_option maxRecDepth 20000 in
theorem ok_X1_forget : m_okE mTT (yX1_forget, cX1_forget, 1, none, 0, 0, pg_X1_forget) = true := by decide +kernel
set_option maxRecDepth 20000 in
theorem ok_X10_presentNet : m_okE mTT (yX10_presentNet, cX10_presentNet, 1, (some (.object "RedBlueWays$Net")), 4, 99, pg_X10_presentNet) = true := by decide +kernel
set_option maxRecDepth 20000 in
theorem ok_X10_netOf : m_okE mTT (yX10_netOf, cX10_netOf, 2, (some (.object "RedBlueWays$Net")), 5, 119, pg_X10_netOf) = true := by decide +kernel
set_option maxRecDepth 20000 in
theorem ok_X3_isLeast : m_okE mTT (yX3_isLeast, cX3_isLeast, 3, (some .boolean), 1, 21, pg_X3_isLeast) = true := by decide +kernel
set_option maxRecDepth 20000 in
theorem ok_X3_pieceAt : m_okE mTT (yX3_pieceAt, cX3_pieceAt, 4, (some .int), 2, 43, pg_X3_pieceAt) = true := by decide +kernel
set_option maxRecDepth 20000 in
theorem ok_X10_piece : m_okE mTT (yX10_piece, cX10_piece, 3, (some .int), 6, 140, pg_X10_piece) = true := by decide +kernel
set_option maxRecDepth 20000 in
theorem ok_X11_isWhich : m_okE mTT (yX11_isWhich, cX11_isWhich, 1, (some .boolean), 1, 22, pg_X11_isWhich) = true := by decide +kernel
set_option maxRecDepth 20000 in
theorem ok_X11_piece : m_okE mTT (yX11_piece, cX11_piece, 7, (some .int), 4, 85, pg_X11_piece) = true := by decide +kernel
set_option maxRecDepth 20000 in
theorem ok_X3_leastBlock : m_okE mTT (yX3_leastBlock, cX3_leastBlock, 6, (some .int), 1, 22, pg_X3_leastBlock) = true := by decide +kernel
set_option maxRecDepth 20000 in
theorem ok_X3_blockAt : m_okE mTT (yX3_blockAt, cX3_blockAt, 5, (some .int), 2, 47, pg_X3_blockAt) = true := by decide +kernel
set_option maxRecDepth 20000 in
theorem ok_X10_block : m_okE mTT (yX10_block, cX10_block, 3, (some .int), 6, 140, pg_X10_block) = true := by decide +kernel
set_option maxRecDepth 20000 in
theorem ok_X11_block : m_okE mTT (yX11_block, cX11_block, 3, (some .int), 5, 117, pg_X11_block) = true := by decide +kernel
set_option maxRecDepth 20000 in
theorem ok_X3_cutPosts : m_okE mTT (yX3_cutPosts, cX3_cutPosts, 4, (some .int), 1, 22, pg_X3_cutPosts) = true := by decide +kernel
set_option maxRecDepth 20000 in
theorem ok_X10_cuts : m_okE mTT (yX10_cuts, cX10_cuts, 2, (some .int), 6, 140, pg_X10_cuts) = true := by decide +kernel
set_option maxRecDepth 20000 in
theorem ok_X11_piecesOf : m_okE mTT (yX11_piecesOf, cX11_piecesOf, 5, (some .int), 2, 47, pg_X11_piecesOf) = true := by decide +kernel
set_option maxRecDepth 20000 in
theorem ok_X11_cuts : m_okE mTT (yX11_cuts, cX11_cuts, 6, (some .int), 4, 85, pg_X11_cuts) = true := by decide +kernel
set_option maxRecDepth 20000 in
theorem ok_X3_bridgeLinks : m_okE mTT (yX3_bridgeLinks, cX3_bridgeLinks, 5, (some .int), 2, 43, pg_X3_bridgeLinks) = true := by decide +kernel
set_option maxRecDepth 20000 in
theorem ok_X10_bridges : m_okE mTT (yX10_bridges, cX10_bridges, 2, (some .int), 6, 140, pg_X10_bridges) = true := by decide +kernel
set_option maxRecDepth 20000 in
theorem ok_X11_bridges : m_okE mTT (yX11_bridges, cX11_bridges, 7, (some .int), 4, 85, pg_X11_bridges) = true := by decide +kernel
set_option maxRecDepth 20000 in
theorem ok_X10_hasWay : m_okE mTT (yX10_hasWay, cX10_hasWay, 3, (some .boolean), 5, 128, pg_X10_hasWay) = true := by decide +kernel
set_option maxRecDepth 20000 in
theorem ok_X7_headOf : m_okE mTT (yX7_headOf, cX7_headOf, 3, (some .int), 0, 0, pg_X7_headOf) = true := by decide +kernel
set_option maxRecDepth 20000 in
theorem ok_X10_head : m_okE mTT (yX10_head, cX10_head, 3, (some .int), 6, 150, pg_X10_head) = true := by decide +kernel
set_option maxRecDepth 20000 in
theorem ok_X11_placeOf : m_okE mTT (yX11_placeOf, cX11_placeOf, 3, (some .int), 6, 141, pg_X11_placeOf) = true := by decide +kernel
set_option maxRecDepth 20000 in
theorem ok_X11_head : m_okE mTT (yX11_head, cX11_head, 4, (some .int), 7, 163, pg_X11_head) = true := by decide +kernel
set_option maxRecDepth 20000 in
theorem ok_X10_last : m_okE mTT (yX10_last, cX10_last, 3, (some .int), 6, 150, pg_X10_last) = true := by decide +kernel
set_option maxRecDepth 20000 in
theorem ok_X11_last : m_okE mTT (yX11_last, cX11_last, 4, (some .int), 7, 163, pg_X11_last) = true := by decide +kernel
set_option maxRecDepth 20000 in
theorem ok_X10_order : m_okE mTT (yX10_order, cX10_order, 4, (some .int), 6, 150, pg_X10_order) = true := by decide +kernel
set_option maxRecDepth 20000 in
theorem ok_X11_order : m_okE mTT (yX11_order, cX11_order, 6, (some .int), 7, 163, pg_X11_order) = true := by decide +kernel
set_option maxRecDepth 20000 in
theorem ok_X10_isColour : m_okE mTT (yX10_isColour, cX10_isColour, 1, (some .boolean), 0, 0, pg_X10_isColour) = true := by decide +kernel
set_option maxRecDepth 20000 in
theorem ok_X10_hop : m_okE mTT (yX10_hop, cX10_hop, 4, (some .int), 6, 150, pg_X10_hop) = true := by decide +kernel
set_option maxRecDepth 20000 in
theorem ok_X11_hop : m_okE mTT (yX11_hop, cX11_hop, 4, (some .int), 7, 163, pg_X11_hop) = true := by decide +kernel
set_option maxRecDepth 20000 in
theorem ok_X7_along : m_okE mTT (yX7_along, cX7_along, 8, (some .int), 2, 45, pg_X7_along) = true := by decide +kernel
set_option maxRecDepth 20000 in
theorem ok_X10_way : m_okE mTT (yX10_way, cX10_way, 5, (some .int), 6, 150, pg_X10_way) = true := by decide +kernel
set_option maxRecDepth 20000 in
theorem ok_X11_way : m_okE mTT (yX11_way, cX11_way, 7, (some .int), 7, 163, pg_X11_way) = true := by decide +kernel
set_option maxRecDepth 20000 in
theorem ok_X7_passed : m_okE mTT (yX7_passed, cX7_passed, 7, (some .int), 2, 45, pg_X7_passed) = true := by decide +kernel
set_option maxRecDepth 20000 in
theorem ok_X7_shared : m_okE mTT (yX7_shared, cX7_shared, 3, (some .int), 3, 71, pg_X7_shared) = true := by decide +kernel
set_option maxRecDepth 20000 in
theorem ok_X10_both : m_okE mTT (yX10_both, cX10_both, 3, (some .int), 6, 150, pg_X10_both) = true := by decide +kernel
set_option maxRecDepth 20000 in
theorem ok_X11_onWay : m_okE mTT (yX11_onWay, cX11_onWay, 6, (some .int), 1, 23, pg_X11_onWay) = true := by decide +kernel
set_option maxRecDepth 20000 in
theorem ok_X11_both : m_okE mTT (yX11_both, cX11_both, 3, (some .int), 7, 163, pg_X11_both) = true := by decide +kernel
set_option maxRecDepth 20000 in
theorem ok_X9_meet : m_okE mTT (yX9_meet, cX9_meet, 3, none, 0, 0, pg_X9_meet) = true := by decide +kernel
set_option maxRecDepth 20000 in
theorem ok_X9_lowestNew : m_okE mTT (yX9_lowestNew, cX9_lowestNew, 3, (some .int), 1, 21, pg_X9_lowestNew) = true := by decide +kernel
set_option maxRecDepth 20000 in
theorem ok_X9_lowOf : m_okE mTT (yX9_lowOf, cX9_lowOf, 5, (some .int), 1, 21, pg_X9_lowOf) = true := by decide +kernel
set_option maxRecDepth 20000 in
theorem ok_X9_from : m_okE mTT (yX9_from, cX9_from, 6, none, 2, 45, pg_X9_from) = true := by decide +kernel
set_option maxRecDepth 20000 in
theorem ok_X10_search : m_okE mTT (yX10_search, cX10_search, 4, (some .int), 5, 119, pg_X10_search) = true := by decide +kernel
set_option maxRecDepth 20000 in
theorem ok_X11_searches : m_okE mTT (yX11_searches, cX11_searches, 7, none, 4, 85, pg_X11_searches) = true := by decide +kernel
set_option maxRecDepth 20000 in
theorem ok_X11_search : m_okE mTT (yX11_search, cX11_search, 4, (some .int), 5, 111, pg_X11_search) = true := by decide +kernel
set_option maxRecDepth 20000 in
theorem ok_X0_enter : m_okE mTT (yX0_enter, cX0_enter, 2, none, 0, 0, pg_X0_enter) = true := by decide +kernel
set_option maxRecDepth 20000 in
theorem ok_X0_firstLoose : m_okE mTT (yX0_firstLoose, cX0_firstLoose, 2, (some .int), 0, 0, pg_X0_firstLoose) = true := by decide +kernel
set_option maxRecDepth 20000 in
theorem ok_X0_putCell : m_okE mTT (yX0_putCell, cX0_putCell, 2, none, 0, 0, pg_X0_putCell) = true := by decide +kernel
set_option maxRecDepth 20000 in
theorem ok_X0_goOver : m_okE mTT (yX0_goOver, cX0_goOver, 3, none, 1, 21, pg_X0_goOver) = true := by decide +kernel
set_option maxRecDepth 20000 in
theorem ok_X0_measure : m_okE mTT (yX0_measure, cX0_measure, 8, none, 1, 21, pg_X0_measure) = true := by decide +kernel
set_option maxRecDepth 20000 in
theorem ok_X0_nearest : m_okE mTT (yX0_nearest, cX0_nearest, 4, (some .int), 1, 21, pg_X0_nearest) = true := by decide +kernel
set_option maxRecDepth 20000 in
theorem ok_X0_lead : m_okE mTT (yX0_lead, cX0_lead, 9, none, 2, 48, pg_X0_lead) = true := by decide +kernel
set_option maxRecDepth 20000 in
theorem ok_X0_trace : m_okE mTT (yX0_trace, cX0_trace, 6, none, 3, 76, pg_X0_trace) = true := by decide +kernel
set_option maxRecDepth 20000 in
theorem ok_X0_at : m_okE mTT (yX0_at, cX0_at, 4, (some .int), 0, 0, pg_X0_at) = true := by decide +kernel
set_option maxRecDepth 20000 in
theorem ok_X10_ear : m_okE mTT (yX10_ear, cX10_ear, 5, (some .int), 6, 150, pg_X10_ear) = true := by decide +kernel
set_option maxRecDepth 20000 in
theorem ok_X11_freeFrom : m_okE mTT (yX11_freeFrom, cX11_freeFrom, 4, (some .int), 1, 21, pg_X11_freeFrom) = true := by decide +kernel
set_option maxRecDepth 20000 in
theorem ok_X11_goesTo : m_okE mTT (yX11_goesTo, cX11_goesTo, 3, none, 1, 23, pg_X11_goesTo) = true := by decide +kernel
set_option maxRecDepth 20000 in
theorem ok_X11_laysFarFrom : m_okE mTT (yX11_laysFarFrom, cX11_laysFarFrom, 8, none, 1, 21, pg_X11_laysFarFrom) = true := by decide +kernel
set_option maxRecDepth 20000 in
theorem ok_X11_canGo : m_okE mTT (yX11_canGo, cX11_canGo, 5, (some .boolean), 1, 21, pg_X11_canGo) = true := by decide +kernel
set_option maxRecDepth 20000 in
theorem ok_X11_laysEar : m_okE mTT (yX11_laysEar, cX11_laysEar, 7, none, 2, 48, pg_X11_laysEar) = true := by decide +kernel
set_option maxRecDepth 20000 in
theorem ok_X11_laysEars : m_okE mTT (yX11_laysEars, cX11_laysEars, 4, none, 4, 85, pg_X11_laysEars) = true := by decide +kernel
set_option maxRecDepth 20000 in
theorem ok_X11_ear : m_okE mTT (yX11_ear, cX11_ear, 6, (some .int), 7, 163, pg_X11_ear) = true := by decide +kernel
set_option maxRecDepth 20000 in
theorem ok_X10_would : m_okE mTT (yX10_would, cX10_would, 4, (some .int), 6, 150, pg_X10_would) = true := by decide +kernel
set_option maxRecDepth 20000 in
theorem ok_X11_would : m_okE mTT (yX11_would, cX11_would, 5, (some .int), 7, 167, pg_X11_would) = true := by decide +kernel
set_option maxRecDepth 20000 in
theorem ok_X10_comes : m_okE mTT (yX10_comes, cX10_comes, 4, (some .boolean), 3, 72, pg_X10_comes) = true := by decide +kernel
set_option maxRecDepth 20000 in
theorem ok_X10_loss : m_okE mTT (yX10_loss, cX10_loss, 6, (some .int), 6, 150, pg_X10_loss) = true := by decide +kernel
set_option maxRecDepth 20000 in
theorem ok_X11_loss : m_okE mTT (yX11_loss, cX11_loss, 6, (some .int), 7, 167, pg_X11_loss) = true := by decide +kernel
set_option maxRecDepth 20000 in
theorem ok_X6_joined : m_okE mTT (yX6_joined, cX6_joined, 8, (some .boolean), 1, 21, pg_X6_joined) = true := by decide +kernel
set_option maxRecDepth 20000 in
theorem ok_X10_weak : m_okE mTT (yX10_weak, cX10_weak, 9, (some .int), 6, 150, pg_X10_weak) = true := by decide +kernel
set_option maxRecDepth 20000 in
theorem ok_X11_weak : m_okE mTT (yX11_weak, cX11_weak, 8, (some .int), 7, 167, pg_X11_weak) = true := by decide +kernel
set_option maxRecDepth 20000 in
theorem ok_J9_max_7cf53 : m_okE mTT (yJ9_max_7cf53, cJ9_max_7cf53, 2, (some .int), 0, 0, pg_J9_max_7cf53) = true := by decide +kernel
set_option maxRecDepth 20000 in
theorem ok_X10_fillLoads : m_okE mTT (yX10_fillLoads, cX10_fillLoads, 4, (some .int), 6, 150, pg_X10_fillLoads) = true := by decide +kernel
set_option maxRecDepth 20000 in
theorem ok_X10_load : m_okE mTT (yX10_load, cX10_load, 2, (some .int), 7, 173, pg_X10_load) = true := by decide +kernel
set_option maxRecDepth 20000 in
theorem ok_X11_laysLoads : m_okE mTT (yX11_laysLoads, cX11_laysLoads, 4, none, 7, 167, pg_X11_laysLoads) = true := by decide +kernel
set_option maxRecDepth 20000 in
theorem ok_X11_load : m_okE mTT (yX11_load, cX11_load, 2, (some .int), 8, 190, pg_X11_load) = true := by decide +kernel
set_option maxRecDepth 20000 in
theorem ok_X4_better : m_okE mTT (yX4_better, cX4_better, 4, (some .boolean), 0, 0, pg_X4_better) = true := by decide +kernel
set_option maxRecDepth 20000 in
theorem ok_X4_cheapest : m_okE mTT (yX4_cheapest, cX4_cheapest, 11, (some .int), 1, 23, pg_X4_cheapest) = true := by decide +kernel
set_option maxRecDepth 20000 in
theorem ok_X10_cheap : m_okE mTT (yX10_cheap, cX10_cheap, 4, (some .int), 2, 53, pg_X10_cheap) = true := by decide +kernel
set_option maxRecDepth 20000 in
theorem ok_X11_costOf : m_okE mTT (yX11_costOf, cX11_costOf, 3, (some .int), 1, 23, pg_X11_costOf) = true := by decide +kernel
set_option maxRecDepth 20000 in
theorem ok_X11_laysWays : m_okE mTT (yX11_laysWays, cX11_laysWays, 9, none, 4, 85, pg_X11_laysWays) = true := by decide +kernel
set_option maxRecDepth 20000 in
theorem ok_X11_cheap : m_okE mTT (yX11_cheap, cX11_cheap, 5, (some .int), 5, 113, pg_X11_cheap) = true := by decide +kernel
set_option maxRecDepth 20000 in
theorem ok_X4_cheapestTwo : m_okE mTT (yX4_cheapestTwo, cX4_cheapestTwo, 12, (some .int), 2, 53, pg_X4_cheapestTwo) = true := by decide +kernel
set_option maxRecDepth 20000 in
theorem ok_X10_pair : m_okE mTT (yX10_pair, cX10_pair, 4, (some .int), 3, 84, pg_X10_pair) = true := by decide +kernel
set_option maxRecDepth 20000 in
theorem ok_X11_pair : m_okE mTT (yX11_pair, cX11_pair, 6, (some .int), 5, 113, pg_X11_pair) = true := by decide +kernel
set_option maxRecDepth 20000 in
theorem ok_X7_priceAlong : m_okE mTT (yX7_priceAlong, cX7_priceAlong, 9, (some .int), 2, 45, pg_X7_priceAlong) = true := by decide +kernel
set_option maxRecDepth 20000 in
theorem ok_X10_dear : m_okE mTT (yX10_dear, cX10_dear, 4, (some .int), 6, 150, pg_X10_dear) = true := by decide +kernel
set_option maxRecDepth 20000 in
theorem ok_X11_dear : m_okE mTT (yX11_dear, cX11_dear, 7, (some .int), 7, 163, pg_X11_dear) = true := by decide +kernel
set_option maxRecDepth 20000 in
theorem ok_J6_bitCount_0f7a4 : m_okE mTT (yJ6_bitCount_0f7a4, cJ6_bitCount_0f7a4, 1, (some .int), 0, 0, pg_J6_bitCount_0f7a4) = true := by decide +kernel
set_option maxRecDepth 20000 in
theorem ok_X1_partsWithout : m_okE mTT (yX1_partsWithout, cX1_partsWithout, 4, (some .int), 2, 43, pg_X1_partsWithout) = true := by decide +kernel
set_option maxRecDepth 20000 in
theorem ok_X1_endsAt : m_okE mTT (yX1_endsAt, cX1_endsAt, 6, (some .int), 2, 43, pg_X1_endsAt) = true := by decide +kernel
set_option maxRecDepth 20000 in
theorem ok_X1_need : m_okE mTT (yX1_need, cX1_need, 6, (some .int), 3, 68, pg_X1_need) = true := by decide +kernel
set_option maxRecDepth 20000 in
theorem ok_X1_isNew : m_okE mTT (yX1_isNew, cX1_isNew, 3, (some .boolean), 1, 21, pg_X1_isNew) = true := by decide +kernel
set_option maxRecDepth 20000 in
theorem ok_X1_flip : m_okE mTT (yX1_flip, cX1_flip, 3, none, 3, 73, pg_X1_flip) = true := by decide +kernel
set_option maxRecDepth 20000 in
theorem ok_X1_helps : m_okE mTT (yX1_helps, cX1_helps, 4, (some .boolean), 4, 95, pg_X1_helps) = true := by decide +kernel
set_option maxRecDepth 20000 in
theorem ok_X1_plan : m_okE mTT (yX1_plan, cX1_plan, 5, none, 5, 118, pg_X1_plan) = true := by decide +kernel
set_option maxRecDepth 20000 in
theorem ok_X10_grow : m_okE mTT (yX10_grow, cX10_grow, 2, (some .int), 6, 142, pg_X10_grow) = true := by decide +kernel
set_option maxRecDepth 20000 in
theorem ok_X11_isTied : m_okE mTT (yX11_isTied, cX11_isTied, 1, (some .boolean), 4, 92, pg_X11_isTied) = true := by decide +kernel
set_option maxRecDepth 20000 in
theorem ok_X11_nextPick : m_okE mTT (yX11_nextPick, cX11_nextPick, 4, (some .boolean), 0, 0, pg_X11_nextPick) = true := by decide +kernel
set_option maxRecDepth 20000 in
theorem ok_X11_areEnough : m_okE mTT (yX11_areEnough, cX11_areEnough, 6, (some .boolean), 5, 112, pg_X11_areEnough) = true := by decide +kernel
set_option maxRecDepth 20000 in
theorem ok_X11_grow : m_okE mTT (yX11_grow, cX11_grow, 4, (some .int), 6, 137, pg_X11_grow) = true := by decide +kernel
set_option maxRecDepth 20000 in
theorem ok_X10_hold : m_okE mTT (yX10_hold, cX10_hold, 2, (some .boolean), 1, 22, pg_X10_hold) = true := by decide +kernel
set_option maxRecDepth 20000 in
theorem ok_X11_hold : m_okE mTT (yX11_hold, cX11_hold, 3, (some .boolean), 1, 22, pg_X11_hold) = true := by decide +kernel
set_option maxRecDepth 20000 in
theorem ok_X10_restore : m_okE mTT (yX10_restore, cX10_restore, 2, (some .boolean), 1, 22, pg_X10_restore) = true := by decide +kernel
set_option maxRecDepth 20000 in
theorem ok_X11_restore : m_okE mTT (yX11_restore, cX11_restore, 3, (some .boolean), 1, 22, pg_X11_restore) = true := by decide +kernel
set_option maxRecDepth 20000 in
theorem ok_X3_isTied : m_okE mTT (yX3_isTied, cX3_isTied, 2, (some .boolean), 1, 21, pg_X3_isTied) = true := by decide +kernel
set_option maxRecDepth 20000 in
theorem ok_X10_clearPosts : m_okE mTT (yX10_clearPosts, cX10_clearPosts, 3, (some .int), 6, 150, pg_X10_clearPosts) = true := by decide +kernel
set_option maxRecDepth 20000 in
theorem ok_X10_count : m_okE mTT (yX10_count, cX10_count, 2, (some .int), 7, 173, pg_X10_count) = true := by decide +kernel
set_option maxRecDepth 20000 in
theorem ok_X11_apartFromRoot : m_okE mTT (yX11_apartFromRoot, cX11_apartFromRoot, 3, (some .int), 7, 163, pg_X11_apartFromRoot) = true := by decide +kernel
set_option maxRecDepth 20000 in
theorem ok_X11_count : m_okE mTT (yX11_count, cX11_count, 4, (some .int), 8, 190, pg_X11_count) = true := by decide +kernel
theorem mTT_ok0 : ∀ E ∈ mTT_0, m_okE mTT E = true := List.forall_mem_cons.mpr ⟨ok_X6_init, List.forall_mem_cons.mpr ⟨ok_X5_init, List.forall_mem_cons.mpr ⟨ok_X2_init, List.forall_mem_cons.mpr ⟨ok_X3_init, List.forall_mem_cons.mpr ⟨ok_X7_init, List.forall_mem_cons.mpr ⟨ok_X9_init, List.forall_mem_cons.mpr ⟨ok_X0_init, List.forall_mem_cons.mpr ⟨ok_X8_init, List.forall_mem_cons.mpr ⟨ok_X4_init, List.forall_mem_cons.mpr ⟨ok_X1_init, List.forall_mem_cons.mpr ⟨ok_X10_init, List.forall_mem_cons.mpr ⟨ok_X11_appends, List.forall_mem_cons.mpr ⟨ok_X11_letters, List.forall_mem_cons.mpr ⟨ok_X11_init, List.forall_mem_cons.mpr ⟨ok_X5_hasRoom, List.forall_mem_cons.mpr ⟨ok_X5_append, List.forall_mem_cons.mpr ⟨ok_X10_feed, List.forall_mem_cons.mpr ⟨ok_X11_lays, List.forall_mem_cons.mpr ⟨ok_X11_feed, List.forall_mem_cons.mpr ⟨ok_X10_back, List.forall_mem_cons.mpr ⟨ok_X11_back, List.forall_mem_cons.mpr ⟨ok_X5_byteAt, List.forall_mem_cons.mpr ⟨ok_X5_isBlank, List.forall_mem_cons.mpr ⟨ok_X5_afterBlanks, List.forall_mem_cons.mpr ⟨ok_J0_coder_7d493, List.forall_mem_cons.mpr ⟨ok_J0_length_8abf5, List.forall_mem_cons.mpr ⟨ok_X5_failAt, List.forall_mem_cons.mpr ⟨ok_X5_isLetter, List.forall_mem_cons.mpr ⟨ok_X5_isDigit, List.forall_mem_cons.mpr ⟨ok_X5_tokenEnd, List.forall_mem_cons.mpr ⟨ok_J0_isLatin1_aae02, List.forall_mem_cons.mpr ⟨ok_J3_checkIndex_8e157, List.forall_mem_cons.mpr ⟨ok_J0_checkIndex_df160, List.forall_mem_cons.mpr ⟨ok_J1_charAt_3b067, List.forall_mem_cons.mpr ⟨ok_J0_charAt_5068e, List.forall_mem_cons.mpr ⟨ok_X5_spells, List.forall_mem_cons.mpr ⟨ok_X5_sortOf, List.forall_mem_cons.mpr ⟨ok_X5_shapeOf, List.forall_mem_cons.mpr ⟨ok_J0_isEmpty_aae02, List.forall_mem_cons.mpr ⟨ok_X5_goesOn, fun _ h => absurd h List.not_mem_nil⟩⟩⟩⟩⟩⟩⟩⟩⟩⟩⟩⟩⟩⟩⟩⟩⟩⟩⟩⟩⟩⟩⟩⟩⟩⟩⟩⟩⟩⟩⟩⟩⟩⟩⟩⟩⟩⟩⟩⟩
theorem mTT_ok1 : ∀ E ∈ mTT_1, m_okE mTT E = true := List.forall_mem_cons.mpr ⟨ok_X5_fits, List.forall_mem_cons.mpr ⟨ok_X5_packed, List.forall_mem_cons.mpr ⟨ok_X5_keepToken, List.forall_mem_cons.mpr ⟨ok_X5_split, List.forall_mem_cons.mpr ⟨ok_X5_kindAt, List.forall_mem_cons.mpr ⟨ok_X5_valueAt, List.forall_mem_cons.mpr ⟨ok_X5_find, List.forall_mem_cons.mpr ⟨ok_X5_mark, List.forall_mem_cons.mpr ⟨ok_X5_gather, List.forall_mem_cons.mpr ⟨ok_X6_clear, List.forall_mem_cons.mpr ⟨ok_X5_placeAt, List.forall_mem_cons.mpr ⟨ok_X5_tellPost, List.forall_mem_cons.mpr ⟨ok_X6_between, List.forall_mem_cons.mpr ⟨ok_X10_isCost, List.forall_mem_cons.mpr ⟨ok_X6_add, List.forall_mem_cons.mpr ⟨ok_X5_tellLink, List.forall_mem_cons.mpr ⟨ok_X5_tellOne, List.forall_mem_cons.mpr ⟨ok_X10_has, List.forall_mem_cons.mpr ⟨ok_X5_tellDown, List.forall_mem_cons.mpr ⟨ok_X5_tellLine, List.forall_mem_cons.mpr ⟨ok_X5_tell, List.forall_mem_cons.mpr ⟨ok_X6_live, List.forall_mem_cons.mpr ⟨ok_X5_finish, List.forall_mem_cons.mpr ⟨ok_X5_parse, List.forall_mem_cons.mpr ⟨ok_X6_copy, List.forall_mem_cons.mpr ⟨ok_X2_forget, List.forall_mem_cons.mpr ⟨ok_X10_allChanged, List.forall_mem_cons.mpr ⟨ok_X10_read, List.forall_mem_cons.mpr ⟨ok_X11_byteAt, List.forall_mem_cons.mpr ⟨ok_X11_token, List.forall_mem_cons.mpr ⟨ok_X11_isLetter, List.forall_mem_cons.mpr ⟨ok_X11_isDigit, List.forall_mem_cons.mpr ⟨ok_X11_sign, List.forall_mem_cons.mpr ⟨ok_X11_parts, List.forall_mem_cons.mpr ⟨ok_X11_is, List.forall_mem_cons.mpr ⟨ok_X11_fail, List.forall_mem_cons.mpr ⟨ok_X11_passes, List.forall_mem_cons.mpr ⟨ok_X11_must, List.forall_mem_cons.mpr ⟨ok_X11_line, List.forall_mem_cons.mpr ⟨ok_X11_wrong, fun _ h => absurd h List.not_mem_nil⟩⟩⟩⟩⟩⟩⟩⟩⟩⟩⟩⟩⟩⟩⟩⟩⟩⟩⟩⟩⟩⟩⟩⟩⟩⟩⟩⟩⟩⟩⟩⟩⟩⟩⟩⟩⟩⟩⟩⟩
theorem mTT_ok2 : ∀ E ∈ mTT_2, m_okE mTT E = true := List.forall_mem_cons.mpr ⟨ok_X11_named, List.forall_mem_cons.mpr ⟨ok_X11_known, List.forall_mem_cons.mpr ⟨ok_X11_isLinked, List.forall_mem_cons.mpr ⟨ok_X11_in, List.forall_mem_cons.mpr ⟨ok_X11_meansLink, List.forall_mem_cons.mpr ⟨ok_X11_meansDown, List.forall_mem_cons.mpr ⟨ok_X11_means, List.forall_mem_cons.mpr ⟨ok_X11_has, List.forall_mem_cons.mpr ⟨ok_X11_isOn, List.forall_mem_cons.mpr ⟨ok_X11_netLinks, List.forall_mem_cons.mpr ⟨ok_X11_learns, List.forall_mem_cons.mpr ⟨ok_X11_read, List.forall_mem_cons.mpr ⟨ok_X10_place, List.forall_mem_cons.mpr ⟨ok_X11_place, List.forall_mem_cons.mpr ⟨ok_X10_isLink, List.forall_mem_cons.mpr ⟨ok_J9_min_7cf53, List.forall_mem_cons.mpr ⟨ok_X2_keep, List.forall_mem_cons.mpr ⟨ok_X10_join, List.forall_mem_cons.mpr ⟨ok_X11_isLink, List.forall_mem_cons.mpr ⟨ok_X11_marks, List.forall_mem_cons.mpr ⟨ok_X11_join, List.forall_mem_cons.mpr ⟨ok_X10_cost, List.forall_mem_cons.mpr ⟨ok_X11_cost, List.forall_mem_cons.mpr ⟨ok_X10_isPost, List.forall_mem_cons.mpr ⟨ok_X10_power, List.forall_mem_cons.mpr ⟨ok_X11_isPost, List.forall_mem_cons.mpr ⟨ok_X11_power, List.forall_mem_cons.mpr ⟨ok_X10_lay, List.forall_mem_cons.mpr ⟨ok_X11_between, List.forall_mem_cons.mpr ⟨ok_X11_lay, List.forall_mem_cons.mpr ⟨ok_X10_learn, List.forall_mem_cons.mpr ⟨ok_X11_learn, List.forall_mem_cons.mpr ⟨ok_X10_canSend, List.forall_mem_cons.mpr ⟨ok_X10_reach, List.forall_mem_cons.mpr ⟨ok_X10_parts, List.forall_mem_cons.mpr ⟨ok_X3_divide, List.forall_mem_cons.mpr ⟨ok_X3_without, List.forall_mem_cons.mpr ⟨ok_X3_match, List.forall_mem_cons.mpr ⟨ok_X3_build, List.forall_mem_cons.mpr ⟨ok_X7_forget, fun _ h => absurd h List.not_mem_nil⟩⟩⟩⟩⟩⟩⟩⟩⟩⟩⟩⟩⟩⟩⟩⟩⟩⟩⟩⟩⟩⟩⟩⟩⟩⟩⟩⟩⟩⟩⟩⟩⟩⟩⟩⟩⟩⟩⟩⟩
theorem mTT_ok3 : ∀ E ∈ mTT_3, m_okE mTT E = true := List.forall_mem_cons.mpr ⟨ok_X10_learntNet, List.forall_mem_cons.mpr ⟨ok_X7_cell, List.forall_mem_cons.mpr ⟨ok_X3_linkOf, List.forall_mem_cons.mpr ⟨ok_X7_putHop, List.forall_mem_cons.mpr ⟨ok_X7_ownOf, List.forall_mem_cons.mpr ⟨ok_X3_headFrom, List.forall_mem_cons.mpr ⟨ok_X3_blockOf, List.forall_mem_cons.mpr ⟨ok_X10_lowest, List.forall_mem_cons.mpr ⟨ok_X3_lastOf, List.forall_mem_cons.mpr ⟨ok_X7_putRow, List.forall_mem_cons.mpr ⟨ok_X7_nextOf, List.forall_mem_cons.mpr ⟨ok_X7_arrange, List.forall_mem_cons.mpr ⟨ok_X7_redHop, List.forall_mem_cons.mpr ⟨ok_X7_blueHop, List.forall_mem_cons.mpr ⟨ok_X7_settle, List.forall_mem_cons.mpr ⟨ok_X7_prepare, List.forall_mem_cons.mpr ⟨ok_X10_canGo, List.forall_mem_cons.mpr ⟨ok_X7_linkAt, List.forall_mem_cons.mpr ⟨ok_X7_next, List.forall_mem_cons.mpr ⟨ok_X8_run, List.forall_mem_cons.mpr ⟨ok_X8_tally, List.forall_mem_cons.mpr ⟨ok_X10_send, List.forall_mem_cons.mpr ⟨ok_X11_canSend, List.forall_mem_cons.mpr ⟨ok_X11_lays_, List.forall_mem_cons.mpr ⟨ok_X11_laysNet, List.forall_mem_cons.mpr ⟨ok_X11_bitsOf, List.forall_mem_cons.mpr ⟨ok_X11_lowestOf, List.forall_mem_cons.mpr ⟨ok_X11_comes, List.forall_mem_cons.mpr ⟨ok_X11_isOne, List.forall_mem_cons.mpr ⟨ok_X11_isTight, List.forall_mem_cons.mpr ⟨ok_X11_laysBlocks, List.forall_mem_cons.mpr ⟨ok_X11_knowsHops, List.forall_mem_cons.mpr ⟨ok_X11_isOrder, List.forall_mem_cons.mpr ⟨ok_X11_changes, List.forall_mem_cons.mpr ⟨ok_X11_nextRow, List.forall_mem_cons.mpr ⟨ok_X11_laysOrder, List.forall_mem_cons.mpr ⟨ok_X11_knowsOne, List.forall_mem_cons.mpr ⟨ok_X11_knows, List.forall_mem_cons.mpr ⟨ok_X11_hopOf, List.forall_mem_cons.mpr ⟨ok_X11_linkOfHop, fun _ h => absurd h List.not_mem_nil⟩⟩⟩⟩⟩⟩⟩⟩⟩⟩⟩⟩⟩⟩⟩⟩⟩⟩⟩⟩⟩⟩⟩⟩⟩⟩⟩⟩⟩⟩⟩⟩⟩⟩⟩⟩⟩⟩⟩⟩
theorem mTT_ok4 : ∀ E ∈ mTT_4, m_okE mTT E = true := List.forall_mem_cons.mpr ⟨ok_X11_goes, List.forall_mem_cons.mpr ⟨ok_X11_send, List.forall_mem_cons.mpr ⟨ok_X2_bring, List.forall_mem_cons.mpr ⟨ok_X10_undo, List.forall_mem_cons.mpr ⟨ok_X11_undo, List.forall_mem_cons.mpr ⟨ok_X10_link, List.forall_mem_cons.mpr ⟨ok_X11_link, List.forall_mem_cons.mpr ⟨ok_X10_isNet, List.forall_mem_cons.mpr ⟨ok_X1_forget, List.forall_mem_cons.mpr ⟨ok_X10_presentNet, List.forall_mem_cons.mpr ⟨ok_X10_netOf, List.forall_mem_cons.mpr ⟨ok_X3_isLeast, List.forall_mem_cons.mpr ⟨ok_X3_pieceAt, List.forall_mem_cons.mpr ⟨ok_X10_piece, List.forall_mem_cons.mpr ⟨ok_X11_isWhich, List.forall_mem_cons.mpr ⟨ok_X11_piece, List.forall_mem_cons.mpr ⟨ok_X3_leastBlock, List.forall_mem_cons.mpr ⟨ok_X3_blockAt, List.forall_mem_cons.mpr ⟨ok_X10_block, List.forall_mem_cons.mpr ⟨ok_X11_block, List.forall_mem_cons.mpr ⟨ok_X3_cutPosts, List.forall_mem_cons.mpr ⟨ok_X10_cuts, List.forall_mem_cons.mpr ⟨ok_X11_piecesOf, List.forall_mem_cons.mpr ⟨ok_X11_cuts, List.forall_mem_cons.mpr ⟨ok_X3_bridgeLinks, List.forall_mem_cons.mpr ⟨ok_X10_bridges, List.forall_mem_cons.mpr ⟨ok_X11_bridges, List.forall_mem_cons.mpr ⟨ok_X10_hasWay, List.forall_mem_cons.mpr ⟨ok_X7_headOf, List.forall_mem_cons.mpr ⟨ok_X10_head, List.forall_mem_cons.mpr ⟨ok_X11_placeOf, List.forall_mem_cons.mpr ⟨ok_X11_head, List.forall_mem_cons.mpr ⟨ok_X10_last, List.forall_mem_cons.mpr ⟨ok_X11_last, List.forall_mem_cons.mpr ⟨ok_X10_order, List.forall_mem_cons.mpr ⟨ok_X11_order, List.forall_mem_cons.mpr ⟨ok_X10_isColour, List.forall_mem_cons.mpr ⟨ok_X10_hop, List.forall_mem_cons.mpr ⟨ok_X11_hop, List.forall_mem_cons.mpr ⟨ok_X7_along, fun _ h => absurd h List.not_mem_nil⟩⟩⟩⟩⟩⟩⟩⟩⟩⟩⟩⟩⟩⟩⟩⟩⟩⟩⟩⟩⟩⟩⟩⟩⟩⟩⟩⟩⟩⟩⟩⟩⟩⟩⟩⟩⟩⟩⟩⟩
theorem mTT_ok5 : ∀ E ∈ mTT_5, m_okE mTT E = true := List.forall_mem_cons.mpr ⟨ok_X10_way, List.forall_mem_cons.mpr ⟨ok_X11_way, List.forall_mem_cons.mpr ⟨ok_X7_passed, List.forall_mem_cons.mpr ⟨ok_X7_shared, List.forall_mem_cons.mpr ⟨ok_X10_both, List.forall_mem_cons.mpr ⟨ok_X11_onWay, List.forall_mem_cons.mpr ⟨ok_X11_both, List.forall_mem_cons.mpr ⟨ok_X9_meet, List.forall_mem_cons.mpr ⟨ok_X9_lowestNew, List.forall_mem_cons.mpr ⟨ok_X9_lowOf, List.forall_mem_cons.mpr ⟨ok_X9_from, List.forall_mem_cons.mpr ⟨ok_X10_search, List.forall_mem_cons.mpr ⟨ok_X11_searches, List.forall_mem_cons.mpr ⟨ok_X11_search, List.forall_mem_cons.mpr ⟨ok_X0_enter, List.forall_mem_cons.mpr ⟨ok_X0_firstLoose, List.forall_mem_cons.mpr ⟨ok_X0_putCell, List.forall_mem_cons.mpr ⟨ok_X0_goOver, List.forall_mem_cons.mpr ⟨ok_X0_measure, List.forall_mem_cons.mpr ⟨ok_X0_nearest, List.forall_mem_cons.mpr ⟨ok_X0_lead, List.forall_mem_cons.mpr ⟨ok_X0_trace, List.forall_mem_cons.mpr ⟨ok_X0_at, List.forall_mem_cons.mpr ⟨ok_X10_ear, List.forall_mem_cons.mpr ⟨ok_X11_freeFrom, List.forall_mem_cons.mpr ⟨ok_X11_goesTo, List.forall_mem_cons.mpr ⟨ok_X11_laysFarFrom, List.forall_mem_cons.mpr ⟨ok_X11_canGo, List.forall_mem_cons.mpr ⟨ok_X11_laysEar, List.forall_mem_cons.mpr ⟨ok_X11_laysEars, List.forall_mem_cons.mpr ⟨ok_X11_ear, List.forall_mem_cons.mpr ⟨ok_X10_would, List.forall_mem_cons.mpr ⟨ok_X11_would, List.forall_mem_cons.mpr ⟨ok_X10_comes, List.forall_mem_cons.mpr ⟨ok_X10_loss, List.forall_mem_cons.mpr ⟨ok_X11_loss, List.forall_mem_cons.mpr ⟨ok_X6_joined, List.forall_mem_cons.mpr ⟨ok_X10_weak, List.forall_mem_cons.mpr ⟨ok_X11_weak, List.forall_mem_cons.mpr ⟨ok_J9_max_7cf53, fun _ h => absurd h List.not_mem_nil⟩⟩⟩⟩⟩⟩⟩⟩⟩⟩⟩⟩⟩⟩⟩⟩⟩⟩⟩⟩⟩⟩⟩⟩⟩⟩⟩⟩⟩⟩⟩⟩⟩⟩⟩⟩⟩⟩⟩⟩
theorem mTT_ok6 : ∀ E ∈ mTT_6, m_okE mTT E = true := List.forall_mem_cons.mpr ⟨ok_X10_fillLoads, List.forall_mem_cons.mpr ⟨ok_X10_load, List.forall_mem_cons.mpr ⟨ok_X11_laysLoads, List.forall_mem_cons.mpr ⟨ok_X11_load, List.forall_mem_cons.mpr ⟨ok_X4_better, List.forall_mem_cons.mpr ⟨ok_X4_cheapest, List.forall_mem_cons.mpr ⟨ok_X10_cheap, List.forall_mem_cons.mpr ⟨ok_X11_costOf, List.forall_mem_cons.mpr ⟨ok_X11_laysWays, List.forall_mem_cons.mpr ⟨ok_X11_cheap, List.forall_mem_cons.mpr ⟨ok_X4_cheapestTwo, List.forall_mem_cons.mpr ⟨ok_X10_pair, List.forall_mem_cons.mpr ⟨ok_X11_pair, List.forall_mem_cons.mpr ⟨ok_X7_priceAlong, List.forall_mem_cons.mpr ⟨ok_X10_dear, List.forall_mem_cons.mpr ⟨ok_X11_dear, List.forall_mem_cons.mpr ⟨ok_J6_bitCount_0f7a4, List.forall_mem_cons.mpr ⟨ok_X1_partsWithout, List.forall_mem_cons.mpr ⟨ok_X1_endsAt, List.forall_mem_cons.mpr ⟨ok_X1_need, List.forall_mem_cons.mpr ⟨ok_X1_isNew, List.forall_mem_cons.mpr ⟨ok_X1_flip, List.forall_mem_cons.mpr ⟨ok_X1_helps, List.forall_mem_cons.mpr ⟨ok_X1_plan, List.forall_mem_cons.mpr ⟨ok_X10_grow, List.forall_mem_cons.mpr ⟨ok_X11_isTied, List.forall_mem_cons.mpr ⟨ok_X11_nextPick, List.forall_mem_cons.mpr ⟨ok_X11_areEnough, List.forall_mem_cons.mpr ⟨ok_X11_grow, List.forall_mem_cons.mpr ⟨ok_X10_hold, List.forall_mem_cons.mpr ⟨ok_X11_hold, List.forall_mem_cons.mpr ⟨ok_X10_restore, List.forall_mem_cons.mpr ⟨ok_X11_restore, List.forall_mem_cons.mpr ⟨ok_X3_isTied, List.forall_mem_cons.mpr ⟨ok_X10_clearPosts, List.forall_mem_cons.mpr ⟨ok_X10_count, List.forall_mem_cons.mpr ⟨ok_X11_apartFromRoot, List.forall_mem_cons.mpr ⟨ok_X11_count, fun _ h => absurd h List.not_mem_nil⟩⟩⟩⟩⟩⟩⟩⟩⟩⟩⟩⟩⟩⟩⟩⟩⟩⟩⟩⟩⟩⟩⟩⟩⟩⟩⟩⟩⟩⟩⟩⟩⟩⟩⟩⟩⟩⟩
theorem mTT_ok : ∀ E ∈ mTT, m_okE mTT E = true := by
  intro E h
  unfold mTT at h
  simp only [List.mem_append] at h
  rcases h with h | h | h | h | h | h | h
  · exact mTT_ok0 E h
  · exact mTT_ok1 E h
  · exact mTT_ok2 E h
  · exact mTT_ok3 E h
  · exact mTT_ok4 E h
  · exact mTT_ok5 E h
  · exact mTT_ok6 E h
set_option maxRecDepth 20000 in
theorem ok_law : (pg_L_law.all fun x => m_okI RL "law" code (some .boolean) 9 213 mTT x.1 x.2) = true := by decide +kernel

set_option maxRecDepth 100000 in
theorem gs_kw_0 : gs_kw 0 ∈ lw_tbl := List.mem_of_getElem? (i := 344) rfl
set_option maxRecDepth 100000 in
theorem gs_ow_0 : ∀ w ∈ gs_ow 0, gs_gw w := by
  intro w hw
  have hw : w ∈ ([.initialized (gs_y 0).1.cls, .instanceMethod (gs_y 0).1] : List Cond) := hw
  simp only [List.mem_cons, List.not_mem_nil, or_false] at hw
  rcases hw with rfl | rfl
  · exact ⟨List.mem_of_getElem? (i := 140) rfl, rfl⟩
  · exact ⟨List.mem_of_getElem? (i := 343) rfl, rfl⟩
set_option maxRecDepth 100000 in
theorem gs_kw_1 : gs_kw 1 ∈ lw_tbl := List.mem_of_getElem? (i := 966) rfl
set_option maxRecDepth 100000 in
theorem gs_ow_1 : ∀ w ∈ gs_ow 1, gs_gw w := by
  intro w hw
  have hw : w ∈ ([.initialized (gs_y 1).1.cls, .static (gs_y 1).1] : List Cond) := hw
  simp only [List.mem_cons, List.not_mem_nil, or_false] at hw
  rcases hw with rfl | rfl
  · exact ⟨List.mem_of_getElem? (i := 140) rfl, rfl⟩
  · exact ⟨List.mem_of_getElem? (i := 965) rfl, rfl⟩
set_option maxRecDepth 100000 in
theorem gs_kw_2 : gs_kw 2 ∈ lw_tbl := List.mem_of_getElem? (i := 953) rfl
set_option maxRecDepth 100000 in
theorem gs_ow_2 : ∀ w ∈ gs_ow 2, gs_gw w := by
  intro w hw
  have hw : w ∈ ([.initialized (gs_y 2).1.cls, .instanceMethod (gs_y 2).1, .selects (gs_y 2).1.cls (gs_y 2).1 (gs_y 2).1] : List Cond) := hw
  simp only [List.mem_cons, List.not_mem_nil, or_false] at hw
  rcases hw with rfl | rfl | rfl
  · exact ⟨List.mem_of_getElem? (i := 140) rfl, rfl⟩
  · exact ⟨List.mem_of_getElem? (i := 951) rfl, rfl⟩
  · exact ⟨List.mem_of_getElem? (i := 952) rfl, rfl⟩
set_option maxRecDepth 100000 in
theorem gs_kw_3 : gs_kw 3 ∈ lw_tbl := List.mem_of_getElem? (i := 962) rfl
set_option maxRecDepth 100000 in
theorem gs_ow_3 : ∀ w ∈ gs_ow 3, gs_gw w := by
  intro w hw
  have hw : w ∈ ([.initialized (gs_y 3).1.cls, .instanceMethod (gs_y 3).1, .selects (gs_y 3).1.cls (gs_y 3).1 (gs_y 3).1] : List Cond) := hw
  simp only [List.mem_cons, List.not_mem_nil, or_false] at hw
  rcases hw with rfl | rfl | rfl
  · exact ⟨List.mem_of_getElem? (i := 140) rfl, rfl⟩
  · exact ⟨List.mem_of_getElem? (i := 961) rfl, rfl⟩
  · exact ⟨List.mem_of_getElem? (i := 28) rfl, rfl⟩
set_option maxRecDepth 100000 in
theorem gs_kw_4 : gs_kw 4 ∈ lw_tbl := List.mem_of_getElem? (i := 957) rfl
set_option maxRecDepth 100000 in
theorem gs_ow_4 : ∀ w ∈ gs_ow 4, gs_gw w := by
  intro w hw
  have hw : w ∈ ([.initialized (gs_y 4).1.cls, .instanceMethod (gs_y 4).1, .selects (gs_y 4).1.cls (gs_y 4).1 (gs_y 4).1] : List Cond) := hw
  simp only [List.mem_cons, List.not_mem_nil, or_false] at hw
  rcases hw with rfl | rfl | rfl
  · exact ⟨List.mem_of_getElem? (i := 140) rfl, rfl⟩
  · exact ⟨List.mem_of_getElem? (i := 955) rfl, rfl⟩
  · exact ⟨List.mem_of_getElem? (i := 956) rfl, rfl⟩
set_option maxRecDepth 100000 in
theorem gs_kw_5 : gs_kw 5 ∈ lw_tbl := List.mem_of_getElem? (i := 971) rfl
set_option maxRecDepth 100000 in
theorem gs_ow_5 : ∀ w ∈ gs_ow 5, gs_gw w := by
  intro w hw
  have hw : w ∈ ([.initialized (gs_y 5).1.cls, .instanceMethod (gs_y 5).1, .selects (gs_y 5).1.cls (gs_y 5).1 (gs_y 5).1] : List Cond) := hw
  simp only [List.mem_cons, List.not_mem_nil, or_false] at hw
  rcases hw with rfl | rfl | rfl
  · exact ⟨List.mem_of_getElem? (i := 140) rfl, rfl⟩
  · exact ⟨List.mem_of_getElem? (i := 969) rfl, rfl⟩
  · exact ⟨List.mem_of_getElem? (i := 970) rfl, rfl⟩
set_option maxRecDepth 100000 in
theorem gs_kw_6 : gs_kw 6 ∈ lw_tbl := List.mem_of_getElem? (i := 1156) rfl
set_option maxRecDepth 100000 in
theorem gs_ow_6 : ∀ w ∈ gs_ow 6, gs_gw w := by
  intro w hw
  have hw : w ∈ ([.initialized (gs_y 6).1.cls, .instanceMethod (gs_y 6).1, .selects (gs_y 6).1.cls (gs_y 6).1 (gs_y 6).1] : List Cond) := hw
  simp only [List.mem_cons, List.not_mem_nil, or_false] at hw
  rcases hw with rfl | rfl | rfl
  · exact ⟨List.mem_of_getElem? (i := 140) rfl, rfl⟩
  · exact ⟨List.mem_of_getElem? (i := 1154) rfl, rfl⟩
  · exact ⟨List.mem_of_getElem? (i := 1155) rfl, rfl⟩
set_option maxRecDepth 100000 in
theorem gs_kw_7 : gs_kw 7 ∈ lw_tbl := List.mem_of_getElem? (i := 1378) rfl
set_option maxRecDepth 100000 in
theorem gs_ow_7 : ∀ w ∈ gs_ow 7, gs_gw w := by
  intro w hw
  have hw : w ∈ ([.initialized (gs_y 7).1.cls, .instanceMethod (gs_y 7).1, .selects (gs_y 7).1.cls (gs_y 7).1 (gs_y 7).1] : List Cond) := hw
  simp only [List.mem_cons, List.not_mem_nil, or_false] at hw
  rcases hw with rfl | rfl | rfl
  · exact ⟨List.mem_of_getElem? (i := 140) rfl, rfl⟩
  · exact ⟨List.mem_of_getElem? (i := 1376) rfl, rfl⟩
  · exact ⟨List.mem_of_getElem? (i := 1377) rfl, rfl⟩
set_option maxRecDepth 100000 in
theorem gs_kw_8 : gs_kw 8 ∈ lw_tbl := List.mem_of_getElem? (i := 1416) rfl
set_option maxRecDepth 100000 in
theorem gs_ow_8 : ∀ w ∈ gs_ow 8, gs_gw w := by
  intro w hw
  have hw : w ∈ ([.initialized (gs_y 8).1.cls, .instanceMethod (gs_y 8).1, .selects (gs_y 8).1.cls (gs_y 8).1 (gs_y 8).1] : List Cond) := hw
  simp only [List.mem_cons, List.not_mem_nil, or_false] at hw
  rcases hw with rfl | rfl | rfl
  · exact ⟨List.mem_of_getElem? (i := 140) rfl, rfl⟩
  · exact ⟨List.mem_of_getElem? (i := 1414) rfl, rfl⟩
  · exact ⟨List.mem_of_getElem? (i := 1415) rfl, rfl⟩
set_option maxRecDepth 100000 in
theorem gs_kw_9 : gs_kw 9 ∈ lw_tbl := List.mem_of_getElem? (i := 1191) rfl
set_option maxRecDepth 100000 in
theorem gs_ow_9 : ∀ w ∈ gs_ow 9, gs_gw w := by
  intro w hw
  have hw : w ∈ ([.initialized (gs_y 9).1.cls, .instanceMethod (gs_y 9).1, .selects (gs_y 9).1.cls (gs_y 9).1 (gs_y 9).1] : List Cond) := hw
  simp only [List.mem_cons, List.not_mem_nil, or_false] at hw
  rcases hw with rfl | rfl | rfl
  · exact ⟨List.mem_of_getElem? (i := 140) rfl, rfl⟩
  · exact ⟨List.mem_of_getElem? (i := 1189) rfl, rfl⟩
  · exact ⟨List.mem_of_getElem? (i := 1190) rfl, rfl⟩
set_option maxRecDepth 100000 in
theorem gs_kw_10 : gs_kw 10 ∈ lw_tbl := List.mem_of_getElem? (i := 659) rfl
set_option maxRecDepth 100000 in
theorem gs_ow_10 : ∀ w ∈ gs_ow 10, gs_gw w := by
  intro w hw
  have hw : w ∈ ([.initialized (gs_y 10).1.cls, .instanceMethod (gs_y 10).1] : List Cond) := hw
  simp only [List.mem_cons, List.not_mem_nil, or_false] at hw
  rcases hw with rfl | rfl
  · exact ⟨List.mem_of_getElem? (i := 147) rfl, rfl⟩
  · exact ⟨List.mem_of_getElem? (i := 658) rfl, rfl⟩
set_option maxRecDepth 100000 in
theorem gs_kw_11 : gs_kw 11 ∈ lw_tbl := List.mem_of_getElem? (i := 1279) rfl
set_option maxRecDepth 100000 in
theorem gs_ow_11 : ∀ w ∈ gs_ow 11, gs_gw w := by
  intro w hw
  have hw : w ∈ ([.initialized (gs_y 11).1.cls, .instanceMethod (gs_y 11).1, .selects (gs_y 11).1.cls (gs_y 11).1 (gs_y 11).1] : List Cond) := hw
  simp only [List.mem_cons, List.not_mem_nil, or_false] at hw
  rcases hw with rfl | rfl | rfl
  · exact ⟨List.mem_of_getElem? (i := 147) rfl, rfl⟩
  · exact ⟨List.mem_of_getElem? (i := 1277) rfl, rfl⟩
  · exact ⟨List.mem_of_getElem? (i := 1278) rfl, rfl⟩
set_option maxRecDepth 100000 in
theorem gs_kw_12 : gs_kw 12 ∈ lw_tbl := List.mem_of_getElem? (i := 1284) rfl
set_option maxRecDepth 100000 in
theorem gs_ow_12 : ∀ w ∈ gs_ow 12, gs_gw w := by
  intro w hw
  have hw : w ∈ ([.initialized (gs_y 12).1.cls, .instanceMethod (gs_y 12).1, .selects (gs_y 12).1.cls (gs_y 12).1 (gs_y 12).1] : List Cond) := hw
  simp only [List.mem_cons, List.not_mem_nil, or_false] at hw
  rcases hw with rfl | rfl | rfl
  · exact ⟨List.mem_of_getElem? (i := 147) rfl, rfl⟩
  · exact ⟨List.mem_of_getElem? (i := 1283) rfl, rfl⟩
  · exact ⟨List.mem_of_getElem? (i := 49) rfl, rfl⟩
set_option maxRecDepth 100000 in
theorem gs_kw_13 : gs_kw 13 ∈ lw_tbl := List.mem_of_getElem? (i := 1386) rfl
set_option maxRecDepth 100000 in
theorem gs_ow_13 : ∀ w ∈ gs_ow 13, gs_gw w := by
  intro w hw
  have hw : w ∈ ([.initialized (gs_y 13).1.cls, .instanceMethod (gs_y 13).1, .selects (gs_y 13).1.cls (gs_y 13).1 (gs_y 13).1] : List Cond) := hw
  simp only [List.mem_cons, List.not_mem_nil, or_false] at hw
  rcases hw with rfl | rfl | rfl
  · exact ⟨List.mem_of_getElem? (i := 147) rfl, rfl⟩
  · exact ⟨List.mem_of_getElem? (i := 1384) rfl, rfl⟩
  · exact ⟨List.mem_of_getElem? (i := 1385) rfl, rfl⟩
set_option maxRecDepth 100000 in
theorem gs_kw_14 : gs_kw 14 ∈ lw_tbl := List.mem_of_getElem? (i := 1306) rfl
set_option maxRecDepth 100000 in
theorem gs_ow_14 : ∀ w ∈ gs_ow 14, gs_gw w := by
  intro w hw
  have hw : w ∈ ([.initialized (gs_y 14).1.cls, .instanceMethod (gs_y 14).1, .selects (gs_y 14).1.cls (gs_y 14).1 (gs_y 14).1] : List Cond) := hw
  simp only [List.mem_cons, List.not_mem_nil, or_false] at hw
  rcases hw with rfl | rfl | rfl
  · exact ⟨List.mem_of_getElem? (i := 147) rfl, rfl⟩
  · exact ⟨List.mem_of_getElem? (i := 1304) rfl, rfl⟩
  · exact ⟨List.mem_of_getElem? (i := 1305) rfl, rfl⟩
set_option maxRecDepth 100000 in
theorem gs_kw_15 : gs_kw 15 ∈ lw_tbl := List.mem_of_getElem? (i := 1329) rfl
set_option maxRecDepth 100000 in
theorem gs_ow_15 : ∀ w ∈ gs_ow 15, gs_gw w := by
  intro w hw
  have hw : w ∈ ([.initialized (gs_y 15).1.cls, .instanceMethod (gs_y 15).1, .selects (gs_y 15).1.cls (gs_y 15).1 (gs_y 15).1] : List Cond) := hw
  simp only [List.mem_cons, List.not_mem_nil, or_false] at hw
  rcases hw with rfl | rfl | rfl
  · exact ⟨List.mem_of_getElem? (i := 147) rfl, rfl⟩
  · exact ⟨List.mem_of_getElem? (i := 1327) rfl, rfl⟩
  · exact ⟨List.mem_of_getElem? (i := 1328) rfl, rfl⟩
set_option maxRecDepth 100000 in
theorem gs_kw_16 : gs_kw 16 ∈ lw_tbl := List.mem_of_getElem? (i := 1401) rfl
set_option maxRecDepth 100000 in
theorem gs_ow_16 : ∀ w ∈ gs_ow 16, gs_gw w := by
  intro w hw
  have hw : w ∈ ([.initialized (gs_y 16).1.cls, .instanceMethod (gs_y 16).1, .selects (gs_y 16).1.cls (gs_y 16).1 (gs_y 16).1] : List Cond) := hw
  simp only [List.mem_cons, List.not_mem_nil, or_false] at hw
  rcases hw with rfl | rfl | rfl
  · exact ⟨List.mem_of_getElem? (i := 147) rfl, rfl⟩
  · exact ⟨List.mem_of_getElem? (i := 1399) rfl, rfl⟩
  · exact ⟨List.mem_of_getElem? (i := 1400) rfl, rfl⟩
set_option maxRecDepth 100000 in
theorem gs_kw_17 : gs_kw 17 ∈ lw_tbl := List.mem_of_getElem? (i := 262) rfl
set_option maxRecDepth 100000 in
theorem gs_ow_17 : ∀ w ∈ gs_ow 17, gs_gw w := by
  intro w hw
  have hw : w ∈ ([.initialized (gs_y 17).1.cls, .instanceMethod (gs_y 17).1] : List Cond) := hw
  simp only [List.mem_cons, List.not_mem_nil, or_false] at hw
  rcases hw with rfl | rfl
  · exact ⟨List.mem_of_getElem? (i := 139) rfl, rfl⟩
  · exact ⟨List.mem_of_getElem? (i := 261) rfl, rfl⟩
set_option maxRecDepth 100000 in
theorem gs_kw_18 : gs_kw 18 ∈ lw_tbl := List.mem_of_getElem? (i := 865) rfl
set_option maxRecDepth 100000 in
theorem gs_ow_18 : ∀ w ∈ gs_ow 18, gs_gw w := by
  intro w hw
  have hw : w ∈ ([.initialized (gs_y 18).1.cls, .instanceMethod (gs_y 18).1, .selects (gs_y 18).1.cls (gs_y 18).1 (gs_y 18).1] : List Cond) := hw
  simp only [List.mem_cons, List.not_mem_nil, or_false] at hw
  rcases hw with rfl | rfl | rfl
  · exact ⟨List.mem_of_getElem? (i := 139) rfl, rfl⟩
  · exact ⟨List.mem_of_getElem? (i := 863) rfl, rfl⟩
  · exact ⟨List.mem_of_getElem? (i := 864) rfl, rfl⟩
set_option maxRecDepth 100000 in
theorem gs_kw_19 : gs_kw 19 ∈ lw_tbl := List.mem_of_getElem? (i := 1017) rfl
set_option maxRecDepth 100000 in
theorem gs_ow_19 : ∀ w ∈ gs_ow 19, gs_gw w := by
  intro w hw
  have hw : w ∈ ([.initialized (gs_y 19).1.cls, .instanceMethod (gs_y 19).1, .selects (gs_y 19).1.cls (gs_y 19).1 (gs_y 19).1] : List Cond) := hw
  simp only [List.mem_cons, List.not_mem_nil, or_false] at hw
  rcases hw with rfl | rfl | rfl
  · exact ⟨List.mem_of_getElem? (i := 139) rfl, rfl⟩
  · exact ⟨List.mem_of_getElem? (i := 1015) rfl, rfl⟩
  · exact ⟨List.mem_of_getElem? (i := 1016) rfl, rfl⟩
set_option maxRecDepth 100000 in
theorem gs_kw_20 : gs_kw 20 ∈ lw_tbl := List.mem_of_getElem? (i := 1298) rfl
set_option maxRecDepth 100000 in
theorem gs_ow_20 : ∀ w ∈ gs_ow 20, gs_gw w := by
  intro w hw
  have hw : w ∈ ([.initialized (gs_y 20).1.cls, .instanceMethod (gs_y 20).1, .selects (gs_y 20).1.cls (gs_y 20).1 (gs_y 20).1] : List Cond) := hw
  simp only [List.mem_cons, List.not_mem_nil, or_false] at hw
  rcases hw with rfl | rfl | rfl
  · exact ⟨List.mem_of_getElem? (i := 139) rfl, rfl⟩
  · exact ⟨List.mem_of_getElem? (i := 1296) rfl, rfl⟩
  · exact ⟨List.mem_of_getElem? (i := 1297) rfl, rfl⟩
set_option maxRecDepth 100000 in
theorem gs_kw_21 : gs_kw 21 ∈ lw_tbl := List.mem_of_getElem? (i := 1294) rfl
set_option maxRecDepth 100000 in
theorem gs_ow_21 : ∀ w ∈ gs_ow 21, gs_gw w := by
  intro w hw
  have hw : w ∈ ([.initialized (gs_y 21).1.cls, .instanceMethod (gs_y 21).1, .selects (gs_y 21).1.cls (gs_y 21).1 (gs_y 21).1] : List Cond) := hw
  simp only [List.mem_cons, List.not_mem_nil, or_false] at hw
  rcases hw with rfl | rfl | rfl
  · exact ⟨List.mem_of_getElem? (i := 139) rfl, rfl⟩
  · exact ⟨List.mem_of_getElem? (i := 1292) rfl, rfl⟩
  · exact ⟨List.mem_of_getElem? (i := 1293) rfl, rfl⟩
set_option maxRecDepth 100000 in
theorem gs_kw_22 : gs_kw 22 ∈ lw_tbl := List.mem_of_getElem? (i := 1107) rfl
set_option maxRecDepth 100000 in
theorem gs_ow_22 : ∀ w ∈ gs_ow 22, gs_gw w := by
  intro w hw
  have hw : w ∈ ([.initialized (gs_y 22).1.cls, .instanceMethod (gs_y 22).1, .selects (gs_y 22).1.cls (gs_y 22).1 (gs_y 22).1] : List Cond) := hw
  simp only [List.mem_cons, List.not_mem_nil, or_false] at hw
  rcases hw with rfl | rfl | rfl
  · exact ⟨List.mem_of_getElem? (i := 139) rfl, rfl⟩
  · exact ⟨List.mem_of_getElem? (i := 1105) rfl, rfl⟩
  · exact ⟨List.mem_of_getElem? (i := 1106) rfl, rfl⟩
set_option maxRecDepth 100000 in
theorem gs_kw_23 : gs_kw 23 ∈ lw_tbl := List.mem_of_getElem? (i := 887) rfl
set_option maxRecDepth 100000 in
theorem gs_ow_23 : ∀ w ∈ gs_ow 23, gs_gw w := by
  intro w hw
  have hw : w ∈ ([.initialized (gs_y 23).1.cls, .instanceMethod (gs_y 23).1, .selects (gs_y 23).1.cls (gs_y 23).1 (gs_y 23).1] : List Cond) := hw
  simp only [List.mem_cons, List.not_mem_nil, or_false] at hw
  rcases hw with rfl | rfl | rfl
  · exact ⟨List.mem_of_getElem? (i := 139) rfl, rfl⟩
  · exact ⟨List.mem_of_getElem? (i := 885) rfl, rfl⟩
  · exact ⟨List.mem_of_getElem? (i := 886) rfl, rfl⟩
set_option maxRecDepth 100000 in
theorem gs_kw_24 : gs_kw 24 ∈ lw_tbl := List.mem_of_getElem? (i := 1172) rfl
set_option maxRecDepth 100000 in
theorem gs_ow_24 : ∀ w ∈ gs_ow 24, gs_gw w := by
  intro w hw
  have hw : w ∈ ([.initialized (gs_y 24).1.cls, .instanceMethod (gs_y 24).1, .selects (gs_y 24).1.cls (gs_y 24).1 (gs_y 24).1] : List Cond) := hw
  simp only [List.mem_cons, List.not_mem_nil, or_false] at hw
  rcases hw with rfl | rfl | rfl
  · exact ⟨List.mem_of_getElem? (i := 139) rfl, rfl⟩
  · exact ⟨List.mem_of_getElem? (i := 1170) rfl, rfl⟩
  · exact ⟨List.mem_of_getElem? (i := 1171) rfl, rfl⟩
set_option maxRecDepth 100000 in
theorem gs_kw_25 : gs_kw 25 ∈ lw_tbl := List.mem_of_getElem? (i := 183) rfl
set_option maxRecDepth 100000 in
theorem gs_ow_25 : ∀ w ∈ gs_ow 25, gs_gw w := by
  intro w hw
  have hw : w ∈ ([.initialized (gs_y 25).1.cls, .instanceMethod (gs_y 25).1] : List Cond) := hw
  simp only [List.mem_cons, List.not_mem_nil, or_false] at hw
  rcases hw with rfl | rfl
  · exact ⟨List.mem_of_getElem? (i := 136) rfl, rfl⟩
  · exact ⟨List.mem_of_getElem? (i := 182) rfl, rfl⟩
set_option maxRecDepth 100000 in
theorem gs_kw_26 : gs_kw 26 ∈ lw_tbl := List.mem_of_getElem? (i := 845) rfl
set_option maxRecDepth 100000 in
theorem gs_ow_26 : ∀ w ∈ gs_ow 26, gs_gw w := by
  intro w hw
  have hw : w ∈ ([.initialized (gs_y 26).1.cls, .instanceMethod (gs_y 26).1, .selects (gs_y 26).1.cls (gs_y 26).1 (gs_y 26).1] : List Cond) := hw
  simp only [List.mem_cons, List.not_mem_nil, or_false] at hw
  rcases hw with rfl | rfl | rfl
  · exact ⟨List.mem_of_getElem? (i := 136) rfl, rfl⟩
  · exact ⟨List.mem_of_getElem? (i := 843) rfl, rfl⟩
  · exact ⟨List.mem_of_getElem? (i := 844) rfl, rfl⟩
set_option maxRecDepth 100000 in
theorem gs_kw_27 : gs_kw 27 ∈ lw_tbl := List.mem_of_getElem? (i := 837) rfl
set_option maxRecDepth 100000 in
theorem gs_ow_27 : ∀ w ∈ gs_ow 27, gs_gw w := by
  intro w hw
  have hw : w ∈ ([.initialized (gs_y 27).1.cls, .instanceMethod (gs_y 27).1, .selects (gs_y 27).1.cls (gs_y 27).1 (gs_y 27).1] : List Cond) := hw
  simp only [List.mem_cons, List.not_mem_nil, or_false] at hw
  rcases hw with rfl | rfl | rfl
  · exact ⟨List.mem_of_getElem? (i := 136) rfl, rfl⟩
  · exact ⟨List.mem_of_getElem? (i := 835) rfl, rfl⟩
  · exact ⟨List.mem_of_getElem? (i := 836) rfl, rfl⟩
set_option maxRecDepth 100000 in
theorem gs_kw_28 : gs_kw 28 ∈ lw_tbl := List.mem_of_getElem? (i := 603) rfl
set_option maxRecDepth 100000 in
theorem gs_ow_28 : ∀ w ∈ gs_ow 28, gs_gw w := by
  intro w hw
  have hw : w ∈ ([.initialized (gs_y 28).1.cls, .instanceMethod (gs_y 28).1] : List Cond) := hw
  simp only [List.mem_cons, List.not_mem_nil, or_false] at hw
  rcases hw with rfl | rfl
  · exact ⟨List.mem_of_getElem? (i := 146) rfl, rfl⟩
  · exact ⟨List.mem_of_getElem? (i := 602) rfl, rfl⟩
set_option maxRecDepth 100000 in
theorem gs_kw_29 : gs_kw 29 ∈ lw_tbl := List.mem_of_getElem? (i := 1212) rfl
set_option maxRecDepth 100000 in
theorem gs_ow_29 : ∀ w ∈ gs_ow 29, gs_gw w := by
  intro w hw
  have hw : w ∈ ([.initialized (gs_y 29).1.cls, .instanceMethod (gs_y 29).1, .selects (gs_y 29).1.cls (gs_y 29).1 (gs_y 29).1] : List Cond) := hw
  simp only [List.mem_cons, List.not_mem_nil, or_false] at hw
  rcases hw with rfl | rfl | rfl
  · exact ⟨List.mem_of_getElem? (i := 146) rfl, rfl⟩
  · exact ⟨List.mem_of_getElem? (i := 1210) rfl, rfl⟩
  · exact ⟨List.mem_of_getElem? (i := 1211) rfl, rfl⟩
set_option maxRecDepth 100000 in
theorem gs_kw_30 : gs_kw 30 ∈ lw_tbl := List.mem_of_getElem? (i := 1239) rfl
set_option maxRecDepth 100000 in
theorem gs_ow_30 : ∀ w ∈ gs_ow 30, gs_gw w := by
  intro w hw
  have hw : w ∈ ([.initialized (gs_y 30).1.cls, .instanceMethod (gs_y 30).1, .selects (gs_y 30).1.cls (gs_y 30).1 (gs_y 30).1] : List Cond) := hw
  simp only [List.mem_cons, List.not_mem_nil, or_false] at hw
  rcases hw with rfl | rfl | rfl
  · exact ⟨List.mem_of_getElem? (i := 146) rfl, rfl⟩
  · exact ⟨List.mem_of_getElem? (i := 1238) rfl, rfl⟩
  · exact ⟨List.mem_of_getElem? (i := 45) rfl, rfl⟩
set_option maxRecDepth 100000 in
theorem gs_kw_31 : gs_kw 31 ∈ lw_tbl := List.mem_of_getElem? (i := 1232) rfl
set_option maxRecDepth 100000 in
theorem gs_ow_31 : ∀ w ∈ gs_ow 31, gs_gw w := by
  intro w hw
  have hw : w ∈ ([.initialized (gs_y 31).1.cls, .instanceMethod (gs_y 31).1, .selects (gs_y 31).1.cls (gs_y 31).1 (gs_y 31).1] : List Cond) := hw
  simp only [List.mem_cons, List.not_mem_nil, or_false] at hw
  rcases hw with rfl | rfl | rfl
  · exact ⟨List.mem_of_getElem? (i := 146) rfl, rfl⟩
  · exact ⟨List.mem_of_getElem? (i := 1231) rfl, rfl⟩
  · exact ⟨List.mem_of_getElem? (i := 44) rfl, rfl⟩
set_option maxRecDepth 100000 in
theorem gs_kw_32 : gs_kw 32 ∈ lw_tbl := List.mem_of_getElem? (i := 1223) rfl
set_option maxRecDepth 100000 in
theorem gs_ow_32 : ∀ w ∈ gs_ow 32, gs_gw w := by
  intro w hw
  have hw : w ∈ ([.initialized (gs_y 32).1.cls, .instanceMethod (gs_y 32).1, .selects (gs_y 32).1.cls (gs_y 32).1 (gs_y 32).1] : List Cond) := hw
  simp only [List.mem_cons, List.not_mem_nil, or_false] at hw
  rcases hw with rfl | rfl | rfl
  · exact ⟨List.mem_of_getElem? (i := 146) rfl, rfl⟩
  · exact ⟨List.mem_of_getElem? (i := 1222) rfl, rfl⟩
  · exact ⟨List.mem_of_getElem? (i := 42) rfl, rfl⟩
set_option maxRecDepth 100000 in
theorem gs_kw_33 : gs_kw 33 ∈ lw_tbl := List.mem_of_getElem? (i := 1228) rfl
set_option maxRecDepth 100000 in
theorem gs_ow_33 : ∀ w ∈ gs_ow 33, gs_gw w := by
  intro w hw
  have hw : w ∈ ([.initialized (gs_y 33).1.cls, .instanceMethod (gs_y 33).1, .selects (gs_y 33).1.cls (gs_y 33).1 (gs_y 33).1] : List Cond) := hw
  simp only [List.mem_cons, List.not_mem_nil, or_false] at hw
  rcases hw with rfl | rfl | rfl
  · exact ⟨List.mem_of_getElem? (i := 146) rfl, rfl⟩
  · exact ⟨List.mem_of_getElem? (i := 1227) rfl, rfl⟩
  · exact ⟨List.mem_of_getElem? (i := 43) rfl, rfl⟩
set_option maxRecDepth 100000 in
theorem gs_kw_34 : gs_kw 34 ∈ lw_tbl := List.mem_of_getElem? (i := 1245) rfl
set_option maxRecDepth 100000 in
theorem gs_ow_34 : ∀ w ∈ gs_ow 34, gs_gw w := by
  intro w hw
  have hw : w ∈ ([.initialized (gs_y 34).1.cls, .instanceMethod (gs_y 34).1, .selects (gs_y 34).1.cls (gs_y 34).1 (gs_y 34).1] : List Cond) := hw
  simp only [List.mem_cons, List.not_mem_nil, or_false] at hw
  rcases hw with rfl | rfl | rfl
  · exact ⟨List.mem_of_getElem? (i := 146) rfl, rfl⟩
  · exact ⟨List.mem_of_getElem? (i := 1244) rfl, rfl⟩
  · exact ⟨List.mem_of_getElem? (i := 46) rfl, rfl⟩
set_option maxRecDepth 100000 in
theorem gs_kw_35 : gs_kw 35 ∈ lw_tbl := List.mem_of_getElem? (i := 1249) rfl
set_option maxRecDepth 100000 in
theorem gs_ow_35 : ∀ w ∈ gs_ow 35, gs_gw w := by
  intro w hw
  have hw : w ∈ ([.initialized (gs_y 35).1.cls, .instanceMethod (gs_y 35).1, .selects (gs_y 35).1.cls (gs_y 35).1 (gs_y 35).1] : List Cond) := hw
  simp only [List.mem_cons, List.not_mem_nil, or_false] at hw
  rcases hw with rfl | rfl | rfl
  · exact ⟨List.mem_of_getElem? (i := 146) rfl, rfl⟩
  · exact ⟨List.mem_of_getElem? (i := 1248) rfl, rfl⟩
  · exact ⟨List.mem_of_getElem? (i := 47) rfl, rfl⟩
set_option maxRecDepth 100000 in
theorem gs_kw_36 : gs_kw 36 ∈ lw_tbl := List.mem_of_getElem? (i := 1344) rfl
set_option maxRecDepth 100000 in
theorem gs_ow_36 : ∀ w ∈ gs_ow 36, gs_gw w := by
  intro w hw
  have hw : w ∈ ([.initialized (gs_y 36).1.cls, .instanceMethod (gs_y 36).1, .selects (gs_y 36).1.cls (gs_y 36).1 (gs_y 36).1] : List Cond) := hw
  simp only [List.mem_cons, List.not_mem_nil, or_false] at hw
  rcases hw with rfl | rfl | rfl
  · exact ⟨List.mem_of_getElem? (i := 146) rfl, rfl⟩
  · exact ⟨List.mem_of_getElem? (i := 1342) rfl, rfl⟩
  · exact ⟨List.mem_of_getElem? (i := 1343) rfl, rfl⟩
set_option maxRecDepth 100000 in
theorem gs_kw_37 : gs_kw 37 ∈ lw_tbl := List.mem_of_getElem? (i := 1340) rfl
set_option maxRecDepth 100000 in
theorem gs_ow_37 : ∀ w ∈ gs_ow 37, gs_gw w := by
  intro w hw
  have hw : w ∈ ([.initialized (gs_y 37).1.cls, .instanceMethod (gs_y 37).1, .selects (gs_y 37).1.cls (gs_y 37).1 (gs_y 37).1] : List Cond) := hw
  simp only [List.mem_cons, List.not_mem_nil, or_false] at hw
  rcases hw with rfl | rfl | rfl
  · exact ⟨List.mem_of_getElem? (i := 146) rfl, rfl⟩
  · exact ⟨List.mem_of_getElem? (i := 1338) rfl, rfl⟩
  · exact ⟨List.mem_of_getElem? (i := 1339) rfl, rfl⟩
set_option maxRecDepth 100000 in
theorem gs_kw_38 : gs_kw 38 ∈ lw_tbl := List.mem_of_getElem? (i := 1348) rfl
set_option maxRecDepth 100000 in
theorem gs_ow_38 : ∀ w ∈ gs_ow 38, gs_gw w := by
  intro w hw
  have hw : w ∈ ([.initialized (gs_y 38).1.cls, .instanceMethod (gs_y 38).1, .selects (gs_y 38).1.cls (gs_y 38).1 (gs_y 38).1] : List Cond) := hw
  simp only [List.mem_cons, List.not_mem_nil, or_false] at hw
  rcases hw with rfl | rfl | rfl
  · exact ⟨List.mem_of_getElem? (i := 146) rfl, rfl⟩
  · exact ⟨List.mem_of_getElem? (i := 1346) rfl, rfl⟩
  · exact ⟨List.mem_of_getElem? (i := 1347) rfl, rfl⟩
set_option maxRecDepth 100000 in
theorem gs_kw_39 : gs_kw 39 ∈ lw_tbl := List.mem_of_getElem? (i := 1474) rfl
set_option maxRecDepth 100000 in
theorem gs_ow_39 : ∀ w ∈ gs_ow 39, gs_gw w := by
  intro w hw
  have hw : w ∈ ([.initialized (gs_y 39).1.cls, .instanceMethod (gs_y 39).1, .selects (gs_y 39).1.cls (gs_y 39).1 (gs_y 39).1] : List Cond) := hw
  simp only [List.mem_cons, List.not_mem_nil, or_false] at hw
  rcases hw with rfl | rfl | rfl
  · exact ⟨List.mem_of_getElem? (i := 146) rfl, rfl⟩
  · exact ⟨List.mem_of_getElem? (i := 1472) rfl, rfl⟩
  · exact ⟨List.mem_of_getElem? (i := 1473) rfl, rfl⟩
set_option maxRecDepth 100000 in
theorem gs_kw_40 : gs_kw 40 ∈ lw_tbl := List.mem_of_getElem? (i := 1478) rfl
set_option maxRecDepth 100000 in
theorem gs_ow_40 : ∀ w ∈ gs_ow 40, gs_gw w := by
  intro w hw
  have hw : w ∈ ([.initialized (gs_y 40).1.cls, .instanceMethod (gs_y 40).1, .selects (gs_y 40).1.cls (gs_y 40).1 (gs_y 40).1] : List Cond) := hw
  simp only [List.mem_cons, List.not_mem_nil, or_false] at hw
  rcases hw with rfl | rfl | rfl
  · exact ⟨List.mem_of_getElem? (i := 146) rfl, rfl⟩
  · exact ⟨List.mem_of_getElem? (i := 1477) rfl, rfl⟩
  · exact ⟨List.mem_of_getElem? (i := 54) rfl, rfl⟩
set_option maxRecDepth 100000 in
theorem gs_kw_41 : gs_kw 41 ∈ lw_tbl := List.mem_of_getElem? (i := 171) rfl
set_option maxRecDepth 100000 in
theorem gs_ow_41 : ∀ w ∈ gs_ow 41, gs_gw w := by
  intro w hw
  have hw : w ∈ ([.initialized (gs_y 41).1.cls, .instanceMethod (gs_y 41).1] : List Cond) := hw
  simp only [List.mem_cons, List.not_mem_nil, or_false] at hw
  rcases hw with rfl | rfl
  · exact ⟨List.mem_of_getElem? (i := 134) rfl, rfl⟩
  · exact ⟨List.mem_of_getElem? (i := 170) rfl, rfl⟩
set_option maxRecDepth 100000 in
theorem gs_kw_42 : gs_kw 42 ∈ lw_tbl := List.mem_of_getElem? (i := 712) rfl
set_option maxRecDepth 100000 in
theorem gs_ow_42 : ∀ w ∈ gs_ow 42, gs_gw w := by
  intro w hw
  have hw : w ∈ ([.initialized (gs_y 42).1.cls, .instanceMethod (gs_y 42).1, .selects (gs_y 42).1.cls (gs_y 42).1 (gs_y 42).1] : List Cond) := hw
  simp only [List.mem_cons, List.not_mem_nil, or_false] at hw
  rcases hw with rfl | rfl | rfl
  · exact ⟨List.mem_of_getElem? (i := 134) rfl, rfl⟩
  · exact ⟨List.mem_of_getElem? (i := 710) rfl, rfl⟩
  · exact ⟨List.mem_of_getElem? (i := 711) rfl, rfl⟩
set_option maxRecDepth 100000 in
theorem gs_kw_43 : gs_kw 43 ∈ lw_tbl := List.mem_of_getElem? (i := 761) rfl
set_option maxRecDepth 100000 in
theorem gs_ow_43 : ∀ w ∈ gs_ow 43, gs_gw w := by
  intro w hw
  have hw : w ∈ ([.initialized (gs_y 43).1.cls, .instanceMethod (gs_y 43).1, .selects (gs_y 43).1.cls (gs_y 43).1 (gs_y 43).1] : List Cond) := hw
  simp only [List.mem_cons, List.not_mem_nil, or_false] at hw
  rcases hw with rfl | rfl | rfl
  · exact ⟨List.mem_of_getElem? (i := 134) rfl, rfl⟩
  · exact ⟨List.mem_of_getElem? (i := 760) rfl, rfl⟩
  · exact ⟨List.mem_of_getElem? (i := 6) rfl, rfl⟩
set_option maxRecDepth 100000 in
theorem gs_kw_44 : gs_kw 44 ∈ lw_tbl := List.mem_of_getElem? (i := 899) rfl
set_option maxRecDepth 100000 in
theorem gs_ow_44 : ∀ w ∈ gs_ow 44, gs_gw w := by
  intro w hw
  have hw : w ∈ ([.initialized (gs_y 44).1.cls, .instanceMethod (gs_y 44).1, .selects (gs_y 44).1.cls (gs_y 44).1 (gs_y 44).1] : List Cond) := hw
  simp only [List.mem_cons, List.not_mem_nil, or_false] at hw
  rcases hw with rfl | rfl | rfl
  · exact ⟨List.mem_of_getElem? (i := 134) rfl, rfl⟩
  · exact ⟨List.mem_of_getElem? (i := 898) rfl, rfl⟩
  · exact ⟨List.mem_of_getElem? (i := 19) rfl, rfl⟩
set_option maxRecDepth 100000 in
theorem gs_kw_45 : gs_kw 45 ∈ lw_tbl := List.mem_of_getElem? (i := 841) rfl
set_option maxRecDepth 100000 in
theorem gs_ow_45 : ∀ w ∈ gs_ow 45, gs_gw w := by
  intro w hw
  have hw : w ∈ ([.initialized (gs_y 45).1.cls, .instanceMethod (gs_y 45).1, .selects (gs_y 45).1.cls (gs_y 45).1 (gs_y 45).1] : List Cond) := hw
  simp only [List.mem_cons, List.not_mem_nil, or_false] at hw
  rcases hw with rfl | rfl | rfl
  · exact ⟨List.mem_of_getElem? (i := 134) rfl, rfl⟩
  · exact ⟨List.mem_of_getElem? (i := 840) rfl, rfl⟩
  · exact ⟨List.mem_of_getElem? (i := 9) rfl, rfl⟩
set_option maxRecDepth 100000 in
theorem gs_kw_46 : gs_kw 46 ∈ lw_tbl := List.mem_of_getElem? (i := 833) rfl
set_option maxRecDepth 100000 in
theorem gs_ow_46 : ∀ w ∈ gs_ow 46, gs_gw w := by
  intro w hw
  have hw : w ∈ ([.initialized (gs_y 46).1.cls, .instanceMethod (gs_y 46).1, .selects (gs_y 46).1.cls (gs_y 46).1 (gs_y 46).1] : List Cond) := hw
  simp only [List.mem_cons, List.not_mem_nil, or_false] at hw
  rcases hw with rfl | rfl | rfl
  · exact ⟨List.mem_of_getElem? (i := 134) rfl, rfl⟩
  · exact ⟨List.mem_of_getElem? (i := 832) rfl, rfl⟩
  · exact ⟨List.mem_of_getElem? (i := 8) rfl, rfl⟩
set_option maxRecDepth 100000 in
theorem gs_kw_47 : gs_kw 47 ∈ lw_tbl := List.mem_of_getElem? (i := 857) rfl
set_option maxRecDepth 100000 in
theorem gs_ow_47 : ∀ w ∈ gs_ow 47, gs_gw w := by
  intro w hw
  have hw : w ∈ ([.initialized (gs_y 47).1.cls, .instanceMethod (gs_y 47).1, .selects (gs_y 47).1.cls (gs_y 47).1 (gs_y 47).1] : List Cond) := hw
  simp only [List.mem_cons, List.not_mem_nil, or_false] at hw
  rcases hw with rfl | rfl | rfl
  · exact ⟨List.mem_of_getElem? (i := 134) rfl, rfl⟩
  · exact ⟨List.mem_of_getElem? (i := 856) rfl, rfl⟩
  · exact ⟨List.mem_of_getElem? (i := 12) rfl, rfl⟩
set_option maxRecDepth 100000 in
theorem gs_kw_48 : gs_kw 48 ∈ lw_tbl := List.mem_of_getElem? (i := 757) rfl
set_option maxRecDepth 100000 in
theorem gs_ow_48 : ∀ w ∈ gs_ow 48, gs_gw w := by
  intro w hw
  have hw : w ∈ ([.initialized (gs_y 48).1.cls, .instanceMethod (gs_y 48).1, .selects (gs_y 48).1.cls (gs_y 48).1 (gs_y 48).1] : List Cond) := hw
  simp only [List.mem_cons, List.not_mem_nil, or_false] at hw
  rcases hw with rfl | rfl | rfl
  · exact ⟨List.mem_of_getElem? (i := 134) rfl, rfl⟩
  · exact ⟨List.mem_of_getElem? (i := 756) rfl, rfl⟩
  · exact ⟨List.mem_of_getElem? (i := 5) rfl, rfl⟩
set_option maxRecDepth 100000 in
theorem gs_kw_49 : gs_kw 49 ∈ lw_tbl := List.mem_of_getElem? (i := 749) rfl
set_option maxRecDepth 100000 in
theorem gs_ow_49 : ∀ w ∈ gs_ow 49, gs_gw w := by
  intro w hw
  have hw : w ∈ ([.initialized (gs_y 49).1.cls, .instanceMethod (gs_y 49).1, .selects (gs_y 49).1.cls (gs_y 49).1 (gs_y 49).1] : List Cond) := hw
  simp only [List.mem_cons, List.not_mem_nil, or_false] at hw
  rcases hw with rfl | rfl | rfl
  · exact ⟨List.mem_of_getElem? (i := 134) rfl, rfl⟩
  · exact ⟨List.mem_of_getElem? (i := 748) rfl, rfl⟩
  · exact ⟨List.mem_of_getElem? (i := 3) rfl, rfl⟩
set_option maxRecDepth 100000 in
theorem gs_kw_50 : gs_kw 50 ∈ lw_tbl := List.mem_of_getElem? (i := 949) rfl
set_option maxRecDepth 100000 in
theorem gs_ow_50 : ∀ w ∈ gs_ow 50, gs_gw w := by
  intro w hw
  have hw : w ∈ ([.initialized (gs_y 50).1.cls, .instanceMethod (gs_y 50).1, .selects (gs_y 50).1.cls (gs_y 50).1 (gs_y 50).1] : List Cond) := hw
  simp only [List.mem_cons, List.not_mem_nil, or_false] at hw
  rcases hw with rfl | rfl | rfl
  · exact ⟨List.mem_of_getElem? (i := 134) rfl, rfl⟩
  · exact ⟨List.mem_of_getElem? (i := 948) rfl, rfl⟩
  · exact ⟨List.mem_of_getElem? (i := 27) rfl, rfl⟩
set_option maxRecDepth 100000 in
theorem gs_kw_51 : gs_kw 51 ∈ lw_tbl := List.mem_of_getElem? (i := 873) rfl
set_option maxRecDepth 100000 in
theorem gs_ow_51 : ∀ w ∈ gs_ow 51, gs_gw w := by
  intro w hw
  have hw : w ∈ ([.initialized (gs_y 51).1.cls, .instanceMethod (gs_y 51).1, .selects (gs_y 51).1.cls (gs_y 51).1 (gs_y 51).1] : List Cond) := hw
  simp only [List.mem_cons, List.not_mem_nil, or_false] at hw
  rcases hw with rfl | rfl | rfl
  · exact ⟨List.mem_of_getElem? (i := 134) rfl, rfl⟩
  · exact ⟨List.mem_of_getElem? (i := 872) rfl, rfl⟩
  · exact ⟨List.mem_of_getElem? (i := 15) rfl, rfl⟩
set_option maxRecDepth 100000 in
theorem gs_kw_52 : gs_kw 52 ∈ lw_tbl := List.mem_of_getElem? (i := 753) rfl
set_option maxRecDepth 100000 in
theorem gs_ow_52 : ∀ w ∈ gs_ow 52, gs_gw w := by
  intro w hw
  have hw : w ∈ ([.initialized (gs_y 52).1.cls, .instanceMethod (gs_y 52).1, .selects (gs_y 52).1.cls (gs_y 52).1 (gs_y 52).1] : List Cond) := hw
  simp only [List.mem_cons, List.not_mem_nil, or_false] at hw
  rcases hw with rfl | rfl | rfl
  · exact ⟨List.mem_of_getElem? (i := 134) rfl, rfl⟩
  · exact ⟨List.mem_of_getElem? (i := 752) rfl, rfl⟩
  · exact ⟨List.mem_of_getElem? (i := 4) rfl, rfl⟩
set_option maxRecDepth 100000 in
theorem gs_kw_53 : gs_kw 53 ∈ lw_tbl := List.mem_of_getElem? (i := 849) rfl
set_option maxRecDepth 100000 in
theorem gs_ow_53 : ∀ w ∈ gs_ow 53, gs_gw w := by
  intro w hw
  have hw : w ∈ ([.initialized (gs_y 53).1.cls, .instanceMethod (gs_y 53).1, .selects (gs_y 53).1.cls (gs_y 53).1 (gs_y 53).1] : List Cond) := hw
  simp only [List.mem_cons, List.not_mem_nil, or_false] at hw
  rcases hw with rfl | rfl | rfl
  · exact ⟨List.mem_of_getElem? (i := 134) rfl, rfl⟩
  · exact ⟨List.mem_of_getElem? (i := 848) rfl, rfl⟩
  · exact ⟨List.mem_of_getElem? (i := 10) rfl, rfl⟩
set_option maxRecDepth 100000 in
theorem gs_kw_54 : gs_kw 54 ∈ lw_tbl := List.mem_of_getElem? (i := 853) rfl
set_option maxRecDepth 100000 in
theorem gs_ow_54 : ∀ w ∈ gs_ow 54, gs_gw w := by
  intro w hw
  have hw : w ∈ ([.initialized (gs_y 54).1.cls, .instanceMethod (gs_y 54).1, .selects (gs_y 54).1.cls (gs_y 54).1 (gs_y 54).1] : List Cond) := hw
  simp only [List.mem_cons, List.not_mem_nil, or_false] at hw
  rcases hw with rfl | rfl | rfl
  · exact ⟨List.mem_of_getElem? (i := 134) rfl, rfl⟩
  · exact ⟨List.mem_of_getElem? (i := 852) rfl, rfl⟩
  · exact ⟨List.mem_of_getElem? (i := 11) rfl, rfl⟩
set_option maxRecDepth 100000 in
theorem gs_kw_55 : gs_kw 55 ∈ lw_tbl := List.mem_of_getElem? (i := 941) rfl
set_option maxRecDepth 100000 in
theorem gs_ow_55 : ∀ w ∈ gs_ow 55, gs_gw w := by
  intro w hw
  have hw : w ∈ ([.initialized (gs_y 55).1.cls, .instanceMethod (gs_y 55).1, .selects (gs_y 55).1.cls (gs_y 55).1 (gs_y 55).1] : List Cond) := hw
  simp only [List.mem_cons, List.not_mem_nil, or_false] at hw
  rcases hw with rfl | rfl | rfl
  · exact ⟨List.mem_of_getElem? (i := 134) rfl, rfl⟩
  · exact ⟨List.mem_of_getElem? (i := 940) rfl, rfl⟩
  · exact ⟨List.mem_of_getElem? (i := 26) rfl, rfl⟩
set_option maxRecDepth 100000 in
theorem gs_kw_56 : gs_kw 56 ∈ lw_tbl := List.mem_of_getElem? (i := 861) rfl
set_option maxRecDepth 100000 in
theorem gs_ow_56 : ∀ w ∈ gs_ow 56, gs_gw w := by
  intro w hw
  have hw : w ∈ ([.initialized (gs_y 56).1.cls, .instanceMethod (gs_y 56).1, .selects (gs_y 56).1.cls (gs_y 56).1 (gs_y 56).1] : List Cond) := hw
  simp only [List.mem_cons, List.not_mem_nil, or_false] at hw
  rcases hw with rfl | rfl | rfl
  · exact ⟨List.mem_of_getElem? (i := 134) rfl, rfl⟩
  · exact ⟨List.mem_of_getElem? (i := 860) rfl, rfl⟩
  · exact ⟨List.mem_of_getElem? (i := 13) rfl, rfl⟩
set_option maxRecDepth 100000 in
theorem gs_kw_57 : gs_kw 57 ∈ lw_tbl := List.mem_of_getElem? (i := 891) rfl
set_option maxRecDepth 100000 in
theorem gs_ow_57 : ∀ w ∈ gs_ow 57, gs_gw w := by
  intro w hw
  have hw : w ∈ ([.initialized (gs_y 57).1.cls, .instanceMethod (gs_y 57).1, .selects (gs_y 57).1.cls (gs_y 57).1 (gs_y 57).1] : List Cond) := hw
  simp only [List.mem_cons, List.not_mem_nil, or_false] at hw
  rcases hw with rfl | rfl | rfl
  · exact ⟨List.mem_of_getElem? (i := 134) rfl, rfl⟩
  · exact ⟨List.mem_of_getElem? (i := 890) rfl, rfl⟩
  · exact ⟨List.mem_of_getElem? (i := 17) rfl, rfl⟩
set_option maxRecDepth 100000 in
theorem gs_kw_58 : gs_kw 58 ∈ lw_tbl := List.mem_of_getElem? (i := 869) rfl
set_option maxRecDepth 100000 in
theorem gs_ow_58 : ∀ w ∈ gs_ow 58, gs_gw w := by
  intro w hw
  have hw : w ∈ ([.initialized (gs_y 58).1.cls, .instanceMethod (gs_y 58).1, .selects (gs_y 58).1.cls (gs_y 58).1 (gs_y 58).1] : List Cond) := hw
  simp only [List.mem_cons, List.not_mem_nil, or_false] at hw
  rcases hw with rfl | rfl | rfl
  · exact ⟨List.mem_of_getElem? (i := 134) rfl, rfl⟩
  · exact ⟨List.mem_of_getElem? (i := 868) rfl, rfl⟩
  · exact ⟨List.mem_of_getElem? (i := 14) rfl, rfl⟩
set_option maxRecDepth 100000 in
theorem gs_kw_59 : gs_kw 59 ∈ lw_tbl := List.mem_of_getElem? (i := 877) rfl
set_option maxRecDepth 100000 in
theorem gs_ow_59 : ∀ w ∈ gs_ow 59, gs_gw w := by
  intro w hw
  have hw : w ∈ ([.initialized (gs_y 59).1.cls, .instanceMethod (gs_y 59).1, .selects (gs_y 59).1.cls (gs_y 59).1 (gs_y 59).1] : List Cond) := hw
  simp only [List.mem_cons, List.not_mem_nil, or_false] at hw
  rcases hw with rfl | rfl | rfl
  · exact ⟨List.mem_of_getElem? (i := 134) rfl, rfl⟩
  · exact ⟨List.mem_of_getElem? (i := 876) rfl, rfl⟩
  · exact ⟨List.mem_of_getElem? (i := 16) rfl, rfl⟩
set_option maxRecDepth 100000 in
theorem gs_kw_60 : gs_kw 60 ∈ lw_tbl := List.mem_of_getElem? (i := 880) rfl
set_option maxRecDepth 100000 in
theorem gs_ow_60 : ∀ w ∈ gs_ow 60, gs_gw w := by
  intro w hw
  have hw : w ∈ ([.initialized (gs_y 60).1.cls, .static (gs_y 60).1] : List Cond) := hw
  simp only [List.mem_cons, List.not_mem_nil, or_false] at hw
  rcases hw with rfl | rfl
  · exact ⟨List.mem_of_getElem? (i := 134) rfl, rfl⟩
  · exact ⟨List.mem_of_getElem? (i := 879) rfl, rfl⟩
set_option maxRecDepth 100000 in
theorem gs_kw_61 : gs_kw 61 ∈ lw_tbl := List.mem_of_getElem? (i := 883) rfl
set_option maxRecDepth 100000 in
theorem gs_ow_61 : ∀ w ∈ gs_ow 61, gs_gw w := by
  intro w hw
  have hw : w ∈ ([.initialized (gs_y 61).1.cls, .static (gs_y 61).1] : List Cond) := hw
  simp only [List.mem_cons, List.not_mem_nil, or_false] at hw
  rcases hw with rfl | rfl
  · exact ⟨List.mem_of_getElem? (i := 134) rfl, rfl⟩
  · exact ⟨List.mem_of_getElem? (i := 882) rfl, rfl⟩
set_option maxRecDepth 100000 in
theorem gs_kw_62 : gs_kw 62 ∈ lw_tbl := List.mem_of_getElem? (i := 895) rfl
set_option maxRecDepth 100000 in
theorem gs_ow_62 : ∀ w ∈ gs_ow 62, gs_gw w := by
  intro w hw
  have hw : w ∈ ([.initialized (gs_y 62).1.cls, .instanceMethod (gs_y 62).1, .selects (gs_y 62).1.cls (gs_y 62).1 (gs_y 62).1] : List Cond) := hw
  simp only [List.mem_cons, List.not_mem_nil, or_false] at hw
  rcases hw with rfl | rfl | rfl
  · exact ⟨List.mem_of_getElem? (i := 134) rfl, rfl⟩
  · exact ⟨List.mem_of_getElem? (i := 894) rfl, rfl⟩
  · exact ⟨List.mem_of_getElem? (i := 18) rfl, rfl⟩
set_option maxRecDepth 100000 in
theorem gs_kw_63 : gs_kw 63 ∈ lw_tbl := List.mem_of_getElem? (i := 903) rfl
set_option maxRecDepth 100000 in
theorem gs_ow_63 : ∀ w ∈ gs_ow 63, gs_gw w := by
  intro w hw
  have hw : w ∈ ([.initialized (gs_y 63).1.cls, .instanceMethod (gs_y 63).1, .selects (gs_y 63).1.cls (gs_y 63).1 (gs_y 63).1] : List Cond) := hw
  simp only [List.mem_cons, List.not_mem_nil, or_false] at hw
  rcases hw with rfl | rfl | rfl
  · exact ⟨List.mem_of_getElem? (i := 134) rfl, rfl⟩
  · exact ⟨List.mem_of_getElem? (i := 902) rfl, rfl⟩
  · exact ⟨List.mem_of_getElem? (i := 20) rfl, rfl⟩
set_option maxRecDepth 100000 in
theorem gs_kw_64 : gs_kw 64 ∈ lw_tbl := List.mem_of_getElem? (i := 907) rfl
set_option maxRecDepth 100000 in
theorem gs_ow_64 : ∀ w ∈ gs_ow 64, gs_gw w := by
  intro w hw
  have hw : w ∈ ([.initialized (gs_y 64).1.cls, .instanceMethod (gs_y 64).1, .selects (gs_y 64).1.cls (gs_y 64).1 (gs_y 64).1] : List Cond) := hw
  simp only [List.mem_cons, List.not_mem_nil, or_false] at hw
  rcases hw with rfl | rfl | rfl
  · exact ⟨List.mem_of_getElem? (i := 134) rfl, rfl⟩
  · exact ⟨List.mem_of_getElem? (i := 906) rfl, rfl⟩
  · exact ⟨List.mem_of_getElem? (i := 21) rfl, rfl⟩
set_option maxRecDepth 100000 in
theorem gs_kw_65 : gs_kw 65 ∈ lw_tbl := List.mem_of_getElem? (i := 926) rfl
set_option maxRecDepth 100000 in
theorem gs_ow_65 : ∀ w ∈ gs_ow 65, gs_gw w := by
  intro w hw
  have hw : w ∈ ([.initialized (gs_y 65).1.cls, .instanceMethod (gs_y 65).1, .selects (gs_y 65).1.cls (gs_y 65).1 (gs_y 65).1] : List Cond) := hw
  simp only [List.mem_cons, List.not_mem_nil, or_false] at hw
  rcases hw with rfl | rfl | rfl
  · exact ⟨List.mem_of_getElem? (i := 134) rfl, rfl⟩
  · exact ⟨List.mem_of_getElem? (i := 925) rfl, rfl⟩
  · exact ⟨List.mem_of_getElem? (i := 24) rfl, rfl⟩
set_option maxRecDepth 100000 in
theorem gs_kw_66 : gs_kw 66 ∈ lw_tbl := List.mem_of_getElem? (i := 915) rfl
set_option maxRecDepth 100000 in
theorem gs_ow_66 : ∀ w ∈ gs_ow 66, gs_gw w := by
  intro w hw
  have hw : w ∈ ([.initialized (gs_y 66).1.cls, .instanceMethod (gs_y 66).1, .selects (gs_y 66).1.cls (gs_y 66).1 (gs_y 66).1] : List Cond) := hw
  simp only [List.mem_cons, List.not_mem_nil, or_false] at hw
  rcases hw with rfl | rfl | rfl
  · exact ⟨List.mem_of_getElem? (i := 134) rfl, rfl⟩
  · exact ⟨List.mem_of_getElem? (i := 914) rfl, rfl⟩
  · exact ⟨List.mem_of_getElem? (i := 23) rfl, rfl⟩
set_option maxRecDepth 100000 in
theorem gs_kw_67 : gs_kw 67 ∈ lw_tbl := List.mem_of_getElem? (i := 911) rfl
set_option maxRecDepth 100000 in
theorem gs_ow_67 : ∀ w ∈ gs_ow 67, gs_gw w := by
  intro w hw
  have hw : w ∈ ([.initialized (gs_y 67).1.cls, .instanceMethod (gs_y 67).1, .selects (gs_y 67).1.cls (gs_y 67).1 (gs_y 67).1] : List Cond) := hw
  simp only [List.mem_cons, List.not_mem_nil, or_false] at hw
  rcases hw with rfl | rfl | rfl
  · exact ⟨List.mem_of_getElem? (i := 134) rfl, rfl⟩
  · exact ⟨List.mem_of_getElem? (i := 910) rfl, rfl⟩
  · exact ⟨List.mem_of_getElem? (i := 22) rfl, rfl⟩
set_option maxRecDepth 100000 in
theorem gs_kw_68 : gs_kw 68 ∈ lw_tbl := List.mem_of_getElem? (i := 930) rfl
set_option maxRecDepth 100000 in
theorem gs_ow_68 : ∀ w ∈ gs_ow 68, gs_gw w := by
  intro w hw
  have hw : w ∈ ([.initialized (gs_y 68).1.cls, .instanceMethod (gs_y 68).1, .selects (gs_y 68).1.cls (gs_y 68).1 (gs_y 68).1] : List Cond) := hw
  simp only [List.mem_cons, List.not_mem_nil, or_false] at hw
  rcases hw with rfl | rfl | rfl
  · exact ⟨List.mem_of_getElem? (i := 134) rfl, rfl⟩
  · exact ⟨List.mem_of_getElem? (i := 929) rfl, rfl⟩
  · exact ⟨List.mem_of_getElem? (i := 25) rfl, rfl⟩
set_option maxRecDepth 100000 in
theorem gs_kw_69 : gs_kw 69 ∈ lw_tbl := List.mem_of_getElem? (i := 918) rfl
set_option maxRecDepth 100000 in
theorem gs_ow_69 : ∀ w ∈ gs_ow 69, gs_gw w := by
  intro w hw
  have hw : w ∈ ([.initialized (gs_y 69).1.cls, .static (gs_y 69).1] : List Cond) := hw
  simp only [List.mem_cons, List.not_mem_nil, or_false] at hw
  rcases hw with rfl | rfl
  · exact ⟨List.mem_of_getElem? (i := 134) rfl, rfl⟩
  · exact ⟨List.mem_of_getElem? (i := 917) rfl, rfl⟩
set_option maxRecDepth 100000 in
theorem gs_kw_70 : gs_kw 70 ∈ lw_tbl := List.mem_of_getElem? (i := 933) rfl
set_option maxRecDepth 100000 in
theorem gs_ow_70 : ∀ w ∈ gs_ow 70, gs_gw w := by
  intro w hw
  have hw : w ∈ ([.initialized (gs_y 70).1.cls, .static (gs_y 70).1] : List Cond) := hw
  simp only [List.mem_cons, List.not_mem_nil, or_false] at hw
  rcases hw with rfl | rfl
  · exact ⟨List.mem_of_getElem? (i := 134) rfl, rfl⟩
  · exact ⟨List.mem_of_getElem? (i := 932) rfl, rfl⟩
set_option maxRecDepth 100000 in
theorem gs_kw_71 : gs_kw 71 ∈ lw_tbl := List.mem_of_getElem? (i := 210) rfl
set_option maxRecDepth 100000 in
theorem gs_ow_71 : ∀ w ∈ gs_ow 71, gs_gw w := by
  intro w hw
  have hw : w ∈ ([.initialized (gs_y 71).1.cls, .instanceMethod (gs_y 71).1] : List Cond) := hw
  simp only [List.mem_cons, List.not_mem_nil, or_false] at hw
  rcases hw with rfl | rfl
  · exact ⟨List.mem_of_getElem? (i := 137) rfl, rfl⟩
  · exact ⟨List.mem_of_getElem? (i := 209) rfl, rfl⟩
set_option maxRecDepth 100000 in
theorem gs_kw_72 : gs_kw 72 ∈ lw_tbl := List.mem_of_getElem? (i := 922) rfl
set_option maxRecDepth 100000 in
theorem gs_ow_72 : ∀ w ∈ gs_ow 72, gs_gw w := by
  intro w hw
  have hw : w ∈ ([.initialized (gs_y 72).1.cls, .instanceMethod (gs_y 72).1, .selects (gs_y 72).1.cls (gs_y 72).1 (gs_y 72).1] : List Cond) := hw
  simp only [List.mem_cons, List.not_mem_nil, or_false] at hw
  rcases hw with rfl | rfl | rfl
  · exact ⟨List.mem_of_getElem? (i := 137) rfl, rfl⟩
  · exact ⟨List.mem_of_getElem? (i := 920) rfl, rfl⟩
  · exact ⟨List.mem_of_getElem? (i := 921) rfl, rfl⟩
set_option maxRecDepth 100000 in
theorem gs_kw_73 : gs_kw 73 ∈ lw_tbl := List.mem_of_getElem? (i := 1080) rfl
set_option maxRecDepth 100000 in
theorem gs_ow_73 : ∀ w ∈ gs_ow 73, gs_gw w := by
  intro w hw
  have hw : w ∈ ([.initialized (gs_y 73).1.cls, .instanceMethod (gs_y 73).1, .selects (gs_y 73).1.cls (gs_y 73).1 (gs_y 73).1] : List Cond) := hw
  simp only [List.mem_cons, List.not_mem_nil, or_false] at hw
  rcases hw with rfl | rfl | rfl
  · exact ⟨List.mem_of_getElem? (i := 137) rfl, rfl⟩
  · exact ⟨List.mem_of_getElem? (i := 1078) rfl, rfl⟩
  · exact ⟨List.mem_of_getElem? (i := 1079) rfl, rfl⟩
set_option maxRecDepth 100000 in
theorem gs_kw_74 : gs_kw 74 ∈ lw_tbl := List.mem_of_getElem? (i := 937) rfl
set_option maxRecDepth 100000 in
theorem gs_ow_74 : ∀ w ∈ gs_ow 74, gs_gw w := by
  intro w hw
  have hw : w ∈ ([.initialized (gs_y 74).1.cls, .static (gs_y 74).1] : List Cond) := hw
  simp only [List.mem_cons, List.not_mem_nil, or_false] at hw
  rcases hw with rfl | rfl
  · exact ⟨List.mem_of_getElem? (i := 137) rfl, rfl⟩
  · exact ⟨List.mem_of_getElem? (i := 936) rfl, rfl⟩
set_option maxRecDepth 100000 in
theorem gs_kw_75 : gs_kw 75 ∈ lw_tbl := List.mem_of_getElem? (i := 1086) rfl
set_option maxRecDepth 100000 in
theorem gs_ow_75 : ∀ w ∈ gs_ow 75, gs_gw w := by
  intro w hw
  have hw : w ∈ ([.initialized (gs_y 75).1.cls, .instanceMethod (gs_y 75).1, .selects (gs_y 75).1.cls (gs_y 75).1 (gs_y 75).1] : List Cond) := hw
  simp only [List.mem_cons, List.not_mem_nil, or_false] at hw
  rcases hw with rfl | rfl | rfl
  · exact ⟨List.mem_of_getElem? (i := 137) rfl, rfl⟩
  · exact ⟨List.mem_of_getElem? (i := 1085) rfl, rfl⟩
  · exact ⟨List.mem_of_getElem? (i := 33) rfl, rfl⟩
set_option maxRecDepth 100000 in
theorem gs_kw_76 : gs_kw 76 ∈ lw_tbl := List.mem_of_getElem? (i := 1090) rfl
set_option maxRecDepth 100000 in
theorem gs_ow_76 : ∀ w ∈ gs_ow 76, gs_gw w := by
  intro w hw
  have hw : w ∈ ([.initialized (gs_y 76).1.cls, .instanceMethod (gs_y 76).1, .selects (gs_y 76).1.cls (gs_y 76).1 (gs_y 76).1] : List Cond) := hw
  simp only [List.mem_cons, List.not_mem_nil, or_false] at hw
  rcases hw with rfl | rfl | rfl
  · exact ⟨List.mem_of_getElem? (i := 137) rfl, rfl⟩
  · exact ⟨List.mem_of_getElem? (i := 1089) rfl, rfl⟩
  · exact ⟨List.mem_of_getElem? (i := 34) rfl, rfl⟩
set_option maxRecDepth 100000 in
theorem gs_kw_77 : gs_kw 77 ∈ lw_tbl := List.mem_of_getElem? (i := 1096) rfl
set_option maxRecDepth 100000 in
theorem gs_ow_77 : ∀ w ∈ gs_ow 77, gs_gw w := by
  intro w hw
  have hw : w ∈ ([.initialized (gs_y 77).1.cls, .instanceMethod (gs_y 77).1, .selects (gs_y 77).1.cls (gs_y 77).1 (gs_y 77).1] : List Cond) := hw
  simp only [List.mem_cons, List.not_mem_nil, or_false] at hw
  rcases hw with rfl | rfl | rfl
  · exact ⟨List.mem_of_getElem? (i := 137) rfl, rfl⟩
  · exact ⟨List.mem_of_getElem? (i := 1095) rfl, rfl⟩
  · exact ⟨List.mem_of_getElem? (i := 35) rfl, rfl⟩
set_option maxRecDepth 100000 in
theorem gs_kw_78 : gs_kw 78 ∈ lw_tbl := List.mem_of_getElem? (i := 1103) rfl
set_option maxRecDepth 100000 in
theorem gs_ow_78 : ∀ w ∈ gs_ow 78, gs_gw w := by
  intro w hw
  have hw : w ∈ ([.initialized (gs_y 78).1.cls, .instanceMethod (gs_y 78).1, .selects (gs_y 78).1.cls (gs_y 78).1 (gs_y 78).1] : List Cond) := hw
  simp only [List.mem_cons, List.not_mem_nil, or_false] at hw
  rcases hw with rfl | rfl | rfl
  · exact ⟨List.mem_of_getElem? (i := 137) rfl, rfl⟩
  · exact ⟨List.mem_of_getElem? (i := 1102) rfl, rfl⟩
  · exact ⟨List.mem_of_getElem? (i := 36) rfl, rfl⟩
set_option maxRecDepth 100000 in
theorem gs_kw_79 : gs_kw 79 ∈ lw_tbl := List.mem_of_getElem? (i := 1024) rfl
set_option maxRecDepth 100000 in
theorem gs_ow_79 : ∀ w ∈ gs_ow 79, gs_gw w := by
  intro w hw
  have hw : w ∈ ([.initialized (gs_y 79).1.cls, .static (gs_y 79).1] : List Cond) := hw
  simp only [List.mem_cons, List.not_mem_nil, or_false] at hw
  rcases hw with rfl | rfl
  · exact ⟨List.mem_of_getElem? (i := 156) rfl, rfl⟩
  · exact ⟨List.mem_of_getElem? (i := 1023) rfl, rfl⟩
set_option maxRecDepth 100000 in
theorem gs_kw_80 : gs_kw 80 ∈ lw_tbl := List.mem_of_getElem? (i := 1031) rfl
set_option maxRecDepth 100000 in
theorem gs_ow_80 : ∀ w ∈ gs_ow 80, gs_gw w := by
  intro w hw
  have hw : w ∈ ([.initialized (gs_y 80).1.cls, .static (gs_y 80).1] : List Cond) := hw
  simp only [List.mem_cons, List.not_mem_nil, or_false] at hw
  rcases hw with rfl | rfl
  · exact ⟨List.mem_of_getElem? (i := 156) rfl, rfl⟩
  · exact ⟨List.mem_of_getElem? (i := 1030) rfl, rfl⟩
set_option maxRecDepth 100000 in
theorem gs_kw_81 : gs_kw 81 ∈ lw_tbl := List.mem_of_getElem? (i := 1181) rfl
set_option maxRecDepth 100000 in
theorem gs_ow_81 : ∀ w ∈ gs_ow 81, gs_gw w := by
  intro w hw
  have hw : w ∈ ([.initialized (gs_y 81).1.cls, .static (gs_y 81).1] : List Cond) := hw
  simp only [List.mem_cons, List.not_mem_nil, or_false] at hw
  rcases hw with rfl | rfl
  · exact ⟨List.mem_of_getElem? (i := 156) rfl, rfl⟩
  · exact ⟨List.mem_of_getElem? (i := 1180) rfl, rfl⟩
set_option maxRecDepth 100000 in
theorem gs_kw_82 : gs_kw 82 ∈ lw_tbl := List.mem_of_getElem? (i := 1364) rfl
set_option maxRecDepth 100000 in
theorem gs_ow_82 : ∀ w ∈ gs_ow 82, gs_gw w := by
  intro w hw
  have hw : w ∈ ([.initialized (gs_y 82).1.cls, .static (gs_y 82).1] : List Cond) := hw
  simp only [List.mem_cons, List.not_mem_nil, or_false] at hw
  rcases hw with rfl | rfl
  · exact ⟨List.mem_of_getElem? (i := 156) rfl, rfl⟩
  · exact ⟨List.mem_of_getElem? (i := 1363) rfl, rfl⟩
set_option maxRecDepth 100000 in
theorem gs_kw_83 : gs_kw 83 ∈ lw_tbl := List.mem_of_getElem? (i := 1361) rfl
set_option maxRecDepth 100000 in
theorem gs_ow_83 : ∀ w ∈ gs_ow 83, gs_gw w := by
  intro w hw
  have hw : w ∈ ([.initialized (gs_y 83).1.cls, .static (gs_y 83).1] : List Cond) := hw
  simp only [List.mem_cons, List.not_mem_nil, or_false] at hw
  rcases hw with rfl | rfl
  · exact ⟨List.mem_of_getElem? (i := 156) rfl, rfl⟩
  · exact ⟨List.mem_of_getElem? (i := 1360) rfl, rfl⟩
set_option maxRecDepth 100000 in
theorem gs_kw_84 : gs_kw 84 ∈ lw_tbl := List.mem_of_getElem? (i := 1357) rfl
set_option maxRecDepth 100000 in
theorem gs_ow_84 : ∀ w ∈ gs_ow 84, gs_gw w := by
  intro w hw
  have hw : w ∈ ([.initialized (gs_y 84).1.cls, .static (gs_y 84).1] : List Cond) := hw
  simp only [List.mem_cons, List.not_mem_nil, or_false] at hw
  rcases hw with rfl | rfl
  · exact ⟨List.mem_of_getElem? (i := 156) rfl, rfl⟩
  · exact ⟨List.mem_of_getElem? (i := 1356) rfl, rfl⟩
set_option maxRecDepth 100000 in
theorem gs_kw_85 : gs_kw 85 ∈ lw_tbl := List.mem_of_getElem? (i := 1142) rfl
set_option maxRecDepth 100000 in
theorem gs_ow_85 : ∀ w ∈ gs_ow 85, gs_gw w := by
  intro w hw
  have hw : w ∈ ([.initialized (gs_y 85).1.cls, .static (gs_y 85).1] : List Cond) := hw
  simp only [List.mem_cons, List.not_mem_nil, or_false] at hw
  rcases hw with rfl | rfl
  · exact ⟨List.mem_of_getElem? (i := 156) rfl, rfl⟩
  · exact ⟨List.mem_of_getElem? (i := 1141) rfl, rfl⟩
set_option maxRecDepth 100000 in
theorem gs_kw_86 : gs_kw 86 ∈ lw_tbl := List.mem_of_getElem? (i := 177) rfl
set_option maxRecDepth 100000 in
theorem gs_ow_86 : ∀ w ∈ gs_ow 86, gs_gw w := by
  intro w hw
  have hw : w ∈ ([.initialized (gs_y 86).1.cls, .instanceMethod (gs_y 86).1] : List Cond) := hw
  simp only [List.mem_cons, List.not_mem_nil, or_false] at hw
  rcases hw with rfl | rfl
  · exact ⟨List.mem_of_getElem? (i := 135) rfl, rfl⟩
  · exact ⟨List.mem_of_getElem? (i := 176) rfl, rfl⟩
set_option maxRecDepth 100000 in
theorem gs_kw_87 : gs_kw 87 ∈ lw_tbl := List.mem_of_getElem? (i := 716) rfl
set_option maxRecDepth 100000 in
theorem gs_ow_87 : ∀ w ∈ gs_ow 87, gs_gw w := by
  intro w hw
  have hw : w ∈ ([.initialized (gs_y 87).1.cls, .instanceMethod (gs_y 87).1, .selects (gs_y 87).1.cls (gs_y 87).1 (gs_y 87).1] : List Cond) := hw
  simp only [List.mem_cons, List.not_mem_nil, or_false] at hw
  rcases hw with rfl | rfl | rfl
  · exact ⟨List.mem_of_getElem? (i := 135) rfl, rfl⟩
  · exact ⟨List.mem_of_getElem? (i := 714) rfl, rfl⟩
  · exact ⟨List.mem_of_getElem? (i := 715) rfl, rfl⟩
set_option maxRecDepth 100000 in
theorem gs_kw_88 : gs_kw 88 ∈ lw_tbl := List.mem_of_getElem? (i := 1001) rfl
set_option maxRecDepth 100000 in
theorem gs_ow_88 : ∀ w ∈ gs_ow 88, gs_gw w := by
  intro w hw
  have hw : w ∈ ([.initialized (gs_y 88).1.cls, .instanceMethod (gs_y 88).1, .selects (gs_y 88).1.cls (gs_y 88).1 (gs_y 88).1] : List Cond) := hw
  simp only [List.mem_cons, List.not_mem_nil, or_false] at hw
  rcases hw with rfl | rfl | rfl
  · exact ⟨List.mem_of_getElem? (i := 135) rfl, rfl⟩
  · exact ⟨List.mem_of_getElem? (i := 999) rfl, rfl⟩
  · exact ⟨List.mem_of_getElem? (i := 1000) rfl, rfl⟩
set_option maxRecDepth 100000 in
theorem gs_kw_89 : gs_kw 89 ∈ lw_tbl := List.mem_of_getElem? (i := 1021) rfl
set_option maxRecDepth 100000 in
theorem gs_ow_89 : ∀ w ∈ gs_ow 89, gs_gw w := by
  intro w hw
  have hw : w ∈ ([.initialized (gs_y 89).1.cls, .instanceMethod (gs_y 89).1, .selects (gs_y 89).1.cls (gs_y 89).1 (gs_y 89).1] : List Cond) := hw
  simp only [List.mem_cons, List.not_mem_nil, or_false] at hw
  rcases hw with rfl | rfl | rfl
  · exact ⟨List.mem_of_getElem? (i := 135) rfl, rfl⟩
  · exact ⟨List.mem_of_getElem? (i := 1020) rfl, rfl⟩
  · exact ⟨List.mem_of_getElem? (i := 31) rfl, rfl⟩
set_option maxRecDepth 100000 in
theorem gs_kw_90 : gs_kw 90 ∈ lw_tbl := List.mem_of_getElem? (i := 1013) rfl
set_option maxRecDepth 100000 in
theorem gs_ow_90 : ∀ w ∈ gs_ow 90, gs_gw w := by
  intro w hw
  have hw : w ∈ ([.initialized (gs_y 90).1.cls, .instanceMethod (gs_y 90).1, .selects (gs_y 90).1.cls (gs_y 90).1 (gs_y 90).1] : List Cond) := hw
  simp only [List.mem_cons, List.not_mem_nil, or_false] at hw
  rcases hw with rfl | rfl | rfl
  · exact ⟨List.mem_of_getElem? (i := 135) rfl, rfl⟩
  · exact ⟨List.mem_of_getElem? (i := 1011) rfl, rfl⟩
  · exact ⟨List.mem_of_getElem? (i := 1012) rfl, rfl⟩
set_option maxRecDepth 100000 in
theorem gs_kw_91 : gs_kw 91 ∈ lw_tbl := List.mem_of_getElem? (i := 1039) rfl
set_option maxRecDepth 100000 in
theorem gs_ow_91 : ∀ w ∈ gs_ow 91, gs_gw w := by
  intro w hw
  have hw : w ∈ ([.initialized (gs_y 91).1.cls, .instanceMethod (gs_y 91).1, .selects (gs_y 91).1.cls (gs_y 91).1 (gs_y 91).1] : List Cond) := hw
  simp only [List.mem_cons, List.not_mem_nil, or_false] at hw
  rcases hw with rfl | rfl | rfl
  · exact ⟨List.mem_of_getElem? (i := 135) rfl, rfl⟩
  · exact ⟨List.mem_of_getElem? (i := 1037) rfl, rfl⟩
  · exact ⟨List.mem_of_getElem? (i := 1038) rfl, rfl⟩
set_option maxRecDepth 100000 in
theorem gs_kw_92 : gs_kw 92 ∈ lw_tbl := List.mem_of_getElem? (i := 1047) rfl
set_option maxRecDepth 100000 in
theorem gs_ow_92 : ∀ w ∈ gs_ow 92, gs_gw w := by
  intro w hw
  have hw : w ∈ ([.initialized (gs_y 92).1.cls, .instanceMethod (gs_y 92).1, .selects (gs_y 92).1.cls (gs_y 92).1 (gs_y 92).1] : List Cond) := hw
  simp only [List.mem_cons, List.not_mem_nil, or_false] at hw
  rcases hw with rfl | rfl | rfl
  · exact ⟨List.mem_of_getElem? (i := 135) rfl, rfl⟩
  · exact ⟨List.mem_of_getElem? (i := 1045) rfl, rfl⟩
  · exact ⟨List.mem_of_getElem? (i := 1046) rfl, rfl⟩
set_option maxRecDepth 100000 in
theorem gs_kw_93 : gs_kw 93 ∈ lw_tbl := List.mem_of_getElem? (i := 1058) rfl
set_option maxRecDepth 100000 in
theorem gs_ow_93 : ∀ w ∈ gs_ow 93, gs_gw w := by
  intro w hw
  have hw : w ∈ ([.initialized (gs_y 93).1.cls, .instanceMethod (gs_y 93).1, .selects (gs_y 93).1.cls (gs_y 93).1 (gs_y 93).1] : List Cond) := hw
  simp only [List.mem_cons, List.not_mem_nil, or_false] at hw
  rcases hw with rfl | rfl | rfl
  · exact ⟨List.mem_of_getElem? (i := 135) rfl, rfl⟩
  · exact ⟨List.mem_of_getElem? (i := 1056) rfl, rfl⟩
  · exact ⟨List.mem_of_getElem? (i := 1057) rfl, rfl⟩
set_option maxRecDepth 100000 in
theorem gs_kw_94 : gs_kw 94 ∈ lw_tbl := List.mem_of_getElem? (i := 1062) rfl
set_option maxRecDepth 100000 in
theorem gs_ow_94 : ∀ w ∈ gs_ow 94, gs_gw w := by
  intro w hw
  have hw : w ∈ ([.initialized (gs_y 94).1.cls, .instanceMethod (gs_y 94).1, .selects (gs_y 94).1.cls (gs_y 94).1 (gs_y 94).1] : List Cond) := hw
  simp only [List.mem_cons, List.not_mem_nil, or_false] at hw
  rcases hw with rfl | rfl | rfl
  · exact ⟨List.mem_of_getElem? (i := 135) rfl, rfl⟩
  · exact ⟨List.mem_of_getElem? (i := 1060) rfl, rfl⟩
  · exact ⟨List.mem_of_getElem? (i := 1061) rfl, rfl⟩
set_option maxRecDepth 100000 in
theorem gs_kw_95 : gs_kw 95 ∈ lw_tbl := List.mem_of_getElem? (i := 1072) rfl
set_option maxRecDepth 100000 in
theorem gs_ow_95 : ∀ w ∈ gs_ow 95, gs_gw w := by
  intro w hw
  have hw : w ∈ ([.initialized (gs_y 95).1.cls, .instanceMethod (gs_y 95).1, .selects (gs_y 95).1.cls (gs_y 95).1 (gs_y 95).1] : List Cond) := hw
  simp only [List.mem_cons, List.not_mem_nil, or_false] at hw
  rcases hw with rfl | rfl | rfl
  · exact ⟨List.mem_of_getElem? (i := 135) rfl, rfl⟩
  · exact ⟨List.mem_of_getElem? (i := 1070) rfl, rfl⟩
  · exact ⟨List.mem_of_getElem? (i := 1071) rfl, rfl⟩
set_option maxRecDepth 100000 in
theorem gs_kw_96 : gs_kw 96 ∈ lw_tbl := List.mem_of_getElem? (i := 1076) rfl
set_option maxRecDepth 100000 in
theorem gs_ow_96 : ∀ w ∈ gs_ow 96, gs_gw w := by
  intro w hw
  have hw : w ∈ ([.initialized (gs_y 96).1.cls, .instanceMethod (gs_y 96).1, .selects (gs_y 96).1.cls (gs_y 96).1 (gs_y 96).1] : List Cond) := hw
  simp only [List.mem_cons, List.not_mem_nil, or_false] at hw
  rcases hw with rfl | rfl | rfl
  · exact ⟨List.mem_of_getElem? (i := 135) rfl, rfl⟩
  · exact ⟨List.mem_of_getElem? (i := 1075) rfl, rfl⟩
  · exact ⟨List.mem_of_getElem? (i := 32) rfl, rfl⟩
set_option maxRecDepth 100000 in
theorem gs_kw_97 : gs_kw 97 ∈ lw_tbl := List.mem_of_getElem? (i := 1132) rfl
set_option maxRecDepth 100000 in
theorem gs_ow_97 : ∀ w ∈ gs_ow 97, gs_gw w := by
  intro w hw
  have hw : w ∈ ([.initialized (gs_y 97).1.cls, .instanceMethod (gs_y 97).1, .selects (gs_y 97).1.cls (gs_y 97).1 (gs_y 97).1] : List Cond) := hw
  simp only [List.mem_cons, List.not_mem_nil, or_false] at hw
  rcases hw with rfl | rfl | rfl
  · exact ⟨List.mem_of_getElem? (i := 135) rfl, rfl⟩
  · exact ⟨List.mem_of_getElem? (i := 1130) rfl, rfl⟩
  · exact ⟨List.mem_of_getElem? (i := 1131) rfl, rfl⟩
set_option maxRecDepth 100000 in
theorem gs_kw_98 : gs_kw 98 ∈ lw_tbl := List.mem_of_getElem? (i := 1176) rfl
set_option maxRecDepth 100000 in
theorem gs_ow_98 : ∀ w ∈ gs_ow 98, gs_gw w := by
  intro w hw
  have hw : w ∈ ([.initialized (gs_y 98).1.cls, .instanceMethod (gs_y 98).1, .selects (gs_y 98).1.cls (gs_y 98).1 (gs_y 98).1] : List Cond) := hw
  simp only [List.mem_cons, List.not_mem_nil, or_false] at hw
  rcases hw with rfl | rfl | rfl
  · exact ⟨List.mem_of_getElem? (i := 135) rfl, rfl⟩
  · exact ⟨List.mem_of_getElem? (i := 1175) rfl, rfl⟩
  · exact ⟨List.mem_of_getElem? (i := 39) rfl, rfl⟩
set_option maxRecDepth 100000 in
theorem gs_kw_99 : gs_kw 99 ∈ lw_tbl := List.mem_of_getElem? (i := 1168) rfl
set_option maxRecDepth 100000 in
theorem gs_ow_99 : ∀ w ∈ gs_ow 99, gs_gw w := by
  intro w hw
  have hw : w ∈ ([.initialized (gs_y 99).1.cls, .instanceMethod (gs_y 99).1, .selects (gs_y 99).1.cls (gs_y 99).1 (gs_y 99).1] : List Cond) := hw
  simp only [List.mem_cons, List.not_mem_nil, or_false] at hw
  rcases hw with rfl | rfl | rfl
  · exact ⟨List.mem_of_getElem? (i := 135) rfl, rfl⟩
  · exact ⟨List.mem_of_getElem? (i := 1166) rfl, rfl⟩
  · exact ⟨List.mem_of_getElem? (i := 1167) rfl, rfl⟩
set_option maxRecDepth 100000 in
theorem gs_kw_100 : gs_kw 100 ∈ lw_tbl := List.mem_of_getElem? (i := 1164) rfl
set_option maxRecDepth 100000 in
theorem gs_ow_100 : ∀ w ∈ gs_ow 100, gs_gw w := by
  intro w hw
  have hw : w ∈ ([.initialized (gs_y 100).1.cls, .instanceMethod (gs_y 100).1, .selects (gs_y 100).1.cls (gs_y 100).1 (gs_y 100).1] : List Cond) := hw
  simp only [List.mem_cons, List.not_mem_nil, or_false] at hw
  rcases hw with rfl | rfl | rfl
  · exact ⟨List.mem_of_getElem? (i := 135) rfl, rfl⟩
  · exact ⟨List.mem_of_getElem? (i := 1162) rfl, rfl⟩
  · exact ⟨List.mem_of_getElem? (i := 1163) rfl, rfl⟩
set_option maxRecDepth 100000 in
theorem gs_kw_101 : gs_kw 101 ∈ lw_tbl := List.mem_of_getElem? (i := 1470) rfl
set_option maxRecDepth 100000 in
theorem gs_ow_101 : ∀ w ∈ gs_ow 101, gs_gw w := by
  intro w hw
  have hw : w ∈ ([.initialized (gs_y 101).1.cls, .instanceMethod (gs_y 101).1, .selects (gs_y 101).1.cls (gs_y 101).1 (gs_y 101).1] : List Cond) := hw
  simp only [List.mem_cons, List.not_mem_nil, or_false] at hw
  rcases hw with rfl | rfl | rfl
  · exact ⟨List.mem_of_getElem? (i := 135) rfl, rfl⟩
  · exact ⟨List.mem_of_getElem? (i := 1468) rfl, rfl⟩
  · exact ⟨List.mem_of_getElem? (i := 1469) rfl, rfl⟩
set_option maxRecDepth 100000 in
theorem gs_kw_102 : gs_kw 102 ∈ lw_tbl := List.mem_of_getElem? (i := 1458) rfl
set_option maxRecDepth 100000 in
theorem gs_ow_102 : ∀ w ∈ gs_ow 102, gs_gw w := by
  intro w hw
  have hw : w ∈ ([.initialized (gs_y 102).1.cls, .instanceMethod (gs_y 102).1, .selects (gs_y 102).1.cls (gs_y 102).1 (gs_y 102).1] : List Cond) := hw
  simp only [List.mem_cons, List.not_mem_nil, or_false] at hw
  rcases hw with rfl | rfl | rfl
  · exact ⟨List.mem_of_getElem? (i := 135) rfl, rfl⟩
  · exact ⟨List.mem_of_getElem? (i := 1456) rfl, rfl⟩
  · exact ⟨List.mem_of_getElem? (i := 1457) rfl, rfl⟩
set_option maxRecDepth 100000 in
theorem gs_kw_103 : gs_kw 103 ∈ lw_tbl := List.mem_of_getElem? (i := 1261) rfl
set_option maxRecDepth 100000 in
theorem gs_ow_103 : ∀ w ∈ gs_ow 103, gs_gw w := by
  intro w hw
  have hw : w ∈ ([.initialized (gs_y 103).1.cls, .instanceMethod (gs_y 103).1, .selects (gs_y 103).1.cls (gs_y 103).1 (gs_y 103).1] : List Cond) := hw
  simp only [List.mem_cons, List.not_mem_nil, or_false] at hw
  rcases hw with rfl | rfl | rfl
  · exact ⟨List.mem_of_getElem? (i := 135) rfl, rfl⟩
  · exact ⟨List.mem_of_getElem? (i := 1259) rfl, rfl⟩
  · exact ⟨List.mem_of_getElem? (i := 1260) rfl, rfl⟩
set_option maxRecDepth 100000 in
theorem gs_kw_104 : gs_kw 104 ∈ lw_tbl := List.mem_of_getElem? (i := 1311) rfl
set_option maxRecDepth 100000 in
theorem gs_ow_104 : ∀ w ∈ gs_ow 104, gs_gw w := by
  intro w hw
  have hw : w ∈ ([.initialized (gs_y 104).1.cls, .instanceMethod (gs_y 104).1, .selects (gs_y 104).1.cls (gs_y 104).1 (gs_y 104).1] : List Cond) := hw
  simp only [List.mem_cons, List.not_mem_nil, or_false] at hw
  rcases hw with rfl | rfl | rfl
  · exact ⟨List.mem_of_getElem? (i := 135) rfl, rfl⟩
  · exact ⟨List.mem_of_getElem? (i := 1309) rfl, rfl⟩
  · exact ⟨List.mem_of_getElem? (i := 1310) rfl, rfl⟩
set_option maxRecDepth 100000 in
theorem gs_kw_105 : gs_kw 105 ∈ lw_tbl := List.mem_of_getElem? (i := 481) rfl
set_option maxRecDepth 100000 in
theorem gs_ow_105 : ∀ w ∈ gs_ow 105, gs_gw w := by
  intro w hw
  have hw : w ∈ ([.initialized (gs_y 105).1.cls, .instanceMethod (gs_y 105).1] : List Cond) := hw
  simp only [List.mem_cons, List.not_mem_nil, or_false] at hw
  rcases hw with rfl | rfl
  · exact ⟨List.mem_of_getElem? (i := 141) rfl, rfl⟩
  · exact ⟨List.mem_of_getElem? (i := 480) rfl, rfl⟩
set_option maxRecDepth 100000 in
theorem gs_kw_106 : gs_kw 106 ∈ lw_tbl := List.mem_of_getElem? (i := 703) rfl
set_option maxRecDepth 100000 in
theorem gs_ow_106 : ∀ w ∈ gs_ow 106, gs_gw w := by
  intro w hw
  have hw : w ∈ ([.initialized (gs_y 106).1.cls, .instanceMethod (gs_y 106).1, .selects (gs_y 106).1.cls (gs_y 106).1 (gs_y 106).1] : List Cond) := hw
  simp only [List.mem_cons, List.not_mem_nil, or_false] at hw
  rcases hw with rfl | rfl | rfl
  · exact ⟨List.mem_of_getElem? (i := 141) rfl, rfl⟩
  · exact ⟨List.mem_of_getElem? (i := 701) rfl, rfl⟩
  · exact ⟨List.mem_of_getElem? (i := 702) rfl, rfl⟩
set_option maxRecDepth 100000 in
theorem gs_kw_107 : gs_kw 107 ∈ lw_tbl := List.mem_of_getElem? (i := 720) rfl
set_option maxRecDepth 100000 in
theorem gs_ow_107 : ∀ w ∈ gs_ow 107, gs_gw w := by
  intro w hw
  have hw : w ∈ ([.initialized (gs_y 107).1.cls, .instanceMethod (gs_y 107).1, .selects (gs_y 107).1.cls (gs_y 107).1 (gs_y 107).1] : List Cond) := hw
  simp only [List.mem_cons, List.not_mem_nil, or_false] at hw
  rcases hw with rfl | rfl | rfl
  · exact ⟨List.mem_of_getElem? (i := 141) rfl, rfl⟩
  · exact ⟨List.mem_of_getElem? (i := 718) rfl, rfl⟩
  · exact ⟨List.mem_of_getElem? (i := 719) rfl, rfl⟩
set_option maxRecDepth 100000 in
theorem gs_kw_108 : gs_kw 108 ∈ lw_tbl := List.mem_of_getElem? (i := 730) rfl
set_option maxRecDepth 100000 in
theorem gs_ow_108 : ∀ w ∈ gs_ow 108, gs_gw w := by
  intro w hw
  have hw : w ∈ ([.initialized (gs_y 108).1.cls, .instanceMethod (gs_y 108).1, .selects (gs_y 108).1.cls (gs_y 108).1 (gs_y 108).1] : List Cond) := hw
  simp only [List.mem_cons, List.not_mem_nil, or_false] at hw
  rcases hw with rfl | rfl | rfl
  · exact ⟨List.mem_of_getElem? (i := 141) rfl, rfl⟩
  · exact ⟨List.mem_of_getElem? (i := 728) rfl, rfl⟩
  · exact ⟨List.mem_of_getElem? (i := 729) rfl, rfl⟩
set_option maxRecDepth 100000 in
theorem gs_kw_109 : gs_kw 109 ∈ lw_tbl := List.mem_of_getElem? (i := 734) rfl
set_option maxRecDepth 100000 in
theorem gs_ow_109 : ∀ w ∈ gs_ow 109, gs_gw w := by
  intro w hw
  have hw : w ∈ ([.initialized (gs_y 109).1.cls, .instanceMethod (gs_y 109).1, .selects (gs_y 109).1.cls (gs_y 109).1 (gs_y 109).1] : List Cond) := hw
  simp only [List.mem_cons, List.not_mem_nil, or_false] at hw
  rcases hw with rfl | rfl | rfl
  · exact ⟨List.mem_of_getElem? (i := 141) rfl, rfl⟩
  · exact ⟨List.mem_of_getElem? (i := 733) rfl, rfl⟩
  · exact ⟨List.mem_of_getElem? (i := 0) rfl, rfl⟩
set_option maxRecDepth 100000 in
theorem gs_kw_110 : gs_kw 110 ∈ lw_tbl := List.mem_of_getElem? (i := 738) rfl
set_option maxRecDepth 100000 in
theorem gs_ow_110 : ∀ w ∈ gs_ow 110, gs_gw w := by
  intro w hw
  have hw : w ∈ ([.initialized (gs_y 110).1.cls, .instanceMethod (gs_y 110).1, .selects (gs_y 110).1.cls (gs_y 110).1 (gs_y 110).1] : List Cond) := hw
  simp only [List.mem_cons, List.not_mem_nil, or_false] at hw
  rcases hw with rfl | rfl | rfl
  · exact ⟨List.mem_of_getElem? (i := 141) rfl, rfl⟩
  · exact ⟨List.mem_of_getElem? (i := 737) rfl, rfl⟩
  · exact ⟨List.mem_of_getElem? (i := 1) rfl, rfl⟩
set_option maxRecDepth 100000 in
theorem gs_kw_111 : gs_kw 111 ∈ lw_tbl := List.mem_of_getElem? (i := 745) rfl
set_option maxRecDepth 100000 in
theorem gs_ow_111 : ∀ w ∈ gs_ow 111, gs_gw w := by
  intro w hw
  have hw : w ∈ ([.initialized (gs_y 111).1.cls, .instanceMethod (gs_y 111).1, .selects (gs_y 111).1.cls (gs_y 111).1 (gs_y 111).1] : List Cond) := hw
  simp only [List.mem_cons, List.not_mem_nil, or_false] at hw
  rcases hw with rfl | rfl | rfl
  · exact ⟨List.mem_of_getElem? (i := 141) rfl, rfl⟩
  · exact ⟨List.mem_of_getElem? (i := 744) rfl, rfl⟩
  · exact ⟨List.mem_of_getElem? (i := 2) rfl, rfl⟩
set_option maxRecDepth 100000 in
theorem gs_kw_112 : gs_kw 112 ∈ lw_tbl := List.mem_of_getElem? (i := 741) rfl
set_option maxRecDepth 100000 in
theorem gs_ow_112 : ∀ w ∈ gs_ow 112, gs_gw w := by
  intro w hw
  have hw : w ∈ ([.initialized (gs_y 112).1.cls, .static (gs_y 112).1] : List Cond) := hw
  simp only [List.mem_cons, List.not_mem_nil, or_false] at hw
  rcases hw with rfl | rfl
  · exact ⟨List.mem_of_getElem? (i := 141) rfl, rfl⟩
  · exact ⟨List.mem_of_getElem? (i := 740) rfl, rfl⟩
set_option maxRecDepth 100000 in
theorem gs_kw_113 : gs_kw 113 ∈ lw_tbl := List.mem_of_getElem? (i := 237) rfl
set_option maxRecDepth 100000 in
theorem gs_ow_113 : ∀ w ∈ gs_ow 113, gs_gw w := by
  intro w hw
  have hw : w ∈ ([.initialized (gs_y 113).1.cls, .instanceMethod (gs_y 113).1] : List Cond) := hw
  simp only [List.mem_cons, List.not_mem_nil, or_false] at hw
  rcases hw with rfl | rfl
  · exact ⟨List.mem_of_getElem? (i := 138) rfl, rfl⟩
  · exact ⟨List.mem_of_getElem? (i := 236) rfl, rfl⟩
set_option maxRecDepth 100000 in
theorem gs_kw_114 : gs_kw 114 ∈ lw_tbl := List.mem_of_getElem? (i := 945) rfl
set_option maxRecDepth 100000 in
theorem gs_ow_114 : ∀ w ∈ gs_ow 114, gs_gw w := by
  intro w hw
  have hw : w ∈ ([.initialized (gs_y 114).1.cls, .instanceMethod (gs_y 114).1, .selects (gs_y 114).1.cls (gs_y 114).1 (gs_y 114).1] : List Cond) := hw
  simp only [List.mem_cons, List.not_mem_nil, or_false] at hw
  rcases hw with rfl | rfl | rfl
  · exact ⟨List.mem_of_getElem? (i := 138) rfl, rfl⟩
  · exact ⟨List.mem_of_getElem? (i := 943) rfl, rfl⟩
  · exact ⟨List.mem_of_getElem? (i := 944) rfl, rfl⟩
set_option maxRecDepth 100000 in
theorem gs_kw_115 : gs_kw 115 ∈ lw_tbl := List.mem_of_getElem? (i := 1369) rfl
set_option maxRecDepth 100000 in
theorem gs_ow_115 : ∀ w ∈ gs_ow 115, gs_gw w := by
  intro w hw
  have hw : w ∈ ([.initialized (gs_y 115).1.cls, .instanceMethod (gs_y 115).1, .selects (gs_y 115).1.cls (gs_y 115).1 (gs_y 115).1] : List Cond) := hw
  simp only [List.mem_cons, List.not_mem_nil, or_false] at hw
  rcases hw with rfl | rfl | rfl
  · exact ⟨List.mem_of_getElem? (i := 138) rfl, rfl⟩
  · exact ⟨List.mem_of_getElem? (i := 1367) rfl, rfl⟩
  · exact ⟨List.mem_of_getElem? (i := 1368) rfl, rfl⟩
set_option maxRecDepth 100000 in
theorem gs_kw_116 : gs_kw 116 ∈ lw_tbl := List.mem_of_getElem? (i := 163) rfl
set_option maxRecDepth 100000 in
theorem gs_ow_116 : ∀ w ∈ gs_ow 116, gs_gw w := by
  intro w hw
  have hw : w ∈ ([.initialized (gs_y 116).1.cls, .instanceMethod (gs_y 116).1] : List Cond) := hw
  simp only [List.mem_cons, List.not_mem_nil, or_false] at hw
  rcases hw with rfl | rfl
  · exact ⟨List.mem_of_getElem? (i := 133) rfl, rfl⟩
  · exact ⟨List.mem_of_getElem? (i := 162) rfl, rfl⟩
set_option maxRecDepth 100000 in
theorem gs_kw_117 : gs_kw 117 ∈ lw_tbl := List.mem_of_getElem? (i := 699) rfl
set_option maxRecDepth 100000 in
theorem gs_ow_117 : ∀ w ∈ gs_ow 117, gs_gw w := by
  intro w hw
  have hw : w ∈ ([.initialized (gs_y 117).1.cls, .instanceMethod (gs_y 117).1, .selects (gs_y 117).1.cls (gs_y 117).1 (gs_y 117).1] : List Cond) := hw
  simp only [List.mem_cons, List.not_mem_nil, or_false] at hw
  rcases hw with rfl | rfl | rfl
  · exact ⟨List.mem_of_getElem? (i := 133) rfl, rfl⟩
  · exact ⟨List.mem_of_getElem? (i := 697) rfl, rfl⟩
  · exact ⟨List.mem_of_getElem? (i := 698) rfl, rfl⟩
set_option maxRecDepth 100000 in
theorem gs_ow_118 : ∀ w ∈ gs_ow 118, gs_gw w := by
  intro w hw
  have hw : w ∈ ([.initialized (gs_y 118).1.cls, .instanceMethod (gs_y 118).1, .selects (gs_y 118).1.cls (gs_y 118).1 (gs_y 118).1] : List Cond) := hw
  simp only [List.mem_cons, List.not_mem_nil, or_false] at hw
  rcases hw with rfl | rfl | rfl
  · exact ⟨List.mem_of_getElem? (i := 133) rfl, rfl⟩
  · exact ⟨List.mem_of_getElem? (i := 705) rfl, rfl⟩
  · exact ⟨List.mem_of_getElem? (i := 706) rfl, rfl⟩
set_option maxRecDepth 100000 in
theorem gs_kw_119 : gs_kw 119 ∈ lw_tbl := List.mem_of_getElem? (i := 984) rfl
set_option maxRecDepth 100000 in
theorem gs_ow_119 : ∀ w ∈ gs_ow 119, gs_gw w := by
  intro w hw
  have hw : w ∈ ([.initialized (gs_y 119).1.cls, .instanceMethod (gs_y 119).1, .selects (gs_y 119).1.cls (gs_y 119).1 (gs_y 119).1] : List Cond) := hw
  simp only [List.mem_cons, List.not_mem_nil, or_false] at hw
  rcases hw with rfl | rfl | rfl
  · exact ⟨List.mem_of_getElem? (i := 133) rfl, rfl⟩
  · exact ⟨List.mem_of_getElem? (i := 982) rfl, rfl⟩
  · exact ⟨List.mem_of_getElem? (i := 983) rfl, rfl⟩
set_option maxRecDepth 100000 in
theorem gs_kw_120 : gs_kw 120 ∈ lw_tbl := List.mem_of_getElem? (i := 988) rfl
set_option maxRecDepth 100000 in
theorem gs_ow_120 : ∀ w ∈ gs_ow 120, gs_gw w := by
  intro w hw
  have hw : w ∈ ([.initialized (gs_y 120).1.cls, .instanceMethod (gs_y 120).1, .selects (gs_y 120).1.cls (gs_y 120).1 (gs_y 120).1] : List Cond) := hw
  simp only [List.mem_cons, List.not_mem_nil, or_false] at hw
  rcases hw with rfl | rfl | rfl
  · exact ⟨List.mem_of_getElem? (i := 133) rfl, rfl⟩
  · exact ⟨List.mem_of_getElem? (i := 986) rfl, rfl⟩
  · exact ⟨List.mem_of_getElem? (i := 987) rfl, rfl⟩
set_option maxRecDepth 100000 in
theorem gs_kw_121 : gs_kw 121 ∈ lw_tbl := List.mem_of_getElem? (i := 1491) rfl
set_option maxRecDepth 100000 in
theorem gs_ow_121 : ∀ w ∈ gs_ow 121, gs_gw w := by
  intro w hw
  have hw : w ∈ ([.initialized (gs_y 121).1.cls, .instanceMethod (gs_y 121).1, .selects (gs_y 121).1.cls (gs_y 121).1 (gs_y 121).1] : List Cond) := hw
  simp only [List.mem_cons, List.not_mem_nil, or_false] at hw
  rcases hw with rfl | rfl | rfl
  · exact ⟨List.mem_of_getElem? (i := 133) rfl, rfl⟩
  · exact ⟨List.mem_of_getElem? (i := 1489) rfl, rfl⟩
  · exact ⟨List.mem_of_getElem? (i := 1490) rfl, rfl⟩
set_option maxRecDepth 100000 in
theorem gs_kw_122 : gs_kw 122 ∈ lw_tbl := List.mem_of_getElem? (i := 993) rfl
set_option maxRecDepth 100000 in
theorem gs_ow_122 : ∀ w ∈ gs_ow 122, gs_gw w := by
  intro w hw
  have hw : w ∈ ([.initialized (gs_y 122).1.cls, .instanceMethod (gs_y 122).1, .selects (gs_y 122).1.cls (gs_y 122).1 (gs_y 122).1] : List Cond) := hw
  simp only [List.mem_cons, List.not_mem_nil, or_false] at hw
  rcases hw with rfl | rfl | rfl
  · exact ⟨List.mem_of_getElem? (i := 133) rfl, rfl⟩
  · exact ⟨List.mem_of_getElem? (i := 991) rfl, rfl⟩
  · exact ⟨List.mem_of_getElem? (i := 992) rfl, rfl⟩
set_option maxRecDepth 100000 in
theorem gs_kw_123 : gs_kw 123 ∈ lw_tbl := List.mem_of_getElem? (i := 1005) rfl
set_option maxRecDepth 100000 in
theorem gs_ow_123 : ∀ w ∈ gs_ow 123, gs_gw w := by
  intro w hw
  have hw : w ∈ ([.initialized (gs_y 123).1.cls, .instanceMethod (gs_y 123).1, .selects (gs_y 123).1.cls (gs_y 123).1 (gs_y 123).1] : List Cond) := hw
  simp only [List.mem_cons, List.not_mem_nil, or_false] at hw
  rcases hw with rfl | rfl | rfl
  · exact ⟨List.mem_of_getElem? (i := 133) rfl, rfl⟩
  · exact ⟨List.mem_of_getElem? (i := 1003) rfl, rfl⟩
  · exact ⟨List.mem_of_getElem? (i := 1004) rfl, rfl⟩
set_option maxRecDepth 100000 in
theorem gs_kw_124 : gs_kw 124 ∈ lw_tbl := List.mem_of_getElem? (i := 1035) rfl
set_option maxRecDepth 100000 in
theorem gs_ow_124 : ∀ w ∈ gs_ow 124, gs_gw w := by
  intro w hw
  have hw : w ∈ ([.initialized (gs_y 124).1.cls, .instanceMethod (gs_y 124).1, .selects (gs_y 124).1.cls (gs_y 124).1 (gs_y 124).1] : List Cond) := hw
  simp only [List.mem_cons, List.not_mem_nil, or_false] at hw
  rcases hw with rfl | rfl | rfl
  · exact ⟨List.mem_of_getElem? (i := 133) rfl, rfl⟩
  · exact ⟨List.mem_of_getElem? (i := 1033) rfl, rfl⟩
  · exact ⟨List.mem_of_getElem? (i := 1034) rfl, rfl⟩
set_option maxRecDepth 100000 in
theorem gs_kw_125 : gs_kw 125 ∈ lw_tbl := List.mem_of_getElem? (i := 1043) rfl
set_option maxRecDepth 100000 in
theorem gs_ow_125 : ∀ w ∈ gs_ow 125, gs_gw w := by
  intro w hw
  have hw : w ∈ ([.initialized (gs_y 125).1.cls, .instanceMethod (gs_y 125).1, .selects (gs_y 125).1.cls (gs_y 125).1 (gs_y 125).1] : List Cond) := hw
  simp only [List.mem_cons, List.not_mem_nil, or_false] at hw
  rcases hw with rfl | rfl | rfl
  · exact ⟨List.mem_of_getElem? (i := 133) rfl, rfl⟩
  · exact ⟨List.mem_of_getElem? (i := 1041) rfl, rfl⟩
  · exact ⟨List.mem_of_getElem? (i := 1042) rfl, rfl⟩
set_option maxRecDepth 100000 in
theorem gs_kw_126 : gs_kw 126 ∈ lw_tbl := List.mem_of_getElem? (i := 1051) rfl
set_option maxRecDepth 100000 in
theorem gs_ow_126 : ∀ w ∈ gs_ow 126, gs_gw w := by
  intro w hw
  have hw : w ∈ ([.initialized (gs_y 126).1.cls, .instanceMethod (gs_y 126).1, .selects (gs_y 126).1.cls (gs_y 126).1 (gs_y 126).1] : List Cond) := hw
  simp only [List.mem_cons, List.not_mem_nil, or_false] at hw
  rcases hw with rfl | rfl | rfl
  · exact ⟨List.mem_of_getElem? (i := 133) rfl, rfl⟩
  · exact ⟨List.mem_of_getElem? (i := 1049) rfl, rfl⟩
  · exact ⟨List.mem_of_getElem? (i := 1050) rfl, rfl⟩
set_option maxRecDepth 100000 in
theorem gs_kw_127 : gs_kw 127 ∈ lw_tbl := List.mem_of_getElem? (i := 1068) rfl
set_option maxRecDepth 100000 in
theorem gs_ow_127 : ∀ w ∈ gs_ow 127, gs_gw w := by
  intro w hw
  have hw : w ∈ ([.initialized (gs_y 127).1.cls, .instanceMethod (gs_y 127).1, .selects (gs_y 127).1.cls (gs_y 127).1 (gs_y 127).1] : List Cond) := hw
  simp only [List.mem_cons, List.not_mem_nil, or_false] at hw
  rcases hw with rfl | rfl | rfl
  · exact ⟨List.mem_of_getElem? (i := 133) rfl, rfl⟩
  · exact ⟨List.mem_of_getElem? (i := 1066) rfl, rfl⟩
  · exact ⟨List.mem_of_getElem? (i := 1067) rfl, rfl⟩
set_option maxRecDepth 100000 in
theorem gs_kw_128 : gs_kw 128 ∈ lw_tbl := List.mem_of_getElem? (i := 1111) rfl
set_option maxRecDepth 100000 in
theorem gs_ow_128 : ∀ w ∈ gs_ow 128, gs_gw w := by
  intro w hw
  have hw : w ∈ ([.initialized (gs_y 128).1.cls, .instanceMethod (gs_y 128).1, .selects (gs_y 128).1.cls (gs_y 128).1 (gs_y 128).1] : List Cond) := hw
  simp only [List.mem_cons, List.not_mem_nil, or_false] at hw
  rcases hw with rfl | rfl | rfl
  · exact ⟨List.mem_of_getElem? (i := 133) rfl, rfl⟩
  · exact ⟨List.mem_of_getElem? (i := 1109) rfl, rfl⟩
  · exact ⟨List.mem_of_getElem? (i := 1110) rfl, rfl⟩
set_option maxRecDepth 100000 in
theorem gs_kw_129 : gs_kw 129 ∈ lw_tbl := List.mem_of_getElem? (i := 1123) rfl
set_option maxRecDepth 100000 in
theorem gs_ow_129 : ∀ w ∈ gs_ow 129, gs_gw w := by
  intro w hw
  have hw : w ∈ ([.initialized (gs_y 129).1.cls, .instanceMethod (gs_y 129).1, .selects (gs_y 129).1.cls (gs_y 129).1 (gs_y 129).1] : List Cond) := hw
  simp only [List.mem_cons, List.not_mem_nil, or_false] at hw
  rcases hw with rfl | rfl | rfl
  · exact ⟨List.mem_of_getElem? (i := 133) rfl, rfl⟩
  · exact ⟨List.mem_of_getElem? (i := 1121) rfl, rfl⟩
  · exact ⟨List.mem_of_getElem? (i := 1122) rfl, rfl⟩
set_option maxRecDepth 100000 in
theorem gs_kw_130 : gs_kw 130 ∈ lw_tbl := List.mem_of_getElem? (i := 1146) rfl
set_option maxRecDepth 100000 in
theorem gs_ow_130 : ∀ w ∈ gs_ow 130, gs_gw w := by
  intro w hw
  have hw : w ∈ ([.initialized (gs_y 130).1.cls, .instanceMethod (gs_y 130).1, .selects (gs_y 130).1.cls (gs_y 130).1 (gs_y 130).1] : List Cond) := hw
  simp only [List.mem_cons, List.not_mem_nil, or_false] at hw
  rcases hw with rfl | rfl | rfl
  · exact ⟨List.mem_of_getElem? (i := 133) rfl, rfl⟩
  · exact ⟨List.mem_of_getElem? (i := 1144) rfl, rfl⟩
  · exact ⟨List.mem_of_getElem? (i := 1145) rfl, rfl⟩
set_option maxRecDepth 100000 in
theorem gs_kw_131 : gs_kw 131 ∈ lw_tbl := List.mem_of_getElem? (i := 1160) rfl
set_option maxRecDepth 100000 in
theorem gs_ow_131 : ∀ w ∈ gs_ow 131, gs_gw w := by
  intro w hw
  have hw : w ∈ ([.initialized (gs_y 131).1.cls, .instanceMethod (gs_y 131).1, .selects (gs_y 131).1.cls (gs_y 131).1 (gs_y 131).1] : List Cond) := hw
  simp only [List.mem_cons, List.not_mem_nil, or_false] at hw
  rcases hw with rfl | rfl | rfl
  · exact ⟨List.mem_of_getElem? (i := 133) rfl, rfl⟩
  · exact ⟨List.mem_of_getElem? (i := 1158) rfl, rfl⟩
  · exact ⟨List.mem_of_getElem? (i := 1159) rfl, rfl⟩
set_option maxRecDepth 100000 in
theorem gs_kw_132 : gs_kw 132 ∈ lw_tbl := List.mem_of_getElem? (i := 1195) rfl
set_option maxRecDepth 100000 in
theorem gs_ow_132 : ∀ w ∈ gs_ow 132, gs_gw w := by
  intro w hw
  have hw : w ∈ ([.initialized (gs_y 132).1.cls, .instanceMethod (gs_y 132).1, .selects (gs_y 132).1.cls (gs_y 132).1 (gs_y 132).1] : List Cond) := hw
  simp only [List.mem_cons, List.not_mem_nil, or_false] at hw
  rcases hw with rfl | rfl | rfl
  · exact ⟨List.mem_of_getElem? (i := 133) rfl, rfl⟩
  · exact ⟨List.mem_of_getElem? (i := 1193) rfl, rfl⟩
  · exact ⟨List.mem_of_getElem? (i := 1194) rfl, rfl⟩
set_option maxRecDepth 100000 in
theorem gs_kw_133 : gs_kw 133 ∈ lw_tbl := List.mem_of_getElem? (i := 1200) rfl
set_option maxRecDepth 100000 in
theorem gs_ow_133 : ∀ w ∈ gs_ow 133, gs_gw w := by
  intro w hw
  have hw : w ∈ ([.initialized (gs_y 133).1.cls, .instanceMethod (gs_y 133).1, .selects (gs_y 133).1.cls (gs_y 133).1 (gs_y 133).1] : List Cond) := hw
  simp only [List.mem_cons, List.not_mem_nil, or_false] at hw
  rcases hw with rfl | rfl | rfl
  · exact ⟨List.mem_of_getElem? (i := 133) rfl, rfl⟩
  · exact ⟨List.mem_of_getElem? (i := 1198) rfl, rfl⟩
  · exact ⟨List.mem_of_getElem? (i := 1199) rfl, rfl⟩
set_option maxRecDepth 100000 in
theorem gs_kw_134 : gs_kw 134 ∈ lw_tbl := List.mem_of_getElem? (i := 1253) rfl
set_option maxRecDepth 100000 in
theorem gs_ow_134 : ∀ w ∈ gs_ow 134, gs_gw w := by
  intro w hw
  have hw : w ∈ ([.initialized (gs_y 134).1.cls, .instanceMethod (gs_y 134).1, .selects (gs_y 134).1.cls (gs_y 134).1 (gs_y 134).1] : List Cond) := hw
  simp only [List.mem_cons, List.not_mem_nil, or_false] at hw
  rcases hw with rfl | rfl | rfl
  · exact ⟨List.mem_of_getElem? (i := 133) rfl, rfl⟩
  · exact ⟨List.mem_of_getElem? (i := 1251) rfl, rfl⟩
  · exact ⟨List.mem_of_getElem? (i := 1252) rfl, rfl⟩
set_option maxRecDepth 100000 in
theorem gs_kw_135 : gs_kw 135 ∈ lw_tbl := List.mem_of_getElem? (i := 1257) rfl
set_option maxRecDepth 100000 in
theorem gs_ow_135 : ∀ w ∈ gs_ow 135, gs_gw w := by
  intro w hw
  have hw : w ∈ ([.initialized (gs_y 135).1.cls, .instanceMethod (gs_y 135).1, .selects (gs_y 135).1.cls (gs_y 135).1 (gs_y 135).1] : List Cond) := hw
  simp only [List.mem_cons, List.not_mem_nil, or_false] at hw
  rcases hw with rfl | rfl | rfl
  · exact ⟨List.mem_of_getElem? (i := 133) rfl, rfl⟩
  · exact ⟨List.mem_of_getElem? (i := 1255) rfl, rfl⟩
  · exact ⟨List.mem_of_getElem? (i := 1256) rfl, rfl⟩
set_option maxRecDepth 100000 in
theorem gs_kw_136 : gs_kw 136 ∈ lw_tbl := List.mem_of_getElem? (i := 1267) rfl
set_option maxRecDepth 100000 in
theorem gs_ow_136 : ∀ w ∈ gs_ow 136, gs_gw w := by
  intro w hw
  have hw : w ∈ ([.initialized (gs_y 136).1.cls, .instanceMethod (gs_y 136).1, .selects (gs_y 136).1.cls (gs_y 136).1 (gs_y 136).1] : List Cond) := hw
  simp only [List.mem_cons, List.not_mem_nil, or_false] at hw
  rcases hw with rfl | rfl | rfl
  · exact ⟨List.mem_of_getElem? (i := 133) rfl, rfl⟩
  · exact ⟨List.mem_of_getElem? (i := 1265) rfl, rfl⟩
  · exact ⟨List.mem_of_getElem? (i := 1266) rfl, rfl⟩
set_option maxRecDepth 100000 in
theorem gs_kw_137 : gs_kw 137 ∈ lw_tbl := List.mem_of_getElem? (i := 1271) rfl
set_option maxRecDepth 100000 in
theorem gs_ow_137 : ∀ w ∈ gs_ow 137, gs_gw w := by
  intro w hw
  have hw : w ∈ ([.initialized (gs_y 137).1.cls, .instanceMethod (gs_y 137).1, .selects (gs_y 137).1.cls (gs_y 137).1 (gs_y 137).1] : List Cond) := hw
  simp only [List.mem_cons, List.not_mem_nil, or_false] at hw
  rcases hw with rfl | rfl | rfl
  · exact ⟨List.mem_of_getElem? (i := 133) rfl, rfl⟩
  · exact ⟨List.mem_of_getElem? (i := 1269) rfl, rfl⟩
  · exact ⟨List.mem_of_getElem? (i := 1270) rfl, rfl⟩
set_option maxRecDepth 100000 in
theorem gs_kw_138 : gs_kw 138 ∈ lw_tbl := List.mem_of_getElem? (i := 1290) rfl
set_option maxRecDepth 100000 in
theorem gs_ow_138 : ∀ w ∈ gs_ow 138, gs_gw w := by
  intro w hw
  have hw : w ∈ ([.initialized (gs_y 138).1.cls, .instanceMethod (gs_y 138).1, .selects (gs_y 138).1.cls (gs_y 138).1 (gs_y 138).1] : List Cond) := hw
  simp only [List.mem_cons, List.not_mem_nil, or_false] at hw
  rcases hw with rfl | rfl | rfl
  · exact ⟨List.mem_of_getElem? (i := 133) rfl, rfl⟩
  · exact ⟨List.mem_of_getElem? (i := 1288) rfl, rfl⟩
  · exact ⟨List.mem_of_getElem? (i := 1289) rfl, rfl⟩
set_option maxRecDepth 100000 in
theorem gs_kw_139 : gs_kw 139 ∈ lw_tbl := List.mem_of_getElem? (i := 1302) rfl
set_option maxRecDepth 100000 in
theorem gs_ow_139 : ∀ w ∈ gs_ow 139, gs_gw w := by
  intro w hw
  have hw : w ∈ ([.initialized (gs_y 139).1.cls, .instanceMethod (gs_y 139).1, .selects (gs_y 139).1.cls (gs_y 139).1 (gs_y 139).1] : List Cond) := hw
  simp only [List.mem_cons, List.not_mem_nil, or_false] at hw
  rcases hw with rfl | rfl | rfl
  · exact ⟨List.mem_of_getElem? (i := 133) rfl, rfl⟩
  · exact ⟨List.mem_of_getElem? (i := 1300) rfl, rfl⟩
  · exact ⟨List.mem_of_getElem? (i := 1301) rfl, rfl⟩
set_option maxRecDepth 100000 in
theorem gs_kw_140 : gs_kw 140 ∈ lw_tbl := List.mem_of_getElem? (i := 1316) rfl
set_option maxRecDepth 100000 in
theorem gs_ow_140 : ∀ w ∈ gs_ow 140, gs_gw w := by
  intro w hw
  have hw : w ∈ ([.initialized (gs_y 140).1.cls, .instanceMethod (gs_y 140).1, .selects (gs_y 140).1.cls (gs_y 140).1 (gs_y 140).1] : List Cond) := hw
  simp only [List.mem_cons, List.not_mem_nil, or_false] at hw
  rcases hw with rfl | rfl | rfl
  · exact ⟨List.mem_of_getElem? (i := 133) rfl, rfl⟩
  · exact ⟨List.mem_of_getElem? (i := 1314) rfl, rfl⟩
  · exact ⟨List.mem_of_getElem? (i := 1315) rfl, rfl⟩
set_option maxRecDepth 100000 in
theorem gs_kw_141 : gs_kw 141 ∈ lw_tbl := List.mem_of_getElem? (i := 1325) rfl
set_option maxRecDepth 100000 in
theorem gs_ow_141 : ∀ w ∈ gs_ow 141, gs_gw w := by
  intro w hw
  have hw : w ∈ ([.initialized (gs_y 141).1.cls, .instanceMethod (gs_y 141).1, .selects (gs_y 141).1.cls (gs_y 141).1 (gs_y 141).1] : List Cond) := hw
  simp only [List.mem_cons, List.not_mem_nil, or_false] at hw
  rcases hw with rfl | rfl | rfl
  · exact ⟨List.mem_of_getElem? (i := 133) rfl, rfl⟩
  · exact ⟨List.mem_of_getElem? (i := 1323) rfl, rfl⟩
  · exact ⟨List.mem_of_getElem? (i := 1324) rfl, rfl⟩
set_option maxRecDepth 100000 in
theorem gs_kw_142 : gs_kw 142 ∈ lw_tbl := List.mem_of_getElem? (i := 1336) rfl
set_option maxRecDepth 100000 in
theorem gs_ow_142 : ∀ w ∈ gs_ow 142, gs_gw w := by
  intro w hw
  have hw : w ∈ ([.initialized (gs_y 142).1.cls, .instanceMethod (gs_y 142).1, .selects (gs_y 142).1.cls (gs_y 142).1 (gs_y 142).1] : List Cond) := hw
  simp only [List.mem_cons, List.not_mem_nil, or_false] at hw
  rcases hw with rfl | rfl | rfl
  · exact ⟨List.mem_of_getElem? (i := 133) rfl, rfl⟩
  · exact ⟨List.mem_of_getElem? (i := 1334) rfl, rfl⟩
  · exact ⟨List.mem_of_getElem? (i := 1335) rfl, rfl⟩
set_option maxRecDepth 100000 in
theorem gs_kw_143 : gs_kw 143 ∈ lw_tbl := List.mem_of_getElem? (i := 1352) rfl
set_option maxRecDepth 100000 in
theorem gs_ow_143 : ∀ w ∈ gs_ow 143, gs_gw w := by
  intro w hw
  have hw : w ∈ ([.initialized (gs_y 143).1.cls, .instanceMethod (gs_y 143).1, .selects (gs_y 143).1.cls (gs_y 143).1 (gs_y 143).1] : List Cond) := hw
  simp only [List.mem_cons, List.not_mem_nil, or_false] at hw
  rcases hw with rfl | rfl | rfl
  · exact ⟨List.mem_of_getElem? (i := 133) rfl, rfl⟩
  · exact ⟨List.mem_of_getElem? (i := 1350) rfl, rfl⟩
  · exact ⟨List.mem_of_getElem? (i := 1351) rfl, rfl⟩
set_option maxRecDepth 100000 in
theorem gs_kw_144 : gs_kw 144 ∈ lw_tbl := List.mem_of_getElem? (i := 1374) rfl
set_option maxRecDepth 100000 in
theorem gs_ow_144 : ∀ w ∈ gs_ow 144, gs_gw w := by
  intro w hw
  have hw : w ∈ ([.initialized (gs_y 144).1.cls, .instanceMethod (gs_y 144).1, .selects (gs_y 144).1.cls (gs_y 144).1 (gs_y 144).1] : List Cond) := hw
  simp only [List.mem_cons, List.not_mem_nil, or_false] at hw
  rcases hw with rfl | rfl | rfl
  · exact ⟨List.mem_of_getElem? (i := 133) rfl, rfl⟩
  · exact ⟨List.mem_of_getElem? (i := 1372) rfl, rfl⟩
  · exact ⟨List.mem_of_getElem? (i := 1373) rfl, rfl⟩
set_option maxRecDepth 100000 in
theorem gs_kw_145 : gs_kw 145 ∈ lw_tbl := List.mem_of_getElem? (i := 1382) rfl
set_option maxRecDepth 100000 in
theorem gs_ow_145 : ∀ w ∈ gs_ow 145, gs_gw w := by
  intro w hw
  have hw : w ∈ ([.initialized (gs_y 145).1.cls, .instanceMethod (gs_y 145).1, .selects (gs_y 145).1.cls (gs_y 145).1 (gs_y 145).1] : List Cond) := hw
  simp only [List.mem_cons, List.not_mem_nil, or_false] at hw
  rcases hw with rfl | rfl | rfl
  · exact ⟨List.mem_of_getElem? (i := 133) rfl, rfl⟩
  · exact ⟨List.mem_of_getElem? (i := 1380) rfl, rfl⟩
  · exact ⟨List.mem_of_getElem? (i := 1381) rfl, rfl⟩
set_option maxRecDepth 100000 in
theorem gs_kw_146 : gs_kw 146 ∈ lw_tbl := List.mem_of_getElem? (i := 1390) rfl
set_option maxRecDepth 100000 in
theorem gs_ow_146 : ∀ w ∈ gs_ow 146, gs_gw w := by
  intro w hw
  have hw : w ∈ ([.initialized (gs_y 146).1.cls, .instanceMethod (gs_y 146).1, .selects (gs_y 146).1.cls (gs_y 146).1 (gs_y 146).1] : List Cond) := hw
  simp only [List.mem_cons, List.not_mem_nil, or_false] at hw
  rcases hw with rfl | rfl | rfl
  · exact ⟨List.mem_of_getElem? (i := 133) rfl, rfl⟩
  · exact ⟨List.mem_of_getElem? (i := 1388) rfl, rfl⟩
  · exact ⟨List.mem_of_getElem? (i := 1389) rfl, rfl⟩
set_option maxRecDepth 100000 in
theorem gs_kw_147 : gs_kw 147 ∈ lw_tbl := List.mem_of_getElem? (i := 1397) rfl
set_option maxRecDepth 100000 in
theorem gs_ow_147 : ∀ w ∈ gs_ow 147, gs_gw w := by
  intro w hw
  have hw : w ∈ ([.initialized (gs_y 147).1.cls, .instanceMethod (gs_y 147).1, .selects (gs_y 147).1.cls (gs_y 147).1 (gs_y 147).1] : List Cond) := hw
  simp only [List.mem_cons, List.not_mem_nil, or_false] at hw
  rcases hw with rfl | rfl | rfl
  · exact ⟨List.mem_of_getElem? (i := 133) rfl, rfl⟩
  · exact ⟨List.mem_of_getElem? (i := 1395) rfl, rfl⟩
  · exact ⟨List.mem_of_getElem? (i := 1396) rfl, rfl⟩
set_option maxRecDepth 100000 in
theorem gs_kw_148 : gs_kw 148 ∈ lw_tbl := List.mem_of_getElem? (i := 1409) rfl
set_option maxRecDepth 100000 in
theorem gs_ow_148 : ∀ w ∈ gs_ow 148, gs_gw w := by
  intro w hw
  have hw : w ∈ ([.initialized (gs_y 148).1.cls, .instanceMethod (gs_y 148).1, .selects (gs_y 148).1.cls (gs_y 148).1 (gs_y 148).1] : List Cond) := hw
  simp only [List.mem_cons, List.not_mem_nil, or_false] at hw
  rcases hw with rfl | rfl | rfl
  · exact ⟨List.mem_of_getElem? (i := 133) rfl, rfl⟩
  · exact ⟨List.mem_of_getElem? (i := 1407) rfl, rfl⟩
  · exact ⟨List.mem_of_getElem? (i := 1408) rfl, rfl⟩
set_option maxRecDepth 100000 in
theorem gs_kw_149 : gs_kw 149 ∈ lw_tbl := List.mem_of_getElem? (i := 1421) rfl
set_option maxRecDepth 100000 in
theorem gs_ow_149 : ∀ w ∈ gs_ow 149, gs_gw w := by
  intro w hw
  have hw : w ∈ ([.initialized (gs_y 149).1.cls, .instanceMethod (gs_y 149).1, .selects (gs_y 149).1.cls (gs_y 149).1 (gs_y 149).1] : List Cond) := hw
  simp only [List.mem_cons, List.not_mem_nil, or_false] at hw
  rcases hw with rfl | rfl | rfl
  · exact ⟨List.mem_of_getElem? (i := 133) rfl, rfl⟩
  · exact ⟨List.mem_of_getElem? (i := 1419) rfl, rfl⟩
  · exact ⟨List.mem_of_getElem? (i := 1420) rfl, rfl⟩
set_option maxRecDepth 100000 in
theorem gs_kw_150 : gs_kw 150 ∈ lw_tbl := List.mem_of_getElem? (i := 1426) rfl
set_option maxRecDepth 100000 in
theorem gs_ow_150 : ∀ w ∈ gs_ow 150, gs_gw w := by
  intro w hw
  have hw : w ∈ ([.initialized (gs_y 150).1.cls, .instanceMethod (gs_y 150).1, .selects (gs_y 150).1.cls (gs_y 150).1 (gs_y 150).1] : List Cond) := hw
  simp only [List.mem_cons, List.not_mem_nil, or_false] at hw
  rcases hw with rfl | rfl | rfl
  · exact ⟨List.mem_of_getElem? (i := 133) rfl, rfl⟩
  · exact ⟨List.mem_of_getElem? (i := 1424) rfl, rfl⟩
  · exact ⟨List.mem_of_getElem? (i := 1425) rfl, rfl⟩
set_option maxRecDepth 100000 in
theorem gs_kw_151 : gs_kw 151 ∈ lw_tbl := List.mem_of_getElem? (i := 1431) rfl
set_option maxRecDepth 100000 in
theorem gs_ow_151 : ∀ w ∈ gs_ow 151, gs_gw w := by
  intro w hw
  have hw : w ∈ ([.initialized (gs_y 151).1.cls, .instanceMethod (gs_y 151).1, .selects (gs_y 151).1.cls (gs_y 151).1 (gs_y 151).1] : List Cond) := hw
  simp only [List.mem_cons, List.not_mem_nil, or_false] at hw
  rcases hw with rfl | rfl | rfl
  · exact ⟨List.mem_of_getElem? (i := 133) rfl, rfl⟩
  · exact ⟨List.mem_of_getElem? (i := 1429) rfl, rfl⟩
  · exact ⟨List.mem_of_getElem? (i := 1430) rfl, rfl⟩
set_option maxRecDepth 100000 in
theorem gs_kw_152 : gs_kw 152 ∈ lw_tbl := List.mem_of_getElem? (i := 1435) rfl
set_option maxRecDepth 100000 in
theorem gs_ow_152 : ∀ w ∈ gs_ow 152, gs_gw w := by
  intro w hw
  have hw : w ∈ ([.initialized (gs_y 152).1.cls, .instanceMethod (gs_y 152).1, .selects (gs_y 152).1.cls (gs_y 152).1 (gs_y 152).1] : List Cond) := hw
  simp only [List.mem_cons, List.not_mem_nil, or_false] at hw
  rcases hw with rfl | rfl | rfl
  · exact ⟨List.mem_of_getElem? (i := 133) rfl, rfl⟩
  · exact ⟨List.mem_of_getElem? (i := 1433) rfl, rfl⟩
  · exact ⟨List.mem_of_getElem? (i := 1434) rfl, rfl⟩
set_option maxRecDepth 100000 in
theorem gs_kw_153 : gs_kw 153 ∈ lw_tbl := List.mem_of_getElem? (i := 1443) rfl
set_option maxRecDepth 100000 in
theorem gs_ow_153 : ∀ w ∈ gs_ow 153, gs_gw w := by
  intro w hw
  have hw : w ∈ ([.initialized (gs_y 153).1.cls, .instanceMethod (gs_y 153).1, .selects (gs_y 153).1.cls (gs_y 153).1 (gs_y 153).1] : List Cond) := hw
  simp only [List.mem_cons, List.not_mem_nil, or_false] at hw
  rcases hw with rfl | rfl | rfl
  · exact ⟨List.mem_of_getElem? (i := 133) rfl, rfl⟩
  · exact ⟨List.mem_of_getElem? (i := 1441) rfl, rfl⟩
  · exact ⟨List.mem_of_getElem? (i := 1442) rfl, rfl⟩
set_option maxRecDepth 100000 in
theorem gs_kw_154 : gs_kw 154 ∈ lw_tbl := List.mem_of_getElem? (i := 1447) rfl
set_option maxRecDepth 100000 in
theorem gs_ow_154 : ∀ w ∈ gs_ow 154, gs_gw w := by
  intro w hw
  have hw : w ∈ ([.initialized (gs_y 154).1.cls, .instanceMethod (gs_y 154).1, .selects (gs_y 154).1.cls (gs_y 154).1 (gs_y 154).1] : List Cond) := hw
  simp only [List.mem_cons, List.not_mem_nil, or_false] at hw
  rcases hw with rfl | rfl | rfl
  · exact ⟨List.mem_of_getElem? (i := 133) rfl, rfl⟩
  · exact ⟨List.mem_of_getElem? (i := 1445) rfl, rfl⟩
  · exact ⟨List.mem_of_getElem? (i := 1446) rfl, rfl⟩
set_option maxRecDepth 100000 in
theorem gs_kw_155 : gs_kw 155 ∈ lw_tbl := List.mem_of_getElem? (i := 1462) rfl
set_option maxRecDepth 100000 in
theorem gs_ow_155 : ∀ w ∈ gs_ow 155, gs_gw w := by
  intro w hw
  have hw : w ∈ ([.initialized (gs_y 155).1.cls, .instanceMethod (gs_y 155).1, .selects (gs_y 155).1.cls (gs_y 155).1 (gs_y 155).1] : List Cond) := hw
  simp only [List.mem_cons, List.not_mem_nil, or_false] at hw
  rcases hw with rfl | rfl | rfl
  · exact ⟨List.mem_of_getElem? (i := 133) rfl, rfl⟩
  · exact ⟨List.mem_of_getElem? (i := 1460) rfl, rfl⟩
  · exact ⟨List.mem_of_getElem? (i := 1461) rfl, rfl⟩
set_option maxRecDepth 100000 in
theorem gs_kw_156 : gs_kw 156 ∈ lw_tbl := List.mem_of_getElem? (i := 1482) rfl
set_option maxRecDepth 100000 in
theorem gs_ow_156 : ∀ w ∈ gs_ow 156, gs_gw w := by
  intro w hw
  have hw : w ∈ ([.initialized (gs_y 156).1.cls, .instanceMethod (gs_y 156).1, .selects (gs_y 156).1.cls (gs_y 156).1 (gs_y 156).1] : List Cond) := hw
  simp only [List.mem_cons, List.not_mem_nil, or_false] at hw
  rcases hw with rfl | rfl | rfl
  · exact ⟨List.mem_of_getElem? (i := 133) rfl, rfl⟩
  · exact ⟨List.mem_of_getElem? (i := 1480) rfl, rfl⟩
  · exact ⟨List.mem_of_getElem? (i := 1481) rfl, rfl⟩
set_option maxRecDepth 100000 in
theorem gs_kw_157 : gs_kw 157 ∈ lw_tbl := List.mem_of_getElem? (i := 1009) rfl
set_option maxRecDepth 100000 in
theorem gs_ow_157 : ∀ w ∈ gs_ow 157, gs_gw w := by
  intro w hw
  have hw : w ∈ ([.initialized (gs_y 157).1.cls, .instanceMethod (gs_y 157).1, .selects (gs_y 157).1.cls (gs_y 157).1 (gs_y 157).1] : List Cond) := hw
  simp only [List.mem_cons, List.not_mem_nil, or_false] at hw
  rcases hw with rfl | rfl | rfl
  · exact ⟨List.mem_of_getElem? (i := 133) rfl, rfl⟩
  · exact ⟨List.mem_of_getElem? (i := 1008) rfl, rfl⟩
  · exact ⟨List.mem_of_getElem? (i := 30) rfl, rfl⟩
set_option maxRecDepth 100000 in
theorem gs_kw_158 : gs_kw 158 ∈ lw_tbl := List.mem_of_getElem? (i := 1150) rfl
set_option maxRecDepth 100000 in
theorem gs_ow_158 : ∀ w ∈ gs_ow 158, gs_gw w := by
  intro w hw
  have hw : w ∈ ([.initialized (gs_y 158).1.cls, .instanceMethod (gs_y 158).1, .selects (gs_y 158).1.cls (gs_y 158).1 (gs_y 158).1] : List Cond) := hw
  simp only [List.mem_cons, List.not_mem_nil, or_false] at hw
  rcases hw with rfl | rfl | rfl
  · exact ⟨List.mem_of_getElem? (i := 133) rfl, rfl⟩
  · exact ⟨List.mem_of_getElem? (i := 1149) rfl, rfl⟩
  · exact ⟨List.mem_of_getElem? (i := 38) rfl, rfl⟩
set_option maxRecDepth 100000 in
theorem gs_kw_159 : gs_kw 159 ∈ lw_tbl := List.mem_of_getElem? (i := 1127) rfl
set_option maxRecDepth 100000 in
theorem gs_ow_159 : ∀ w ∈ gs_ow 159, gs_gw w := by
  intro w hw
  have hw : w ∈ ([.initialized (gs_y 159).1.cls, .instanceMethod (gs_y 159).1, .selects (gs_y 159).1.cls (gs_y 159).1 (gs_y 159).1] : List Cond) := hw
  simp only [List.mem_cons, List.not_mem_nil, or_false] at hw
  rcases hw with rfl | rfl | rfl
  · exact ⟨List.mem_of_getElem? (i := 133) rfl, rfl⟩
  · exact ⟨List.mem_of_getElem? (i := 1126) rfl, rfl⟩
  · exact ⟨List.mem_of_getElem? (i := 37) rfl, rfl⟩
set_option maxRecDepth 100000 in
theorem gs_kw_160 : gs_kw 160 ∈ lw_tbl := List.mem_of_getElem? (i := 1320) rfl
set_option maxRecDepth 100000 in
theorem gs_ow_160 : ∀ w ∈ gs_ow 160, gs_gw w := by
  intro w hw
  have hw : w ∈ ([.initialized (gs_y 160).1.cls, .instanceMethod (gs_y 160).1, .selects (gs_y 160).1.cls (gs_y 160).1 (gs_y 160).1] : List Cond) := hw
  simp only [List.mem_cons, List.not_mem_nil, or_false] at hw
  rcases hw with rfl | rfl | rfl
  · exact ⟨List.mem_of_getElem? (i := 133) rfl, rfl⟩
  · exact ⟨List.mem_of_getElem? (i := 1319) rfl, rfl⟩
  · exact ⟨List.mem_of_getElem? (i := 50) rfl, rfl⟩
set_option maxRecDepth 100000 in
theorem gs_kw_161 : gs_kw 161 ∈ lw_tbl := List.mem_of_getElem? (i := 996) rfl
set_option maxRecDepth 100000 in
theorem gs_ow_161 : ∀ w ∈ gs_ow 161, gs_gw w := by
  intro w hw
  have hw : w ∈ ([.initialized (gs_y 161).1.cls, .static (gs_y 161).1] : List Cond) := hw
  simp only [List.mem_cons, List.not_mem_nil, or_false] at hw
  rcases hw with rfl | rfl
  · exact ⟨List.mem_of_getElem? (i := 133) rfl, rfl⟩
  · exact ⟨List.mem_of_getElem? (i := 995) rfl, rfl⟩
set_option maxRecDepth 100000 in
theorem gs_kw_162 : gs_kw 162 ∈ lw_tbl := List.mem_of_getElem? (i := 1393) rfl
set_option maxRecDepth 100000 in
theorem gs_ow_162 : ∀ w ∈ gs_ow 162, gs_gw w := by
  intro w hw
  have hw : w ∈ ([.initialized (gs_y 162).1.cls, .static (gs_y 162).1] : List Cond) := hw
  simp only [List.mem_cons, List.not_mem_nil, or_false] at hw
  rcases hw with rfl | rfl
  · exact ⟨List.mem_of_getElem? (i := 133) rfl, rfl⟩
  · exact ⟨List.mem_of_getElem? (i := 1392) rfl, rfl⟩
set_option maxRecDepth 100000 in
theorem gs_kw_163 : gs_kw 163 ∈ lw_tbl := List.mem_of_getElem? (i := 1412) rfl
set_option maxRecDepth 100000 in
theorem gs_ow_163 : ∀ w ∈ gs_ow 163, gs_gw w := by
  intro w hw
  have hw : w ∈ ([.initialized (gs_y 163).1.cls, .static (gs_y 163).1] : List Cond) := hw
  simp only [List.mem_cons, List.not_mem_nil, or_false] at hw
  rcases hw with rfl | rfl
  · exact ⟨List.mem_of_getElem? (i := 133) rfl, rfl⟩
  · exact ⟨List.mem_of_getElem? (i := 1411) rfl, rfl⟩
set_option maxRecDepth 100000 in
theorem gs_kw_164 : gs_kw 164 ∈ lw_tbl := List.mem_of_getElem? (i := 1054) rfl
set_option maxRecDepth 100000 in
theorem gs_ow_164 : ∀ w ∈ gs_ow 164, gs_gw w := by
  intro w hw
  have hw : w ∈ ([.initialized (gs_y 164).1.cls, .static (gs_y 164).1] : List Cond) := hw
  simp only [List.mem_cons, List.not_mem_nil, or_false] at hw
  rcases hw with rfl | rfl
  · exact ⟨List.mem_of_getElem? (i := 133) rfl, rfl⟩
  · exact ⟨List.mem_of_getElem? (i := 1053) rfl, rfl⟩
set_option maxRecDepth 100000 in
theorem gs_kw_165 : gs_kw 165 ∈ lw_tbl := List.mem_of_getElem? (i := 1439) rfl
set_option maxRecDepth 100000 in
theorem gs_ow_165 : ∀ w ∈ gs_ow 165, gs_gw w := by
  intro w hw
  have hw : w ∈ ([.initialized (gs_y 165).1.cls, .instanceMethod (gs_y 165).1, .selects (gs_y 165).1.cls (gs_y 165).1 (gs_y 165).1] : List Cond) := hw
  simp only [List.mem_cons, List.not_mem_nil, or_false] at hw
  rcases hw with rfl | rfl | rfl
  · exact ⟨List.mem_of_getElem? (i := 133) rfl, rfl⟩
  · exact ⟨List.mem_of_getElem? (i := 1438) rfl, rfl⟩
  · exact ⟨List.mem_of_getElem? (i := 51) rfl, rfl⟩
set_option maxRecDepth 100000 in
theorem gs_kw_166 : gs_kw 166 ∈ lw_tbl := List.mem_of_getElem? (i := 980) rfl
set_option maxRecDepth 100000 in
theorem gs_ow_166 : ∀ w ∈ gs_ow 166, gs_gw w := by
  intro w hw
  have hw : w ∈ ([.initialized (gs_y 166).1.cls, .instanceMethod (gs_y 166).1, .selects (gs_y 166).1.cls (gs_y 166).1 (gs_y 166).1] : List Cond) := hw
  simp only [List.mem_cons, List.not_mem_nil, or_false] at hw
  rcases hw with rfl | rfl | rfl
  · exact ⟨List.mem_of_getElem? (i := 133) rfl, rfl⟩
  · exact ⟨List.mem_of_getElem? (i := 979) rfl, rfl⟩
  · exact ⟨List.mem_of_getElem? (i := 29) rfl, rfl⟩
set_option maxRecDepth 100000 in
theorem gs_kw_167 : gs_kw 167 ∈ lw_tbl := List.mem_of_getElem? (i := 1208) rfl
set_option maxRecDepth 100000 in
theorem gs_ow_167 : ∀ w ∈ gs_ow 167, gs_gw w := by
  intro w hw
  have hw : w ∈ ([.initialized (gs_y 167).1.cls, .instanceMethod (gs_y 167).1, .selects (gs_y 167).1.cls (gs_y 167).1 (gs_y 167).1] : List Cond) := hw
  simp only [List.mem_cons, List.not_mem_nil, or_false] at hw
  rcases hw with rfl | rfl | rfl
  · exact ⟨List.mem_of_getElem? (i := 133) rfl, rfl⟩
  · exact ⟨List.mem_of_getElem? (i := 1207) rfl, rfl⟩
  · exact ⟨List.mem_of_getElem? (i := 41) rfl, rfl⟩
set_option maxRecDepth 100000 in
theorem gs_kw_168 : gs_kw 168 ∈ lw_tbl := List.mem_of_getElem? (i := 1204) rfl
set_option maxRecDepth 100000 in
theorem gs_ow_168 : ∀ w ∈ gs_ow 168, gs_gw w := by
  intro w hw
  have hw : w ∈ ([.initialized (gs_y 168).1.cls, .instanceMethod (gs_y 168).1, .selects (gs_y 168).1.cls (gs_y 168).1 (gs_y 168).1] : List Cond) := hw
  simp only [List.mem_cons, List.not_mem_nil, or_false] at hw
  rcases hw with rfl | rfl | rfl
  · exact ⟨List.mem_of_getElem? (i := 133) rfl, rfl⟩
  · exact ⟨List.mem_of_getElem? (i := 1203) rfl, rfl⟩
  · exact ⟨List.mem_of_getElem? (i := 40) rfl, rfl⟩
set_option maxRecDepth 100000 in
theorem gs_kw_169 : gs_kw 169 ∈ lw_tbl := List.mem_of_getElem? (i := 1275) rfl
set_option maxRecDepth 100000 in
theorem gs_ow_169 : ∀ w ∈ gs_ow 169, gs_gw w := by
  intro w hw
  have hw : w ∈ ([.initialized (gs_y 169).1.cls, .instanceMethod (gs_y 169).1, .selects (gs_y 169).1.cls (gs_y 169).1 (gs_y 169).1] : List Cond) := hw
  simp only [List.mem_cons, List.not_mem_nil, or_false] at hw
  rcases hw with rfl | rfl | rfl
  · exact ⟨List.mem_of_getElem? (i := 133) rfl, rfl⟩
  · exact ⟨List.mem_of_getElem? (i := 1274) rfl, rfl⟩
  · exact ⟨List.mem_of_getElem? (i := 48) rfl, rfl⟩
set_option maxRecDepth 100000 in
theorem gs_kw_170 : gs_kw 170 ∈ lw_tbl := List.mem_of_getElem? (i := 1451) rfl
set_option maxRecDepth 100000 in
theorem gs_ow_170 : ∀ w ∈ gs_ow 170, gs_gw w := by
  intro w hw
  have hw : w ∈ ([.initialized (gs_y 170).1.cls, .instanceMethod (gs_y 170).1, .selects (gs_y 170).1.cls (gs_y 170).1 (gs_y 170).1] : List Cond) := hw
  simp only [List.mem_cons, List.not_mem_nil, or_false] at hw
  rcases hw with rfl | rfl | rfl
  · exact ⟨List.mem_of_getElem? (i := 133) rfl, rfl⟩
  · exact ⟨List.mem_of_getElem? (i := 1450) rfl, rfl⟩
  · exact ⟨List.mem_of_getElem? (i := 52) rfl, rfl⟩
set_option maxRecDepth 100000 in
theorem gs_kw_171 : gs_kw 171 ∈ lw_tbl := List.mem_of_getElem? (i := 1466) rfl
set_option maxRecDepth 100000 in
theorem gs_ow_171 : ∀ w ∈ gs_ow 171, gs_gw w := by
  intro w hw
  have hw : w ∈ ([.initialized (gs_y 171).1.cls, .instanceMethod (gs_y 171).1, .selects (gs_y 171).1.cls (gs_y 171).1 (gs_y 171).1] : List Cond) := hw
  simp only [List.mem_cons, List.not_mem_nil, or_false] at hw
  rcases hw with rfl | rfl | rfl
  · exact ⟨List.mem_of_getElem? (i := 133) rfl, rfl⟩
  · exact ⟨List.mem_of_getElem? (i := 1465) rfl, rfl⟩
  · exact ⟨List.mem_of_getElem? (i := 53) rfl, rfl⟩
set_option maxRecDepth 100000 in
theorem gs_kw_172 : gs_kw 172 ∈ lw_tbl := List.mem_of_getElem? (i := 1529) rfl
set_option maxRecDepth 100000 in
theorem gs_ow_172 : ∀ w ∈ gs_ow 172, gs_gw w := by
  intro w hw
  have hw : w ∈ ([.initialized (gs_y 172).1.cls, .instanceMethod (gs_y 172).1] : List Cond) := hw
  simp only [List.mem_cons, List.not_mem_nil, or_false] at hw
  rcases hw with rfl | rfl
  · exact ⟨List.mem_of_getElem? (i := 148) rfl, rfl⟩
  · exact ⟨List.mem_of_getElem? (i := 1528) rfl, rfl⟩
set_option maxRecDepth 100000 in
theorem gs_kw_173 : gs_kw 173 ∈ lw_tbl := List.mem_of_getElem? (i := 1726) rfl
set_option maxRecDepth 100000 in
theorem gs_ow_173 : ∀ w ∈ gs_ow 173, gs_gw w := by
  intro w hw
  have hw : w ∈ ([.initialized (gs_y 173).1.cls, .instanceMethod (gs_y 173).1, .selects (gs_y 173).1.cls (gs_y 173).1 (gs_y 173).1] : List Cond) := hw
  simp only [List.mem_cons, List.not_mem_nil, or_false] at hw
  rcases hw with rfl | rfl | rfl
  · exact ⟨List.mem_of_getElem? (i := 148) rfl, rfl⟩
  · exact ⟨List.mem_of_getElem? (i := 1724) rfl, rfl⟩
  · exact ⟨List.mem_of_getElem? (i := 1725) rfl, rfl⟩
set_option maxRecDepth 100000 in
theorem gs_kw_174 : gs_kw 174 ∈ lw_tbl := List.mem_of_getElem? (i := 1730) rfl
set_option maxRecDepth 100000 in
theorem gs_ow_174 : ∀ w ∈ gs_ow 174, gs_gw w := by
  intro w hw
  have hw : w ∈ ([.initialized (gs_y 174).1.cls, .instanceMethod (gs_y 174).1, .selects (gs_y 174).1.cls (gs_y 174).1 (gs_y 174).1] : List Cond) := hw
  simp only [List.mem_cons, List.not_mem_nil, or_false] at hw
  rcases hw with rfl | rfl | rfl
  · exact ⟨List.mem_of_getElem? (i := 148) rfl, rfl⟩
  · exact ⟨List.mem_of_getElem? (i := 1728) rfl, rfl⟩
  · exact ⟨List.mem_of_getElem? (i := 1729) rfl, rfl⟩
set_option maxRecDepth 100000 in
theorem gs_kw_175 : gs_kw 175 ∈ lw_tbl := List.mem_of_getElem? (i := 1788) rfl
set_option maxRecDepth 100000 in
theorem gs_ow_175 : ∀ w ∈ gs_ow 175, gs_gw w := by
  intro w hw
  have hw : w ∈ ([.initialized (gs_y 175).1.cls, .static (gs_y 175).1] : List Cond) := hw
  simp only [List.mem_cons, List.not_mem_nil, or_false] at hw
  rcases hw with rfl | rfl
  · exact ⟨List.mem_of_getElem? (i := 148) rfl, rfl⟩
  · exact ⟨List.mem_of_getElem? (i := 1787) rfl, rfl⟩
set_option maxRecDepth 100000 in
theorem gs_kw_176 : gs_kw 176 ∈ lw_tbl := List.mem_of_getElem? (i := 1769) rfl
set_option maxRecDepth 100000 in
theorem gs_ow_176 : ∀ w ∈ gs_ow 176, gs_gw w := by
  intro w hw
  have hw : w ∈ ([.initialized (gs_y 176).1.cls, .static (gs_y 176).1] : List Cond) := hw
  simp only [List.mem_cons, List.not_mem_nil, or_false] at hw
  rcases hw with rfl | rfl
  · exact ⟨List.mem_of_getElem? (i := 148) rfl, rfl⟩
  · exact ⟨List.mem_of_getElem? (i := 1768) rfl, rfl⟩
set_option maxRecDepth 100000 in
theorem gs_kw_177 : gs_kw 177 ∈ lw_tbl := List.mem_of_getElem? (i := 2074) rfl
set_option maxRecDepth 100000 in
theorem gs_ow_177 : ∀ w ∈ gs_ow 177, gs_gw w := by
  intro w hw
  have hw : w ∈ ([.initialized (gs_y 177).1.cls, .static (gs_y 177).1] : List Cond) := hw
  simp only [List.mem_cons, List.not_mem_nil, or_false] at hw
  rcases hw with rfl | rfl
  · exact ⟨List.mem_of_getElem? (i := 148) rfl, rfl⟩
  · exact ⟨List.mem_of_getElem? (i := 2073) rfl, rfl⟩
set_option maxRecDepth 100000 in
theorem gs_kw_178 : gs_kw 178 ∈ lw_tbl := List.mem_of_getElem? (i := 1766) rfl
set_option maxRecDepth 100000 in
theorem gs_ow_178 : ∀ w ∈ gs_ow 178, gs_gw w := by
  intro w hw
  have hw : w ∈ ([.initialized (gs_y 178).1.cls, .instanceMethod (gs_y 178).1, .selects (gs_y 178).1.cls (gs_y 178).1 (gs_y 178).1] : List Cond) := hw
  simp only [List.mem_cons, List.not_mem_nil, or_false] at hw
  rcases hw with rfl | rfl | rfl
  · exact ⟨List.mem_of_getElem? (i := 148) rfl, rfl⟩
  · exact ⟨List.mem_of_getElem? (i := 1765) rfl, rfl⟩
  · exact ⟨List.mem_of_getElem? (i := 64) rfl, rfl⟩
set_option maxRecDepth 100000 in
theorem gs_kw_179 : gs_kw 179 ∈ lw_tbl := List.mem_of_getElem? (i := 1746) rfl
set_option maxRecDepth 100000 in
theorem gs_ow_179 : ∀ w ∈ gs_ow 179, gs_gw w := by
  intro w hw
  have hw : w ∈ ([.initialized (gs_y 179).1.cls, .instanceMethod (gs_y 179).1, .selects (gs_y 179).1.cls (gs_y 179).1 (gs_y 179).1] : List Cond) := hw
  simp only [List.mem_cons, List.not_mem_nil, or_false] at hw
  rcases hw with rfl | rfl | rfl
  · exact ⟨List.mem_of_getElem? (i := 148) rfl, rfl⟩
  · exact ⟨List.mem_of_getElem? (i := 1745) rfl, rfl⟩
  · exact ⟨List.mem_of_getElem? (i := 59) rfl, rfl⟩
set_option maxRecDepth 100000 in
theorem gs_kw_180 : gs_kw 180 ∈ lw_tbl := List.mem_of_getElem? (i := 1742) rfl
set_option maxRecDepth 100000 in
theorem gs_ow_180 : ∀ w ∈ gs_ow 180, gs_gw w := by
  intro w hw
  have hw : w ∈ ([.initialized (gs_y 180).1.cls, .instanceMethod (gs_y 180).1, .selects (gs_y 180).1.cls (gs_y 180).1 (gs_y 180).1] : List Cond) := hw
  simp only [List.mem_cons, List.not_mem_nil, or_false] at hw
  rcases hw with rfl | rfl | rfl
  · exact ⟨List.mem_of_getElem? (i := 148) rfl, rfl⟩
  · exact ⟨List.mem_of_getElem? (i := 1741) rfl, rfl⟩
  · exact ⟨List.mem_of_getElem? (i := 58) rfl, rfl⟩
set_option maxRecDepth 100000 in
theorem gs_kw_181 : gs_kw 181 ∈ lw_tbl := List.mem_of_getElem? (i := 1754) rfl
set_option maxRecDepth 100000 in
theorem gs_ow_181 : ∀ w ∈ gs_ow 181, gs_gw w := by
  intro w hw
  have hw : w ∈ ([.initialized (gs_y 181).1.cls, .instanceMethod (gs_y 181).1, .selects (gs_y 181).1.cls (gs_y 181).1 (gs_y 181).1] : List Cond) := hw
  simp only [List.mem_cons, List.not_mem_nil, or_false] at hw
  rcases hw with rfl | rfl | rfl
  · exact ⟨List.mem_of_getElem? (i := 148) rfl, rfl⟩
  · exact ⟨List.mem_of_getElem? (i := 1753) rfl, rfl⟩
  · exact ⟨List.mem_of_getElem? (i := 61) rfl, rfl⟩
set_option maxRecDepth 100000 in
theorem gs_kw_182 : gs_kw 182 ∈ lw_tbl := List.mem_of_getElem? (i := 1738) rfl
set_option maxRecDepth 100000 in
theorem gs_ow_182 : ∀ w ∈ gs_ow 182, gs_gw w := by
  intro w hw
  have hw : w ∈ ([.initialized (gs_y 182).1.cls, .instanceMethod (gs_y 182).1, .selects (gs_y 182).1.cls (gs_y 182).1 (gs_y 182).1] : List Cond) := hw
  simp only [List.mem_cons, List.not_mem_nil, or_false] at hw
  rcases hw with rfl | rfl | rfl
  · exact ⟨List.mem_of_getElem? (i := 148) rfl, rfl⟩
  · exact ⟨List.mem_of_getElem? (i := 1737) rfl, rfl⟩
  · exact ⟨List.mem_of_getElem? (i := 57) rfl, rfl⟩
set_option maxRecDepth 100000 in
theorem gs_kw_183 : gs_kw 183 ∈ lw_tbl := List.mem_of_getElem? (i := 1758) rfl
set_option maxRecDepth 100000 in
theorem gs_ow_183 : ∀ w ∈ gs_ow 183, gs_gw w := by
  intro w hw
  have hw : w ∈ ([.initialized (gs_y 183).1.cls, .instanceMethod (gs_y 183).1, .selects (gs_y 183).1.cls (gs_y 183).1 (gs_y 183).1] : List Cond) := hw
  simp only [List.mem_cons, List.not_mem_nil, or_false] at hw
  rcases hw with rfl | rfl | rfl
  · exact ⟨List.mem_of_getElem? (i := 148) rfl, rfl⟩
  · exact ⟨List.mem_of_getElem? (i := 1757) rfl, rfl⟩
  · exact ⟨List.mem_of_getElem? (i := 62) rfl, rfl⟩
set_option maxRecDepth 100000 in
theorem gs_kw_184 : gs_kw 184 ∈ lw_tbl := List.mem_of_getElem? (i := 1750) rfl
set_option maxRecDepth 100000 in
theorem gs_ow_184 : ∀ w ∈ gs_ow 184, gs_gw w := by
  intro w hw
  have hw : w ∈ ([.initialized (gs_y 184).1.cls, .instanceMethod (gs_y 184).1, .selects (gs_y 184).1.cls (gs_y 184).1 (gs_y 184).1] : List Cond) := hw
  simp only [List.mem_cons, List.not_mem_nil, or_false] at hw
  rcases hw with rfl | rfl | rfl
  · exact ⟨List.mem_of_getElem? (i := 148) rfl, rfl⟩
  · exact ⟨List.mem_of_getElem? (i := 1749) rfl, rfl⟩
  · exact ⟨List.mem_of_getElem? (i := 60) rfl, rfl⟩
set_option maxRecDepth 100000 in
theorem gs_kw_185 : gs_kw 185 ∈ lw_tbl := List.mem_of_getElem? (i := 1800) rfl
set_option maxRecDepth 100000 in
theorem gs_ow_185 : ∀ w ∈ gs_ow 185, gs_gw w := by
  intro w hw
  have hw : w ∈ ([.initialized (gs_y 185).1.cls, .instanceMethod (gs_y 185).1, .selects (gs_y 185).1.cls (gs_y 185).1 (gs_y 185).1] : List Cond) := hw
  simp only [List.mem_cons, List.not_mem_nil, or_false] at hw
  rcases hw with rfl | rfl | rfl
  · exact ⟨List.mem_of_getElem? (i := 148) rfl, rfl⟩
  · exact ⟨List.mem_of_getElem? (i := 1799) rfl, rfl⟩
  · exact ⟨List.mem_of_getElem? (i := 71) rfl, rfl⟩
set_option maxRecDepth 100000 in
theorem gs_kw_186 : gs_kw 186 ∈ lw_tbl := List.mem_of_getElem? (i := 1852) rfl
set_option maxRecDepth 100000 in
theorem gs_ow_186 : ∀ w ∈ gs_ow 186, gs_gw w := by
  intro w hw
  have hw : w ∈ ([.initialized (gs_y 186).1.cls, .instanceMethod (gs_y 186).1, .selects (gs_y 186).1.cls (gs_y 186).1 (gs_y 186).1] : List Cond) := hw
  simp only [List.mem_cons, List.not_mem_nil, or_false] at hw
  rcases hw with rfl | rfl | rfl
  · exact ⟨List.mem_of_getElem? (i := 148) rfl, rfl⟩
  · exact ⟨List.mem_of_getElem? (i := 1851) rfl, rfl⟩
  · exact ⟨List.mem_of_getElem? (i := 84) rfl, rfl⟩
set_option maxRecDepth 100000 in
theorem gs_kw_187 : gs_kw 187 ∈ lw_tbl := List.mem_of_getElem? (i := 1785) rfl
set_option maxRecDepth 100000 in
theorem gs_ow_187 : ∀ w ∈ gs_ow 187, gs_gw w := by
  intro w hw
  have hw : w ∈ ([.initialized (gs_y 187).1.cls, .instanceMethod (gs_y 187).1, .selects (gs_y 187).1.cls (gs_y 187).1 (gs_y 187).1] : List Cond) := hw
  simp only [List.mem_cons, List.not_mem_nil, or_false] at hw
  rcases hw with rfl | rfl | rfl
  · exact ⟨List.mem_of_getElem? (i := 148) rfl, rfl⟩
  · exact ⟨List.mem_of_getElem? (i := 1784) rfl, rfl⟩
  · exact ⟨List.mem_of_getElem? (i := 68) rfl, rfl⟩
set_option maxRecDepth 100000 in
theorem gs_kw_188 : gs_kw 188 ∈ lw_tbl := List.mem_of_getElem? (i := 1534) rfl
set_option maxRecDepth 100000 in
theorem gs_ow_188 : ∀ w ∈ gs_ow 188, gs_gw w := by
  intro w hw
  have hw : w ∈ ([.initialized (gs_y 188).1.cls, .instanceMethod (gs_y 188).1, .selects (gs_y 188).1.cls (gs_y 188).1 (gs_y 188).1] : List Cond) := hw
  simp only [List.mem_cons, List.not_mem_nil, or_false] at hw
  rcases hw with rfl | rfl | rfl
  · exact ⟨List.mem_of_getElem? (i := 148) rfl, rfl⟩
  · exact ⟨List.mem_of_getElem? (i := 1533) rfl, rfl⟩
  · exact ⟨List.mem_of_getElem? (i := 55) rfl, rfl⟩
set_option maxRecDepth 100000 in
theorem gs_kw_189 : gs_kw 189 ∈ lw_tbl := List.mem_of_getElem? (i := 1541) rfl
set_option maxRecDepth 100000 in
theorem gs_ow_189 : ∀ w ∈ gs_ow 189, gs_gw w := by
  intro w hw
  have hw : w ∈ ([.initialized (gs_y 189).1.cls, .static (gs_y 189).1] : List Cond) := hw
  simp only [List.mem_cons, List.not_mem_nil, or_false] at hw
  rcases hw with rfl | rfl
  · exact ⟨List.mem_of_getElem? (i := 148) rfl, rfl⟩
  · exact ⟨List.mem_of_getElem? (i := 1540) rfl, rfl⟩
set_option maxRecDepth 100000 in
theorem gs_kw_190 : gs_kw 190 ∈ lw_tbl := List.mem_of_getElem? (i := 1538) rfl
set_option maxRecDepth 100000 in
theorem gs_ow_190 : ∀ w ∈ gs_ow 190, gs_gw w := by
  intro w hw
  have hw : w ∈ ([.initialized (gs_y 190).1.cls, .instanceMethod (gs_y 190).1, .selects (gs_y 190).1.cls (gs_y 190).1 (gs_y 190).1] : List Cond) := hw
  simp only [List.mem_cons, List.not_mem_nil, or_false] at hw
  rcases hw with rfl | rfl | rfl
  · exact ⟨List.mem_of_getElem? (i := 148) rfl, rfl⟩
  · exact ⟨List.mem_of_getElem? (i := 1537) rfl, rfl⟩
  · exact ⟨List.mem_of_getElem? (i := 56) rfl, rfl⟩
set_option maxRecDepth 100000 in
theorem gs_kw_191 : gs_kw 191 ∈ lw_tbl := List.mem_of_getElem? (i := 1781) rfl
set_option maxRecDepth 100000 in
theorem gs_ow_191 : ∀ w ∈ gs_ow 191, gs_gw w := by
  intro w hw
  have hw : w ∈ ([.initialized (gs_y 191).1.cls, .instanceMethod (gs_y 191).1, .selects (gs_y 191).1.cls (gs_y 191).1 (gs_y 191).1] : List Cond) := hw
  simp only [List.mem_cons, List.not_mem_nil, or_false] at hw
  rcases hw with rfl | rfl | rfl
  · exact ⟨List.mem_of_getElem? (i := 148) rfl, rfl⟩
  · exact ⟨List.mem_of_getElem? (i := 1780) rfl, rfl⟩
  · exact ⟨List.mem_of_getElem? (i := 67) rfl, rfl⟩
set_option maxRecDepth 100000 in
theorem gs_kw_192 : gs_kw 192 ∈ lw_tbl := List.mem_of_getElem? (i := 1777) rfl
set_option maxRecDepth 100000 in
theorem gs_ow_192 : ∀ w ∈ gs_ow 192, gs_gw w := by
  intro w hw
  have hw : w ∈ ([.initialized (gs_y 192).1.cls, .instanceMethod (gs_y 192).1, .selects (gs_y 192).1.cls (gs_y 192).1 (gs_y 192).1] : List Cond) := hw
  simp only [List.mem_cons, List.not_mem_nil, or_false] at hw
  rcases hw with rfl | rfl | rfl
  · exact ⟨List.mem_of_getElem? (i := 148) rfl, rfl⟩
  · exact ⟨List.mem_of_getElem? (i := 1776) rfl, rfl⟩
  · exact ⟨List.mem_of_getElem? (i := 66) rfl, rfl⟩
set_option maxRecDepth 100000 in
theorem gs_kw_193 : gs_kw 193 ∈ lw_tbl := List.mem_of_getElem? (i := 1804) rfl
set_option maxRecDepth 100000 in
theorem gs_ow_193 : ∀ w ∈ gs_ow 193, gs_gw w := by
  intro w hw
  have hw : w ∈ ([.initialized (gs_y 193).1.cls, .instanceMethod (gs_y 193).1, .selects (gs_y 193).1.cls (gs_y 193).1 (gs_y 193).1] : List Cond) := hw
  simp only [List.mem_cons, List.not_mem_nil, or_false] at hw
  rcases hw with rfl | rfl | rfl
  · exact ⟨List.mem_of_getElem? (i := 148) rfl, rfl⟩
  · exact ⟨List.mem_of_getElem? (i := 1803) rfl, rfl⟩
  · exact ⟨List.mem_of_getElem? (i := 72) rfl, rfl⟩
set_option maxRecDepth 100000 in
theorem gs_kw_194 : gs_kw 194 ∈ lw_tbl := List.mem_of_getElem? (i := 1773) rfl
set_option maxRecDepth 100000 in
theorem gs_ow_194 : ∀ w ∈ gs_ow 194, gs_gw w := by
  intro w hw
  have hw : w ∈ ([.initialized (gs_y 194).1.cls, .instanceMethod (gs_y 194).1, .selects (gs_y 194).1.cls (gs_y 194).1 (gs_y 194).1] : List Cond) := hw
  simp only [List.mem_cons, List.not_mem_nil, or_false] at hw
  rcases hw with rfl | rfl | rfl
  · exact ⟨List.mem_of_getElem? (i := 148) rfl, rfl⟩
  · exact ⟨List.mem_of_getElem? (i := 1772) rfl, rfl⟩
  · exact ⟨List.mem_of_getElem? (i := 65) rfl, rfl⟩
set_option maxRecDepth 100000 in
theorem gs_kw_195 : gs_kw 195 ∈ lw_tbl := List.mem_of_getElem? (i := 1792) rfl
set_option maxRecDepth 100000 in
theorem gs_ow_195 : ∀ w ∈ gs_ow 195, gs_gw w := by
  intro w hw
  have hw : w ∈ ([.initialized (gs_y 195).1.cls, .instanceMethod (gs_y 195).1, .selects (gs_y 195).1.cls (gs_y 195).1 (gs_y 195).1] : List Cond) := hw
  simp only [List.mem_cons, List.not_mem_nil, or_false] at hw
  rcases hw with rfl | rfl | rfl
  · exact ⟨List.mem_of_getElem? (i := 148) rfl, rfl⟩
  · exact ⟨List.mem_of_getElem? (i := 1791) rfl, rfl⟩
  · exact ⟨List.mem_of_getElem? (i := 69) rfl, rfl⟩
set_option maxRecDepth 100000 in
theorem gs_kw_196 : gs_kw 196 ∈ lw_tbl := List.mem_of_getElem? (i := 1796) rfl
set_option maxRecDepth 100000 in
theorem gs_ow_196 : ∀ w ∈ gs_ow 196, gs_gw w := by
  intro w hw
  have hw : w ∈ ([.initialized (gs_y 196).1.cls, .instanceMethod (gs_y 196).1, .selects (gs_y 196).1.cls (gs_y 196).1 (gs_y 196).1] : List Cond) := hw
  simp only [List.mem_cons, List.not_mem_nil, or_false] at hw
  rcases hw with rfl | rfl | rfl
  · exact ⟨List.mem_of_getElem? (i := 148) rfl, rfl⟩
  · exact ⟨List.mem_of_getElem? (i := 1795) rfl, rfl⟩
  · exact ⟨List.mem_of_getElem? (i := 70) rfl, rfl⟩
set_option maxRecDepth 100000 in
theorem gs_kw_197 : gs_kw 197 ∈ lw_tbl := List.mem_of_getElem? (i := 1812) rfl
set_option maxRecDepth 100000 in
theorem gs_ow_197 : ∀ w ∈ gs_ow 197, gs_gw w := by
  intro w hw
  have hw : w ∈ ([.initialized (gs_y 197).1.cls, .instanceMethod (gs_y 197).1, .selects (gs_y 197).1.cls (gs_y 197).1 (gs_y 197).1] : List Cond) := hw
  simp only [List.mem_cons, List.not_mem_nil, or_false] at hw
  rcases hw with rfl | rfl | rfl
  · exact ⟨List.mem_of_getElem? (i := 148) rfl, rfl⟩
  · exact ⟨List.mem_of_getElem? (i := 1811) rfl, rfl⟩
  · exact ⟨List.mem_of_getElem? (i := 74) rfl, rfl⟩
set_option maxRecDepth 100000 in
theorem gs_kw_198 : gs_kw 198 ∈ lw_tbl := List.mem_of_getElem? (i := 1816) rfl
set_option maxRecDepth 100000 in
theorem gs_ow_198 : ∀ w ∈ gs_ow 198, gs_gw w := by
  intro w hw
  have hw : w ∈ ([.initialized (gs_y 198).1.cls, .instanceMethod (gs_y 198).1, .selects (gs_y 198).1.cls (gs_y 198).1 (gs_y 198).1] : List Cond) := hw
  simp only [List.mem_cons, List.not_mem_nil, or_false] at hw
  rcases hw with rfl | rfl | rfl
  · exact ⟨List.mem_of_getElem? (i := 148) rfl, rfl⟩
  · exact ⟨List.mem_of_getElem? (i := 1815) rfl, rfl⟩
  · exact ⟨List.mem_of_getElem? (i := 75) rfl, rfl⟩
set_option maxRecDepth 100000 in
theorem gs_kw_199 : gs_kw 199 ∈ lw_tbl := List.mem_of_getElem? (i := 1808) rfl
set_option maxRecDepth 100000 in
theorem gs_ow_199 : ∀ w ∈ gs_ow 199, gs_gw w := by
  intro w hw
  have hw : w ∈ ([.initialized (gs_y 199).1.cls, .instanceMethod (gs_y 199).1, .selects (gs_y 199).1.cls (gs_y 199).1 (gs_y 199).1] : List Cond) := hw
  simp only [List.mem_cons, List.not_mem_nil, or_false] at hw
  rcases hw with rfl | rfl | rfl
  · exact ⟨List.mem_of_getElem? (i := 148) rfl, rfl⟩
  · exact ⟨List.mem_of_getElem? (i := 1807) rfl, rfl⟩
  · exact ⟨List.mem_of_getElem? (i := 73) rfl, rfl⟩
set_option maxRecDepth 100000 in
theorem gs_kw_200 : gs_kw 200 ∈ lw_tbl := List.mem_of_getElem? (i := 1820) rfl
set_option maxRecDepth 100000 in
theorem gs_ow_200 : ∀ w ∈ gs_ow 200, gs_gw w := by
  intro w hw
  have hw : w ∈ ([.initialized (gs_y 200).1.cls, .instanceMethod (gs_y 200).1, .selects (gs_y 200).1.cls (gs_y 200).1 (gs_y 200).1] : List Cond) := hw
  simp only [List.mem_cons, List.not_mem_nil, or_false] at hw
  rcases hw with rfl | rfl | rfl
  · exact ⟨List.mem_of_getElem? (i := 148) rfl, rfl⟩
  · exact ⟨List.mem_of_getElem? (i := 1819) rfl, rfl⟩
  · exact ⟨List.mem_of_getElem? (i := 76) rfl, rfl⟩
set_option maxRecDepth 100000 in
theorem gs_kw_201 : gs_kw 201 ∈ lw_tbl := List.mem_of_getElem? (i := 1824) rfl
set_option maxRecDepth 100000 in
theorem gs_ow_201 : ∀ w ∈ gs_ow 201, gs_gw w := by
  intro w hw
  have hw : w ∈ ([.initialized (gs_y 201).1.cls, .instanceMethod (gs_y 201).1, .selects (gs_y 201).1.cls (gs_y 201).1 (gs_y 201).1] : List Cond) := hw
  simp only [List.mem_cons, List.not_mem_nil, or_false] at hw
  rcases hw with rfl | rfl | rfl
  · exact ⟨List.mem_of_getElem? (i := 148) rfl, rfl⟩
  · exact ⟨List.mem_of_getElem? (i := 1823) rfl, rfl⟩
  · exact ⟨List.mem_of_getElem? (i := 77) rfl, rfl⟩
set_option maxRecDepth 100000 in
theorem gs_kw_202 : gs_kw 202 ∈ lw_tbl := List.mem_of_getElem? (i := 1832) rfl
set_option maxRecDepth 100000 in
theorem gs_ow_202 : ∀ w ∈ gs_ow 202, gs_gw w := by
  intro w hw
  have hw : w ∈ ([.initialized (gs_y 202).1.cls, .instanceMethod (gs_y 202).1, .selects (gs_y 202).1.cls (gs_y 202).1 (gs_y 202).1] : List Cond) := hw
  simp only [List.mem_cons, List.not_mem_nil, or_false] at hw
  rcases hw with rfl | rfl | rfl
  · exact ⟨List.mem_of_getElem? (i := 148) rfl, rfl⟩
  · exact ⟨List.mem_of_getElem? (i := 1831) rfl, rfl⟩
  · exact ⟨List.mem_of_getElem? (i := 79) rfl, rfl⟩
set_option maxRecDepth 100000 in
theorem gs_kw_203 : gs_kw 203 ∈ lw_tbl := List.mem_of_getElem? (i := 1836) rfl
set_option maxRecDepth 100000 in
theorem gs_ow_203 : ∀ w ∈ gs_ow 203, gs_gw w := by
  intro w hw
  have hw : w ∈ ([.initialized (gs_y 203).1.cls, .instanceMethod (gs_y 203).1, .selects (gs_y 203).1.cls (gs_y 203).1 (gs_y 203).1] : List Cond) := hw
  simp only [List.mem_cons, List.not_mem_nil, or_false] at hw
  rcases hw with rfl | rfl | rfl
  · exact ⟨List.mem_of_getElem? (i := 148) rfl, rfl⟩
  · exact ⟨List.mem_of_getElem? (i := 1835) rfl, rfl⟩
  · exact ⟨List.mem_of_getElem? (i := 80) rfl, rfl⟩
set_option maxRecDepth 100000 in
theorem gs_kw_204 : gs_kw 204 ∈ lw_tbl := List.mem_of_getElem? (i := 1828) rfl
set_option maxRecDepth 100000 in
theorem gs_ow_204 : ∀ w ∈ gs_ow 204, gs_gw w := by
  intro w hw
  have hw : w ∈ ([.initialized (gs_y 204).1.cls, .instanceMethod (gs_y 204).1, .selects (gs_y 204).1.cls (gs_y 204).1 (gs_y 204).1] : List Cond) := hw
  simp only [List.mem_cons, List.not_mem_nil, or_false] at hw
  rcases hw with rfl | rfl | rfl
  · exact ⟨List.mem_of_getElem? (i := 148) rfl, rfl⟩
  · exact ⟨List.mem_of_getElem? (i := 1827) rfl, rfl⟩
  · exact ⟨List.mem_of_getElem? (i := 78) rfl, rfl⟩
set_option maxRecDepth 100000 in
theorem gs_kw_205 : gs_kw 205 ∈ lw_tbl := List.mem_of_getElem? (i := 1840) rfl
set_option maxRecDepth 100000 in
theorem gs_ow_205 : ∀ w ∈ gs_ow 205, gs_gw w := by
  intro w hw
  have hw : w ∈ ([.initialized (gs_y 205).1.cls, .instanceMethod (gs_y 205).1, .selects (gs_y 205).1.cls (gs_y 205).1 (gs_y 205).1] : List Cond) := hw
  simp only [List.mem_cons, List.not_mem_nil, or_false] at hw
  rcases hw with rfl | rfl | rfl
  · exact ⟨List.mem_of_getElem? (i := 148) rfl, rfl⟩
  · exact ⟨List.mem_of_getElem? (i := 1839) rfl, rfl⟩
  · exact ⟨List.mem_of_getElem? (i := 81) rfl, rfl⟩
set_option maxRecDepth 100000 in
theorem gs_kw_206 : gs_kw 206 ∈ lw_tbl := List.mem_of_getElem? (i := 1844) rfl
set_option maxRecDepth 100000 in
theorem gs_ow_206 : ∀ w ∈ gs_ow 206, gs_gw w := by
  intro w hw
  have hw : w ∈ ([.initialized (gs_y 206).1.cls, .instanceMethod (gs_y 206).1, .selects (gs_y 206).1.cls (gs_y 206).1 (gs_y 206).1] : List Cond) := hw
  simp only [List.mem_cons, List.not_mem_nil, or_false] at hw
  rcases hw with rfl | rfl | rfl
  · exact ⟨List.mem_of_getElem? (i := 148) rfl, rfl⟩
  · exact ⟨List.mem_of_getElem? (i := 1843) rfl, rfl⟩
  · exact ⟨List.mem_of_getElem? (i := 82) rfl, rfl⟩
set_option maxRecDepth 100000 in
theorem gs_kw_207 : gs_kw 207 ∈ lw_tbl := List.mem_of_getElem? (i := 1887) rfl
set_option maxRecDepth 100000 in
theorem gs_ow_207 : ∀ w ∈ gs_ow 207, gs_gw w := by
  intro w hw
  have hw : w ∈ ([.initialized (gs_y 207).1.cls, .instanceMethod (gs_y 207).1, .selects (gs_y 207).1.cls (gs_y 207).1 (gs_y 207).1] : List Cond) := hw
  simp only [List.mem_cons, List.not_mem_nil, or_false] at hw
  rcases hw with rfl | rfl | rfl
  · exact ⟨List.mem_of_getElem? (i := 148) rfl, rfl⟩
  · exact ⟨List.mem_of_getElem? (i := 1886) rfl, rfl⟩
  · exact ⟨List.mem_of_getElem? (i := 92) rfl, rfl⟩
set_option maxRecDepth 100000 in
theorem gs_kw_208 : gs_kw 208 ∈ lw_tbl := List.mem_of_getElem? (i := 1891) rfl
set_option maxRecDepth 100000 in
theorem gs_ow_208 : ∀ w ∈ gs_ow 208, gs_gw w := by
  intro w hw
  have hw : w ∈ ([.initialized (gs_y 208).1.cls, .instanceMethod (gs_y 208).1, .selects (gs_y 208).1.cls (gs_y 208).1 (gs_y 208).1] : List Cond) := hw
  simp only [List.mem_cons, List.not_mem_nil, or_false] at hw
  rcases hw with rfl | rfl | rfl
  · exact ⟨List.mem_of_getElem? (i := 148) rfl, rfl⟩
  · exact ⟨List.mem_of_getElem? (i := 1890) rfl, rfl⟩
  · exact ⟨List.mem_of_getElem? (i := 93) rfl, rfl⟩
set_option maxRecDepth 100000 in
theorem gs_kw_209 : gs_kw 209 ∈ lw_tbl := List.mem_of_getElem? (i := 1762) rfl
set_option maxRecDepth 100000 in
theorem gs_ow_209 : ∀ w ∈ gs_ow 209, gs_gw w := by
  intro w hw
  have hw : w ∈ ([.initialized (gs_y 209).1.cls, .instanceMethod (gs_y 209).1, .selects (gs_y 209).1.cls (gs_y 209).1 (gs_y 209).1] : List Cond) := hw
  simp only [List.mem_cons, List.not_mem_nil, or_false] at hw
  rcases hw with rfl | rfl | rfl
  · exact ⟨List.mem_of_getElem? (i := 148) rfl, rfl⟩
  · exact ⟨List.mem_of_getElem? (i := 1761) rfl, rfl⟩
  · exact ⟨List.mem_of_getElem? (i := 63) rfl, rfl⟩
set_option maxRecDepth 100000 in
theorem gs_kw_210 : gs_kw 210 ∈ lw_tbl := List.mem_of_getElem? (i := 1734) rfl
set_option maxRecDepth 100000 in
theorem gs_ow_210 : ∀ w ∈ gs_ow 210, gs_gw w := by
  intro w hw
  have hw : w ∈ ([.initialized (gs_y 210).1.cls, .instanceMethod (gs_y 210).1, .selects (gs_y 210).1.cls (gs_y 210).1 (gs_y 210).1] : List Cond) := hw
  simp only [List.mem_cons, List.not_mem_nil, or_false] at hw
  rcases hw with rfl | rfl | rfl
  · exact ⟨List.mem_of_getElem? (i := 148) rfl, rfl⟩
  · exact ⟨List.mem_of_getElem? (i := 1732) rfl, rfl⟩
  · exact ⟨List.mem_of_getElem? (i := 1733) rfl, rfl⟩
set_option maxRecDepth 100000 in
theorem gs_kw_211 : gs_kw 211 ∈ lw_tbl := List.mem_of_getElem? (i := 1895) rfl
set_option maxRecDepth 100000 in
theorem gs_ow_211 : ∀ w ∈ gs_ow 211, gs_gw w := by
  intro w hw
  have hw : w ∈ ([.initialized (gs_y 211).1.cls, .instanceMethod (gs_y 211).1, .selects (gs_y 211).1.cls (gs_y 211).1 (gs_y 211).1] : List Cond) := hw
  simp only [List.mem_cons, List.not_mem_nil, or_false] at hw
  rcases hw with rfl | rfl | rfl
  · exact ⟨List.mem_of_getElem? (i := 148) rfl, rfl⟩
  · exact ⟨List.mem_of_getElem? (i := 1893) rfl, rfl⟩
  · exact ⟨List.mem_of_getElem? (i := 1894) rfl, rfl⟩
set_option maxRecDepth 100000 in
theorem gs_kw_212 : gs_kw 212 ∈ lw_tbl := List.mem_of_getElem? (i := 1899) rfl
set_option maxRecDepth 100000 in
theorem gs_ow_212 : ∀ w ∈ gs_ow 212, gs_gw w := by
  intro w hw
  have hw : w ∈ ([.initialized (gs_y 212).1.cls, .instanceMethod (gs_y 212).1, .selects (gs_y 212).1.cls (gs_y 212).1 (gs_y 212).1] : List Cond) := hw
  simp only [List.mem_cons, List.not_mem_nil, or_false] at hw
  rcases hw with rfl | rfl | rfl
  · exact ⟨List.mem_of_getElem? (i := 148) rfl, rfl⟩
  · exact ⟨List.mem_of_getElem? (i := 1897) rfl, rfl⟩
  · exact ⟨List.mem_of_getElem? (i := 1898) rfl, rfl⟩
set_option maxRecDepth 100000 in
theorem gs_kw_213 : gs_kw 213 ∈ lw_tbl := List.mem_of_getElem? (i := 1879) rfl
set_option maxRecDepth 100000 in
theorem gs_ow_213 : ∀ w ∈ gs_ow 213, gs_gw w := by
  intro w hw
  have hw : w ∈ ([.initialized (gs_y 213).1.cls, .static (gs_y 213).1] : List Cond) := hw
  simp only [List.mem_cons, List.not_mem_nil, or_false] at hw
  rcases hw with rfl | rfl
  · exact ⟨List.mem_of_getElem? (i := 148) rfl, rfl⟩
  · exact ⟨List.mem_of_getElem? (i := 1878) rfl, rfl⟩
set_option maxRecDepth 100000 in
theorem gs_kw_214 : gs_kw 214 ∈ lw_tbl := List.mem_of_getElem? (i := 1868) rfl
set_option maxRecDepth 100000 in
theorem gs_ow_214 : ∀ w ∈ gs_ow 214, gs_gw w := by
  intro w hw
  have hw : w ∈ ([.initialized (gs_y 214).1.cls, .instanceMethod (gs_y 214).1, .selects (gs_y 214).1.cls (gs_y 214).1 (gs_y 214).1] : List Cond) := hw
  simp only [List.mem_cons, List.not_mem_nil, or_false] at hw
  rcases hw with rfl | rfl | rfl
  · exact ⟨List.mem_of_getElem? (i := 148) rfl, rfl⟩
  · exact ⟨List.mem_of_getElem? (i := 1867) rfl, rfl⟩
  · exact ⟨List.mem_of_getElem? (i := 88) rfl, rfl⟩
set_option maxRecDepth 100000 in
theorem gs_kw_215 : gs_kw 215 ∈ lw_tbl := List.mem_of_getElem? (i := 1883) rfl
set_option maxRecDepth 100000 in
theorem gs_ow_215 : ∀ w ∈ gs_ow 215, gs_gw w := by
  intro w hw
  have hw : w ∈ ([.initialized (gs_y 215).1.cls, .instanceMethod (gs_y 215).1, .selects (gs_y 215).1.cls (gs_y 215).1 (gs_y 215).1] : List Cond) := hw
  simp only [List.mem_cons, List.not_mem_nil, or_false] at hw
  rcases hw with rfl | rfl | rfl
  · exact ⟨List.mem_of_getElem? (i := 148) rfl, rfl⟩
  · exact ⟨List.mem_of_getElem? (i := 1882) rfl, rfl⟩
  · exact ⟨List.mem_of_getElem? (i := 91) rfl, rfl⟩
set_option maxRecDepth 100000 in
theorem gs_kw_216 : gs_kw 216 ∈ lw_tbl := List.mem_of_getElem? (i := 1876) rfl
set_option maxRecDepth 100000 in
theorem gs_ow_216 : ∀ w ∈ gs_ow 216, gs_gw w := by
  intro w hw
  have hw : w ∈ ([.initialized (gs_y 216).1.cls, .instanceMethod (gs_y 216).1, .selects (gs_y 216).1.cls (gs_y 216).1 (gs_y 216).1] : List Cond) := hw
  simp only [List.mem_cons, List.not_mem_nil, or_false] at hw
  rcases hw with rfl | rfl | rfl
  · exact ⟨List.mem_of_getElem? (i := 148) rfl, rfl⟩
  · exact ⟨List.mem_of_getElem? (i := 1875) rfl, rfl⟩
  · exact ⟨List.mem_of_getElem? (i := 90) rfl, rfl⟩
set_option maxRecDepth 100000 in
theorem gs_kw_217 : gs_kw 217 ∈ lw_tbl := List.mem_of_getElem? (i := 1864) rfl
set_option maxRecDepth 100000 in
theorem gs_ow_217 : ∀ w ∈ gs_ow 217, gs_gw w := by
  intro w hw
  have hw : w ∈ ([.initialized (gs_y 217).1.cls, .instanceMethod (gs_y 217).1, .selects (gs_y 217).1.cls (gs_y 217).1 (gs_y 217).1] : List Cond) := hw
  simp only [List.mem_cons, List.not_mem_nil, or_false] at hw
  rcases hw with rfl | rfl | rfl
  · exact ⟨List.mem_of_getElem? (i := 148) rfl, rfl⟩
  · exact ⟨List.mem_of_getElem? (i := 1863) rfl, rfl⟩
  · exact ⟨List.mem_of_getElem? (i := 87) rfl, rfl⟩
set_option maxRecDepth 100000 in
theorem gs_kw_218 : gs_kw 218 ∈ lw_tbl := List.mem_of_getElem? (i := 1860) rfl
set_option maxRecDepth 100000 in
theorem gs_ow_218 : ∀ w ∈ gs_ow 218, gs_gw w := by
  intro w hw
  have hw : w ∈ ([.initialized (gs_y 218).1.cls, .instanceMethod (gs_y 218).1, .selects (gs_y 218).1.cls (gs_y 218).1 (gs_y 218).1] : List Cond) := hw
  simp only [List.mem_cons, List.not_mem_nil, or_false] at hw
  rcases hw with rfl | rfl | rfl
  · exact ⟨List.mem_of_getElem? (i := 148) rfl, rfl⟩
  · exact ⟨List.mem_of_getElem? (i := 1859) rfl, rfl⟩
  · exact ⟨List.mem_of_getElem? (i := 86) rfl, rfl⟩
set_option maxRecDepth 100000 in
theorem gs_kw_219 : gs_kw 219 ∈ lw_tbl := List.mem_of_getElem? (i := 1856) rfl
set_option maxRecDepth 100000 in
theorem gs_ow_219 : ∀ w ∈ gs_ow 219, gs_gw w := by
  intro w hw
  have hw : w ∈ ([.initialized (gs_y 219).1.cls, .instanceMethod (gs_y 219).1, .selects (gs_y 219).1.cls (gs_y 219).1 (gs_y 219).1] : List Cond) := hw
  simp only [List.mem_cons, List.not_mem_nil, or_false] at hw
  rcases hw with rfl | rfl | rfl
  · exact ⟨List.mem_of_getElem? (i := 148) rfl, rfl⟩
  · exact ⟨List.mem_of_getElem? (i := 1855) rfl, rfl⟩
  · exact ⟨List.mem_of_getElem? (i := 85) rfl, rfl⟩
set_option maxRecDepth 100000 in
theorem gs_kw_220 : gs_kw 220 ∈ lw_tbl := List.mem_of_getElem? (i := 1872) rfl
set_option maxRecDepth 100000 in
theorem gs_ow_220 : ∀ w ∈ gs_ow 220, gs_gw w := by
  intro w hw
  have hw : w ∈ ([.initialized (gs_y 220).1.cls, .instanceMethod (gs_y 220).1, .selects (gs_y 220).1.cls (gs_y 220).1 (gs_y 220).1] : List Cond) := hw
  simp only [List.mem_cons, List.not_mem_nil, or_false] at hw
  rcases hw with rfl | rfl | rfl
  · exact ⟨List.mem_of_getElem? (i := 148) rfl, rfl⟩
  · exact ⟨List.mem_of_getElem? (i := 1871) rfl, rfl⟩
  · exact ⟨List.mem_of_getElem? (i := 89) rfl, rfl⟩
set_option maxRecDepth 100000 in
theorem gs_kw_221 : gs_kw 221 ∈ lw_tbl := List.mem_of_getElem? (i := 1848) rfl
set_option maxRecDepth 100000 in
theorem gs_ow_221 : ∀ w ∈ gs_ow 221, gs_gw w := by
  intro w hw
  have hw : w ∈ ([.initialized (gs_y 221).1.cls, .instanceMethod (gs_y 221).1, .selects (gs_y 221).1.cls (gs_y 221).1 (gs_y 221).1] : List Cond) := hw
  simp only [List.mem_cons, List.not_mem_nil, or_false] at hw
  rcases hw with rfl | rfl | rfl
  · exact ⟨List.mem_of_getElem? (i := 148) rfl, rfl⟩
  · exact ⟨List.mem_of_getElem? (i := 1847) rfl, rfl⟩
  · exact ⟨List.mem_of_getElem? (i := 83) rfl, rfl⟩
set_option maxRecDepth 100000 in
theorem gs_kw_222 : gs_kw 222 ∈ lw_tbl := List.mem_of_getElem? (i := 1923) rfl
set_option maxRecDepth 100000 in
theorem gs_ow_222 : ∀ w ∈ gs_ow 222, gs_gw w := by
  intro w hw
  have hw : w ∈ ([.initialized (gs_y 222).1.cls, .instanceMethod (gs_y 222).1, .selects (gs_y 222).1.cls (gs_y 222).1 (gs_y 222).1] : List Cond) := hw
  simp only [List.mem_cons, List.not_mem_nil, or_false] at hw
  rcases hw with rfl | rfl | rfl
  · exact ⟨List.mem_of_getElem? (i := 148) rfl, rfl⟩
  · exact ⟨List.mem_of_getElem? (i := 1922) rfl, rfl⟩
  · exact ⟨List.mem_of_getElem? (i := 98) rfl, rfl⟩
set_option maxRecDepth 100000 in
theorem gs_kw_223 : gs_kw 223 ∈ lw_tbl := List.mem_of_getElem? (i := 1932) rfl
set_option maxRecDepth 100000 in
theorem gs_ow_223 : ∀ w ∈ gs_ow 223, gs_gw w := by
  intro w hw
  have hw : w ∈ ([.initialized (gs_y 223).1.cls, .static (gs_y 223).1] : List Cond) := hw
  simp only [List.mem_cons, List.not_mem_nil, or_false] at hw
  rcases hw with rfl | rfl
  · exact ⟨List.mem_of_getElem? (i := 148) rfl, rfl⟩
  · exact ⟨List.mem_of_getElem? (i := 1931) rfl, rfl⟩
set_option maxRecDepth 100000 in
theorem gs_kw_224 : gs_kw 224 ∈ lw_tbl := List.mem_of_getElem? (i := 1929) rfl
set_option maxRecDepth 100000 in
theorem gs_ow_224 : ∀ w ∈ gs_ow 224, gs_gw w := by
  intro w hw
  have hw : w ∈ ([.initialized (gs_y 224).1.cls, .instanceMethod (gs_y 224).1, .selects (gs_y 224).1.cls (gs_y 224).1 (gs_y 224).1] : List Cond) := hw
  simp only [List.mem_cons, List.not_mem_nil, or_false] at hw
  rcases hw with rfl | rfl | rfl
  · exact ⟨List.mem_of_getElem? (i := 148) rfl, rfl⟩
  · exact ⟨List.mem_of_getElem? (i := 1928) rfl, rfl⟩
  · exact ⟨List.mem_of_getElem? (i := 99) rfl, rfl⟩
set_option maxRecDepth 100000 in
theorem gs_kw_225 : gs_kw 225 ∈ lw_tbl := List.mem_of_getElem? (i := 1919) rfl
set_option maxRecDepth 100000 in
theorem gs_ow_225 : ∀ w ∈ gs_ow 225, gs_gw w := by
  intro w hw
  have hw : w ∈ ([.initialized (gs_y 225).1.cls, .instanceMethod (gs_y 225).1, .selects (gs_y 225).1.cls (gs_y 225).1 (gs_y 225).1] : List Cond) := hw
  simp only [List.mem_cons, List.not_mem_nil, or_false] at hw
  rcases hw with rfl | rfl | rfl
  · exact ⟨List.mem_of_getElem? (i := 148) rfl, rfl⟩
  · exact ⟨List.mem_of_getElem? (i := 1918) rfl, rfl⟩
  · exact ⟨List.mem_of_getElem? (i := 97) rfl, rfl⟩
set_option maxRecDepth 100000 in
theorem gs_kw_226 : gs_kw 226 ∈ lw_tbl := List.mem_of_getElem? (i := 1915) rfl
set_option maxRecDepth 100000 in
theorem gs_ow_226 : ∀ w ∈ gs_ow 226, gs_gw w := by
  intro w hw
  have hw : w ∈ ([.initialized (gs_y 226).1.cls, .instanceMethod (gs_y 226).1, .selects (gs_y 226).1.cls (gs_y 226).1 (gs_y 226).1] : List Cond) := hw
  simp only [List.mem_cons, List.not_mem_nil, or_false] at hw
  rcases hw with rfl | rfl | rfl
  · exact ⟨List.mem_of_getElem? (i := 148) rfl, rfl⟩
  · exact ⟨List.mem_of_getElem? (i := 1914) rfl, rfl⟩
  · exact ⟨List.mem_of_getElem? (i := 96) rfl, rfl⟩
set_option maxRecDepth 100000 in
theorem gs_kw_227 : gs_kw 227 ∈ lw_tbl := List.mem_of_getElem? (i := 1911) rfl
set_option maxRecDepth 100000 in
theorem gs_ow_227 : ∀ w ∈ gs_ow 227, gs_gw w := by
  intro w hw
  have hw : w ∈ ([.initialized (gs_y 227).1.cls, .instanceMethod (gs_y 227).1, .selects (gs_y 227).1.cls (gs_y 227).1 (gs_y 227).1] : List Cond) := hw
  simp only [List.mem_cons, List.not_mem_nil, or_false] at hw
  rcases hw with rfl | rfl | rfl
  · exact ⟨List.mem_of_getElem? (i := 148) rfl, rfl⟩
  · exact ⟨List.mem_of_getElem? (i := 1910) rfl, rfl⟩
  · exact ⟨List.mem_of_getElem? (i := 95) rfl, rfl⟩
set_option maxRecDepth 100000 in
theorem gs_kw_228 : gs_kw 228 ∈ lw_tbl := List.mem_of_getElem? (i := 1907) rfl
set_option maxRecDepth 100000 in
theorem gs_ow_228 : ∀ w ∈ gs_ow 228, gs_gw w := by
  intro w hw
  have hw : w ∈ ([.initialized (gs_y 228).1.cls, .instanceMethod (gs_y 228).1, .selects (gs_y 228).1.cls (gs_y 228).1 (gs_y 228).1] : List Cond) := hw
  simp only [List.mem_cons, List.not_mem_nil, or_false] at hw
  rcases hw with rfl | rfl | rfl
  · exact ⟨List.mem_of_getElem? (i := 148) rfl, rfl⟩
  · exact ⟨List.mem_of_getElem? (i := 1906) rfl, rfl⟩
  · exact ⟨List.mem_of_getElem? (i := 94) rfl, rfl⟩
set_option maxRecDepth 100000 in
theorem gs_kw_229 : gs_kw 229 ∈ lw_tbl := List.mem_of_getElem? (i := 2038) rfl
set_option maxRecDepth 100000 in
theorem gs_ow_229 : ∀ w ∈ gs_ow 229, gs_gw w := by
  intro w hw
  have hw : w ∈ ([.initialized (gs_y 229).1.cls, .instanceMethod (gs_y 229).1, .selects (gs_y 229).1.cls (gs_y 229).1 (gs_y 229).1] : List Cond) := hw
  simp only [List.mem_cons, List.not_mem_nil, or_false] at hw
  rcases hw with rfl | rfl | rfl
  · exact ⟨List.mem_of_getElem? (i := 148) rfl, rfl⟩
  · exact ⟨List.mem_of_getElem? (i := 2037) rfl, rfl⟩
  · exact ⟨List.mem_of_getElem? (i := 112) rfl, rfl⟩
set_option maxRecDepth 100000 in
theorem gs_kw_230 : gs_kw 230 ∈ lw_tbl := List.mem_of_getElem? (i := 1903) rfl
set_option maxRecDepth 100000 in
theorem gs_ow_230 : ∀ w ∈ gs_ow 230, gs_gw w := by
  intro w hw
  have hw : w ∈ ([.initialized (gs_y 230).1.cls, .instanceMethod (gs_y 230).1, .selects (gs_y 230).1.cls (gs_y 230).1 (gs_y 230).1] : List Cond) := hw
  simp only [List.mem_cons, List.not_mem_nil, or_false] at hw
  rcases hw with rfl | rfl | rfl
  · exact ⟨List.mem_of_getElem? (i := 148) rfl, rfl⟩
  · exact ⟨List.mem_of_getElem? (i := 1901) rfl, rfl⟩
  · exact ⟨List.mem_of_getElem? (i := 1902) rfl, rfl⟩
set_option maxRecDepth 100000 in
theorem gs_kw_231 : gs_kw 231 ∈ lw_tbl := List.mem_of_getElem? (i := 1941) rfl
set_option maxRecDepth 100000 in
theorem gs_ow_231 : ∀ w ∈ gs_ow 231, gs_gw w := by
  intro w hw
  have hw : w ∈ ([.initialized (gs_y 231).1.cls, .instanceMethod (gs_y 231).1, .selects (gs_y 231).1.cls (gs_y 231).1 (gs_y 231).1] : List Cond) := hw
  simp only [List.mem_cons, List.not_mem_nil, or_false] at hw
  rcases hw with rfl | rfl | rfl
  · exact ⟨List.mem_of_getElem? (i := 148) rfl, rfl⟩
  · exact ⟨List.mem_of_getElem? (i := 1940) rfl, rfl⟩
  · exact ⟨List.mem_of_getElem? (i := 100) rfl, rfl⟩
set_option maxRecDepth 100000 in
theorem gs_kw_232 : gs_kw 232 ∈ lw_tbl := List.mem_of_getElem? (i := 1948) rfl
set_option maxRecDepth 100000 in
theorem gs_ow_232 : ∀ w ∈ gs_ow 232, gs_gw w := by
  intro w hw
  have hw : w ∈ ([.initialized (gs_y 232).1.cls, .static (gs_y 232).1] : List Cond) := hw
  simp only [List.mem_cons, List.not_mem_nil, or_false] at hw
  rcases hw with rfl | rfl
  · exact ⟨List.mem_of_getElem? (i := 148) rfl, rfl⟩
  · exact ⟨List.mem_of_getElem? (i := 1947) rfl, rfl⟩
set_option maxRecDepth 100000 in
theorem gs_kw_233 : gs_kw 233 ∈ lw_tbl := List.mem_of_getElem? (i := 1945) rfl
set_option maxRecDepth 100000 in
theorem gs_ow_233 : ∀ w ∈ gs_ow 233, gs_gw w := by
  intro w hw
  have hw : w ∈ ([.initialized (gs_y 233).1.cls, .static (gs_y 233).1] : List Cond) := hw
  simp only [List.mem_cons, List.not_mem_nil, or_false] at hw
  rcases hw with rfl | rfl
  · exact ⟨List.mem_of_getElem? (i := 148) rfl, rfl⟩
  · exact ⟨List.mem_of_getElem? (i := 1944) rfl, rfl⟩
set_option maxRecDepth 100000 in
theorem gs_kw_234 : gs_kw 234 ∈ lw_tbl := List.mem_of_getElem? (i := 1936) rfl
set_option maxRecDepth 100000 in
theorem gs_ow_234 : ∀ w ∈ gs_ow 234, gs_gw w := by
  intro w hw
  have hw : w ∈ ([.initialized (gs_y 234).1.cls, .instanceMethod (gs_y 234).1, .selects (gs_y 234).1.cls (gs_y 234).1 (gs_y 234).1] : List Cond) := hw
  simp only [List.mem_cons, List.not_mem_nil, or_false] at hw
  rcases hw with rfl | rfl | rfl
  · exact ⟨List.mem_of_getElem? (i := 148) rfl, rfl⟩
  · exact ⟨List.mem_of_getElem? (i := 1934) rfl, rfl⟩
  · exact ⟨List.mem_of_getElem? (i := 1935) rfl, rfl⟩
set_option maxRecDepth 100000 in
theorem gs_kw_235 : gs_kw 235 ∈ lw_tbl := List.mem_of_getElem? (i := 1956) rfl
set_option maxRecDepth 100000 in
theorem gs_ow_235 : ∀ w ∈ gs_ow 235, gs_gw w := by
  intro w hw
  have hw : w ∈ ([.initialized (gs_y 235).1.cls, .instanceMethod (gs_y 235).1, .selects (gs_y 235).1.cls (gs_y 235).1 (gs_y 235).1] : List Cond) := hw
  simp only [List.mem_cons, List.not_mem_nil, or_false] at hw
  rcases hw with rfl | rfl | rfl
  · exact ⟨List.mem_of_getElem? (i := 148) rfl, rfl⟩
  · exact ⟨List.mem_of_getElem? (i := 1955) rfl, rfl⟩
  · exact ⟨List.mem_of_getElem? (i := 101) rfl, rfl⟩
set_option maxRecDepth 100000 in
theorem gs_kw_236 : gs_kw 236 ∈ lw_tbl := List.mem_of_getElem? (i := 1952) rfl
set_option maxRecDepth 100000 in
theorem gs_ow_236 : ∀ w ∈ gs_ow 236, gs_gw w := by
  intro w hw
  have hw : w ∈ ([.initialized (gs_y 236).1.cls, .instanceMethod (gs_y 236).1, .selects (gs_y 236).1.cls (gs_y 236).1 (gs_y 236).1] : List Cond) := hw
  simp only [List.mem_cons, List.not_mem_nil, or_false] at hw
  rcases hw with rfl | rfl | rfl
  · exact ⟨List.mem_of_getElem? (i := 148) rfl, rfl⟩
  · exact ⟨List.mem_of_getElem? (i := 1950) rfl, rfl⟩
  · exact ⟨List.mem_of_getElem? (i := 1951) rfl, rfl⟩
set_option maxRecDepth 100000 in
theorem gs_kw_237 : gs_kw 237 ∈ lw_tbl := List.mem_of_getElem? (i := 1980) rfl
set_option maxRecDepth 100000 in
theorem gs_ow_237 : ∀ w ∈ gs_ow 237, gs_gw w := by
  intro w hw
  have hw : w ∈ ([.initialized (gs_y 237).1.cls, .instanceMethod (gs_y 237).1, .selects (gs_y 237).1.cls (gs_y 237).1 (gs_y 237).1] : List Cond) := hw
  simp only [List.mem_cons, List.not_mem_nil, or_false] at hw
  rcases hw with rfl | rfl | rfl
  · exact ⟨List.mem_of_getElem? (i := 148) rfl, rfl⟩
  · exact ⟨List.mem_of_getElem? (i := 1979) rfl, rfl⟩
  · exact ⟨List.mem_of_getElem? (i := 104) rfl, rfl⟩
set_option maxRecDepth 100000 in
theorem gs_kw_238 : gs_kw 238 ∈ lw_tbl := List.mem_of_getElem? (i := 1968) rfl
set_option maxRecDepth 100000 in
theorem gs_ow_238 : ∀ w ∈ gs_ow 238, gs_gw w := by
  intro w hw
  have hw : w ∈ ([.initialized (gs_y 238).1.cls, .instanceMethod (gs_y 238).1, .selects (gs_y 238).1.cls (gs_y 238).1 (gs_y 238).1] : List Cond) := hw
  simp only [List.mem_cons, List.not_mem_nil, or_false] at hw
  rcases hw with rfl | rfl | rfl
  · exact ⟨List.mem_of_getElem? (i := 148) rfl, rfl⟩
  · exact ⟨List.mem_of_getElem? (i := 1967) rfl, rfl⟩
  · exact ⟨List.mem_of_getElem? (i := 102) rfl, rfl⟩
set_option maxRecDepth 100000 in
theorem gs_kw_239 : gs_kw 239 ∈ lw_tbl := List.mem_of_getElem? (i := 1963) rfl
set_option maxRecDepth 100000 in
theorem gs_ow_239 : ∀ w ∈ gs_ow 239, gs_gw w := by
  intro w hw
  have hw : w ∈ ([.initialized (gs_y 239).1.cls, .static (gs_y 239).1] : List Cond) := hw
  simp only [List.mem_cons, List.not_mem_nil, or_false] at hw
  rcases hw with rfl | rfl
  · exact ⟨List.mem_of_getElem? (i := 148) rfl, rfl⟩
  · exact ⟨List.mem_of_getElem? (i := 1962) rfl, rfl⟩
set_option maxRecDepth 100000 in
theorem gs_kw_240 : gs_kw 240 ∈ lw_tbl := List.mem_of_getElem? (i := 1960) rfl
set_option maxRecDepth 100000 in
theorem gs_ow_240 : ∀ w ∈ gs_ow 240, gs_gw w := by
  intro w hw
  have hw : w ∈ ([.initialized (gs_y 240).1.cls, .instanceMethod (gs_y 240).1, .selects (gs_y 240).1.cls (gs_y 240).1 (gs_y 240).1] : List Cond) := hw
  simp only [List.mem_cons, List.not_mem_nil, or_false] at hw
  rcases hw with rfl | rfl | rfl
  · exact ⟨List.mem_of_getElem? (i := 148) rfl, rfl⟩
  · exact ⟨List.mem_of_getElem? (i := 1958) rfl, rfl⟩
  · exact ⟨List.mem_of_getElem? (i := 1959) rfl, rfl⟩
set_option maxRecDepth 100000 in
theorem gs_kw_241 : gs_kw 241 ∈ lw_tbl := List.mem_of_getElem? (i := 1987) rfl
set_option maxRecDepth 100000 in
theorem gs_ow_241 : ∀ w ∈ gs_ow 241, gs_gw w := by
  intro w hw
  have hw : w ∈ ([.initialized (gs_y 241).1.cls, .static (gs_y 241).1] : List Cond) := hw
  simp only [List.mem_cons, List.not_mem_nil, or_false] at hw
  rcases hw with rfl | rfl
  · exact ⟨List.mem_of_getElem? (i := 148) rfl, rfl⟩
  · exact ⟨List.mem_of_getElem? (i := 1986) rfl, rfl⟩
set_option maxRecDepth 100000 in
theorem gs_kw_242 : gs_kw 242 ∈ lw_tbl := List.mem_of_getElem? (i := 1984) rfl
set_option maxRecDepth 100000 in
theorem gs_ow_242 : ∀ w ∈ gs_ow 242, gs_gw w := by
  intro w hw
  have hw : w ∈ ([.initialized (gs_y 242).1.cls, .instanceMethod (gs_y 242).1, .selects (gs_y 242).1.cls (gs_y 242).1 (gs_y 242).1] : List Cond) := hw
  simp only [List.mem_cons, List.not_mem_nil, or_false] at hw
  rcases hw with rfl | rfl | rfl
  · exact ⟨List.mem_of_getElem? (i := 148) rfl, rfl⟩
  · exact ⟨List.mem_of_getElem? (i := 1983) rfl, rfl⟩
  · exact ⟨List.mem_of_getElem? (i := 105) rfl, rfl⟩
set_option maxRecDepth 100000 in
theorem gs_kw_243 : gs_kw 243 ∈ lw_tbl := List.mem_of_getElem? (i := 1976) rfl
set_option maxRecDepth 100000 in
theorem gs_ow_243 : ∀ w ∈ gs_ow 243, gs_gw w := by
  intro w hw
  have hw : w ∈ ([.initialized (gs_y 243).1.cls, .instanceMethod (gs_y 243).1, .selects (gs_y 243).1.cls (gs_y 243).1 (gs_y 243).1] : List Cond) := hw
  simp only [List.mem_cons, List.not_mem_nil, or_false] at hw
  rcases hw with rfl | rfl | rfl
  · exact ⟨List.mem_of_getElem? (i := 148) rfl, rfl⟩
  · exact ⟨List.mem_of_getElem? (i := 1975) rfl, rfl⟩
  · exact ⟨List.mem_of_getElem? (i := 103) rfl, rfl⟩
set_option maxRecDepth 100000 in
theorem gs_kw_244 : gs_kw 244 ∈ lw_tbl := List.mem_of_getElem? (i := 1972) rfl
set_option maxRecDepth 100000 in
theorem gs_ow_244 : ∀ w ∈ gs_ow 244, gs_gw w := by
  intro w hw
  have hw : w ∈ ([.initialized (gs_y 244).1.cls, .instanceMethod (gs_y 244).1, .selects (gs_y 244).1.cls (gs_y 244).1 (gs_y 244).1] : List Cond) := hw
  simp only [List.mem_cons, List.not_mem_nil, or_false] at hw
  rcases hw with rfl | rfl | rfl
  · exact ⟨List.mem_of_getElem? (i := 148) rfl, rfl⟩
  · exact ⟨List.mem_of_getElem? (i := 1970) rfl, rfl⟩
  · exact ⟨List.mem_of_getElem? (i := 1971) rfl, rfl⟩
set_option maxRecDepth 100000 in
theorem gs_kw_245 : gs_kw 245 ∈ lw_tbl := List.mem_of_getElem? (i := 1995) rfl
set_option maxRecDepth 100000 in
theorem gs_ow_245 : ∀ w ∈ gs_ow 245, gs_gw w := by
  intro w hw
  have hw : w ∈ ([.initialized (gs_y 245).1.cls, .instanceMethod (gs_y 245).1, .selects (gs_y 245).1.cls (gs_y 245).1 (gs_y 245).1] : List Cond) := hw
  simp only [List.mem_cons, List.not_mem_nil, or_false] at hw
  rcases hw with rfl | rfl | rfl
  · exact ⟨List.mem_of_getElem? (i := 148) rfl, rfl⟩
  · exact ⟨List.mem_of_getElem? (i := 1994) rfl, rfl⟩
  · exact ⟨List.mem_of_getElem? (i := 106) rfl, rfl⟩
set_option maxRecDepth 100000 in
theorem gs_kw_246 : gs_kw 246 ∈ lw_tbl := List.mem_of_getElem? (i := 1991) rfl
set_option maxRecDepth 100000 in
theorem gs_ow_246 : ∀ w ∈ gs_ow 246, gs_gw w := by
  intro w hw
  have hw : w ∈ ([.initialized (gs_y 246).1.cls, .instanceMethod (gs_y 246).1, .selects (gs_y 246).1.cls (gs_y 246).1 (gs_y 246).1] : List Cond) := hw
  simp only [List.mem_cons, List.not_mem_nil, or_false] at hw
  rcases hw with rfl | rfl | rfl
  · exact ⟨List.mem_of_getElem? (i := 148) rfl, rfl⟩
  · exact ⟨List.mem_of_getElem? (i := 1989) rfl, rfl⟩
  · exact ⟨List.mem_of_getElem? (i := 1990) rfl, rfl⟩
set_option maxRecDepth 100000 in
theorem gs_kw_247 : gs_kw 247 ∈ lw_tbl := List.mem_of_getElem? (i := 2003) rfl
set_option maxRecDepth 100000 in
theorem gs_ow_247 : ∀ w ∈ gs_ow 247, gs_gw w := by
  intro w hw
  have hw : w ∈ ([.initialized (gs_y 247).1.cls, .instanceMethod (gs_y 247).1, .selects (gs_y 247).1.cls (gs_y 247).1 (gs_y 247).1] : List Cond) := hw
  simp only [List.mem_cons, List.not_mem_nil, or_false] at hw
  rcases hw with rfl | rfl | rfl
  · exact ⟨List.mem_of_getElem? (i := 148) rfl, rfl⟩
  · exact ⟨List.mem_of_getElem? (i := 2002) rfl, rfl⟩
  · exact ⟨List.mem_of_getElem? (i := 107) rfl, rfl⟩
set_option maxRecDepth 100000 in
theorem gs_kw_248 : gs_kw 248 ∈ lw_tbl := List.mem_of_getElem? (i := 1999) rfl
set_option maxRecDepth 100000 in
theorem gs_ow_248 : ∀ w ∈ gs_ow 248, gs_gw w := by
  intro w hw
  have hw : w ∈ ([.initialized (gs_y 248).1.cls, .instanceMethod (gs_y 248).1, .selects (gs_y 248).1.cls (gs_y 248).1 (gs_y 248).1] : List Cond) := hw
  simp only [List.mem_cons, List.not_mem_nil, or_false] at hw
  rcases hw with rfl | rfl | rfl
  · exact ⟨List.mem_of_getElem? (i := 148) rfl, rfl⟩
  · exact ⟨List.mem_of_getElem? (i := 1997) rfl, rfl⟩
  · exact ⟨List.mem_of_getElem? (i := 1998) rfl, rfl⟩
set_option maxRecDepth 100000 in
theorem gs_kw_249 : gs_kw 249 ∈ lw_tbl := List.mem_of_getElem? (i := 2010) rfl
set_option maxRecDepth 100000 in
theorem gs_ow_249 : ∀ w ∈ gs_ow 249, gs_gw w := by
  intro w hw
  have hw : w ∈ ([.initialized (gs_y 249).1.cls, .static (gs_y 249).1] : List Cond) := hw
  simp only [List.mem_cons, List.not_mem_nil, or_false] at hw
  rcases hw with rfl | rfl
  · exact ⟨List.mem_of_getElem? (i := 148) rfl, rfl⟩
  · exact ⟨List.mem_of_getElem? (i := 2009) rfl, rfl⟩
set_option maxRecDepth 100000 in
theorem gs_kw_250 : gs_kw 250 ∈ lw_tbl := List.mem_of_getElem? (i := 2007) rfl
set_option maxRecDepth 100000 in
theorem gs_ow_250 : ∀ w ∈ gs_ow 250, gs_gw w := by
  intro w hw
  have hw : w ∈ ([.initialized (gs_y 250).1.cls, .instanceMethod (gs_y 250).1, .selects (gs_y 250).1.cls (gs_y 250).1 (gs_y 250).1] : List Cond) := hw
  simp only [List.mem_cons, List.not_mem_nil, or_false] at hw
  rcases hw with rfl | rfl | rfl
  · exact ⟨List.mem_of_getElem? (i := 148) rfl, rfl⟩
  · exact ⟨List.mem_of_getElem? (i := 2005) rfl, rfl⟩
  · exact ⟨List.mem_of_getElem? (i := 2006) rfl, rfl⟩
set_option maxRecDepth 100000 in
theorem gs_kw_251 : gs_kw 251 ∈ lw_tbl := List.mem_of_getElem? (i := 2018) rfl
set_option maxRecDepth 100000 in
theorem gs_ow_251 : ∀ w ∈ gs_ow 251, gs_gw w := by
  intro w hw
  have hw : w ∈ ([.initialized (gs_y 251).1.cls, .instanceMethod (gs_y 251).1, .selects (gs_y 251).1.cls (gs_y 251).1 (gs_y 251).1] : List Cond) := hw
  simp only [List.mem_cons, List.not_mem_nil, or_false] at hw
  rcases hw with rfl | rfl | rfl
  · exact ⟨List.mem_of_getElem? (i := 148) rfl, rfl⟩
  · exact ⟨List.mem_of_getElem? (i := 2017) rfl, rfl⟩
  · exact ⟨List.mem_of_getElem? (i := 108) rfl, rfl⟩
set_option maxRecDepth 100000 in
theorem gs_kw_252 : gs_kw 252 ∈ lw_tbl := List.mem_of_getElem? (i := 2026) rfl
set_option maxRecDepth 100000 in
theorem gs_ow_252 : ∀ w ∈ gs_ow 252, gs_gw w := by
  intro w hw
  have hw : w ∈ ([.initialized (gs_y 252).1.cls, .instanceMethod (gs_y 252).1, .selects (gs_y 252).1.cls (gs_y 252).1 (gs_y 252).1] : List Cond) := hw
  simp only [List.mem_cons, List.not_mem_nil, or_false] at hw
  rcases hw with rfl | rfl | rfl
  · exact ⟨List.mem_of_getElem? (i := 148) rfl, rfl⟩
  · exact ⟨List.mem_of_getElem? (i := 2025) rfl, rfl⟩
  · exact ⟨List.mem_of_getElem? (i := 110) rfl, rfl⟩
set_option maxRecDepth 100000 in
theorem gs_kw_253 : gs_kw 253 ∈ lw_tbl := List.mem_of_getElem? (i := 2022) rfl
set_option maxRecDepth 100000 in
theorem gs_ow_253 : ∀ w ∈ gs_ow 253, gs_gw w := by
  intro w hw
  have hw : w ∈ ([.initialized (gs_y 253).1.cls, .instanceMethod (gs_y 253).1, .selects (gs_y 253).1.cls (gs_y 253).1 (gs_y 253).1] : List Cond) := hw
  simp only [List.mem_cons, List.not_mem_nil, or_false] at hw
  rcases hw with rfl | rfl | rfl
  · exact ⟨List.mem_of_getElem? (i := 148) rfl, rfl⟩
  · exact ⟨List.mem_of_getElem? (i := 2021) rfl, rfl⟩
  · exact ⟨List.mem_of_getElem? (i := 109) rfl, rfl⟩
set_option maxRecDepth 100000 in
theorem gs_kw_254 : gs_kw 254 ∈ lw_tbl := List.mem_of_getElem? (i := 2030) rfl
set_option maxRecDepth 100000 in
theorem gs_ow_254 : ∀ w ∈ gs_ow 254, gs_gw w := by
  intro w hw
  have hw : w ∈ ([.initialized (gs_y 254).1.cls, .instanceMethod (gs_y 254).1, .selects (gs_y 254).1.cls (gs_y 254).1 (gs_y 254).1] : List Cond) := hw
  simp only [List.mem_cons, List.not_mem_nil, or_false] at hw
  rcases hw with rfl | rfl | rfl
  · exact ⟨List.mem_of_getElem? (i := 148) rfl, rfl⟩
  · exact ⟨List.mem_of_getElem? (i := 2029) rfl, rfl⟩
  · exact ⟨List.mem_of_getElem? (i := 111) rfl, rfl⟩
set_option maxRecDepth 100000 in
theorem gs_kw_255 : gs_kw 255 ∈ lw_tbl := List.mem_of_getElem? (i := 2014) rfl
set_option maxRecDepth 100000 in
theorem gs_ow_255 : ∀ w ∈ gs_ow 255, gs_gw w := by
  intro w hw
  have hw : w ∈ ([.initialized (gs_y 255).1.cls, .instanceMethod (gs_y 255).1, .selects (gs_y 255).1.cls (gs_y 255).1 (gs_y 255).1] : List Cond) := hw
  simp only [List.mem_cons, List.not_mem_nil, or_false] at hw
  rcases hw with rfl | rfl | rfl
  · exact ⟨List.mem_of_getElem? (i := 148) rfl, rfl⟩
  · exact ⟨List.mem_of_getElem? (i := 2012) rfl, rfl⟩
  · exact ⟨List.mem_of_getElem? (i := 2013) rfl, rfl⟩
set_option maxRecDepth 100000 in
theorem gs_kw_256 : gs_kw 256 ∈ lw_tbl := List.mem_of_getElem? (i := 2071) rfl
set_option maxRecDepth 100000 in
theorem gs_ow_256 : ∀ w ∈ gs_ow 256, gs_gw w := by
  intro w hw
  have hw : w ∈ ([.initialized (gs_y 256).1.cls, .static (gs_y 256).1] : List Cond) := hw
  simp only [List.mem_cons, List.not_mem_nil, or_false] at hw
  rcases hw with rfl | rfl
  · exact ⟨List.mem_of_getElem? (i := 148) rfl, rfl⟩
  · exact ⟨List.mem_of_getElem? (i := 2070) rfl, rfl⟩
set_option maxRecDepth 100000 in
theorem gs_kw_257 : gs_kw 257 ∈ lw_tbl := List.mem_of_getElem? (i := 2068) rfl
set_option maxRecDepth 100000 in
theorem gs_ow_257 : ∀ w ∈ gs_ow 257, gs_gw w := by
  intro w hw
  have hw : w ∈ ([.initialized (gs_y 257).1.cls, .static (gs_y 257).1] : List Cond) := hw
  simp only [List.mem_cons, List.not_mem_nil, or_false] at hw
  rcases hw with rfl | rfl
  · exact ⟨List.mem_of_getElem? (i := 148) rfl, rfl⟩
  · exact ⟨List.mem_of_getElem? (i := 2067) rfl, rfl⟩
set_option maxRecDepth 100000 in
theorem gs_kw_258 : gs_kw 258 ∈ lw_tbl := List.mem_of_getElem? (i := 2053) rfl
set_option maxRecDepth 100000 in
theorem gs_ow_258 : ∀ w ∈ gs_ow 258, gs_gw w := by
  intro w hw
  have hw : w ∈ ([.initialized (gs_y 258).1.cls, .static (gs_y 258).1] : List Cond) := hw
  simp only [List.mem_cons, List.not_mem_nil, or_false] at hw
  rcases hw with rfl | rfl
  · exact ⟨List.mem_of_getElem? (i := 148) rfl, rfl⟩
  · exact ⟨List.mem_of_getElem? (i := 2052) rfl, rfl⟩
set_option maxRecDepth 100000 in
theorem gs_kw_259 : gs_kw 259 ∈ lw_tbl := List.mem_of_getElem? (i := 2050) rfl
set_option maxRecDepth 100000 in
theorem gs_ow_259 : ∀ w ∈ gs_ow 259, gs_gw w := by
  intro w hw
  have hw : w ∈ ([.initialized (gs_y 259).1.cls, .static (gs_y 259).1] : List Cond) := hw
  simp only [List.mem_cons, List.not_mem_nil, or_false] at hw
  rcases hw with rfl | rfl
  · exact ⟨List.mem_of_getElem? (i := 148) rfl, rfl⟩
  · exact ⟨List.mem_of_getElem? (i := 2049) rfl, rfl⟩
set_option maxRecDepth 100000 in
theorem gs_kw_260 : gs_kw 260 ∈ lw_tbl := List.mem_of_getElem? (i := 2047) rfl
set_option maxRecDepth 100000 in
theorem gs_ow_260 : ∀ w ∈ gs_ow 260, gs_gw w := by
  intro w hw
  have hw : w ∈ ([.initialized (gs_y 260).1.cls, .instanceMethod (gs_y 260).1, .selects (gs_y 260).1.cls (gs_y 260).1 (gs_y 260).1] : List Cond) := hw
  simp only [List.mem_cons, List.not_mem_nil, or_false] at hw
  rcases hw with rfl | rfl | rfl
  · exact ⟨List.mem_of_getElem? (i := 148) rfl, rfl⟩
  · exact ⟨List.mem_of_getElem? (i := 2046) rfl, rfl⟩
  · exact ⟨List.mem_of_getElem? (i := 114) rfl, rfl⟩
set_option maxRecDepth 100000 in
theorem gs_kw_261 : gs_kw 261 ∈ lw_tbl := List.mem_of_getElem? (i := 2043) rfl
set_option maxRecDepth 100000 in
theorem gs_ow_261 : ∀ w ∈ gs_ow 261, gs_gw w := by
  intro w hw
  have hw : w ∈ ([.initialized (gs_y 261).1.cls, .instanceMethod (gs_y 261).1, .selects (gs_y 261).1.cls (gs_y 261).1 (gs_y 261).1] : List Cond) := hw
  simp only [List.mem_cons, List.not_mem_nil, or_false] at hw
  rcases hw with rfl | rfl | rfl
  · exact ⟨List.mem_of_getElem? (i := 148) rfl, rfl⟩
  · exact ⟨List.mem_of_getElem? (i := 2042) rfl, rfl⟩
  · exact ⟨List.mem_of_getElem? (i := 113) rfl, rfl⟩
set_option maxRecDepth 100000 in
theorem gs_kw_262 : gs_kw 262 ∈ lw_tbl := List.mem_of_getElem? (i := 2034) rfl
set_option maxRecDepth 100000 in
theorem gs_ow_262 : ∀ w ∈ gs_ow 262, gs_gw w := by
  intro w hw
  have hw : w ∈ ([.initialized (gs_y 262).1.cls, .instanceMethod (gs_y 262).1, .selects (gs_y 262).1.cls (gs_y 262).1 (gs_y 262).1] : List Cond) := hw
  simp only [List.mem_cons, List.not_mem_nil, or_false] at hw
  rcases hw with rfl | rfl | rfl
  · exact ⟨List.mem_of_getElem? (i := 148) rfl, rfl⟩
  · exact ⟨List.mem_of_getElem? (i := 2032) rfl, rfl⟩
  · exact ⟨List.mem_of_getElem? (i := 2033) rfl, rfl⟩
set_option maxRecDepth 100000 in
theorem gs_kw_263 : gs_kw 263 ∈ lw_tbl := List.mem_of_getElem? (i := 2065) rfl
set_option maxRecDepth 100000 in
theorem gs_ow_263 : ∀ w ∈ gs_ow 263, gs_gw w := by
  intro w hw
  have hw : w ∈ ([.initialized (gs_y 263).1.cls, .instanceMethod (gs_y 263).1, .selects (gs_y 263).1.cls (gs_y 263).1 (gs_y 263).1] : List Cond) := hw
  simp only [List.mem_cons, List.not_mem_nil, or_false] at hw
  rcases hw with rfl | rfl | rfl
  · exact ⟨List.mem_of_getElem? (i := 148) rfl, rfl⟩
  · exact ⟨List.mem_of_getElem? (i := 2064) rfl, rfl⟩
  · exact ⟨List.mem_of_getElem? (i := 116) rfl, rfl⟩
set_option maxRecDepth 100000 in
theorem gs_kw_264 : gs_kw 264 ∈ lw_tbl := List.mem_of_getElem? (i := 2061) rfl
set_option maxRecDepth 100000 in
theorem gs_ow_264 : ∀ w ∈ gs_ow 264, gs_gw w := by
  intro w hw
  have hw : w ∈ ([.initialized (gs_y 264).1.cls, .instanceMethod (gs_y 264).1, .selects (gs_y 264).1.cls (gs_y 264).1 (gs_y 264).1] : List Cond) := hw
  simp only [List.mem_cons, List.not_mem_nil, or_false] at hw
  rcases hw with rfl | rfl | rfl
  · exact ⟨List.mem_of_getElem? (i := 148) rfl, rfl⟩
  · exact ⟨List.mem_of_getElem? (i := 2060) rfl, rfl⟩
  · exact ⟨List.mem_of_getElem? (i := 115) rfl, rfl⟩
set_option maxRecDepth 100000 in
theorem gs_kw_265 : gs_kw 265 ∈ lw_tbl := List.mem_of_getElem? (i := 2057) rfl
set_option maxRecDepth 100000 in
theorem gs_ow_265 : ∀ w ∈ gs_ow 265, gs_gw w := by
  intro w hw
  have hw : w ∈ ([.initialized (gs_y 265).1.cls, .instanceMethod (gs_y 265).1, .selects (gs_y 265).1.cls (gs_y 265).1 (gs_y 265).1] : List Cond) := hw
  simp only [List.mem_cons, List.not_mem_nil, or_false] at hw
  rcases hw with rfl | rfl | rfl
  · exact ⟨List.mem_of_getElem? (i := 148) rfl, rfl⟩
  · exact ⟨List.mem_of_getElem? (i := 2055) rfl, rfl⟩
  · exact ⟨List.mem_of_getElem? (i := 2056) rfl, rfl⟩
set_option maxRecDepth 100000 in
theorem gs_kw_266 : gs_kw 266 ∈ lw_tbl := List.mem_of_getElem? (i := 2078) rfl
set_option maxRecDepth 100000 in
theorem gs_ow_266 : ∀ w ∈ gs_ow 266, gs_gw w := by
  intro w hw
  have hw : w ∈ ([.initialized (gs_y 266).1.cls, .instanceMethod (gs_y 266).1, .selects (gs_y 266).1.cls (gs_y 266).1 (gs_y 266).1] : List Cond) := hw
  simp only [List.mem_cons, List.not_mem_nil, or_false] at hw
  rcases hw with rfl | rfl | rfl
  · exact ⟨List.mem_of_getElem? (i := 148) rfl, rfl⟩
  · exact ⟨List.mem_of_getElem? (i := 2076) rfl, rfl⟩
  · exact ⟨List.mem_of_getElem? (i := 2077) rfl, rfl⟩
set_option maxRecDepth 100000 in
theorem gs_kw_267 : gs_kw 267 ∈ lw_tbl := List.mem_of_getElem? (i := 2098) rfl
set_option maxRecDepth 100000 in
theorem gs_ow_267 : ∀ w ∈ gs_ow 267, gs_gw w := by
  intro w hw
  have hw : w ∈ ([.initialized (gs_y 267).1.cls, .instanceMethod (gs_y 267).1, .selects (gs_y 267).1.cls (gs_y 267).1 (gs_y 267).1] : List Cond) := hw
  simp only [List.mem_cons, List.not_mem_nil, or_false] at hw
  rcases hw with rfl | rfl | rfl
  · exact ⟨List.mem_of_getElem? (i := 148) rfl, rfl⟩
  · exact ⟨List.mem_of_getElem? (i := 2097) rfl, rfl⟩
  · exact ⟨List.mem_of_getElem? (i := 120) rfl, rfl⟩
set_option maxRecDepth 100000 in
theorem gs_kw_268 : gs_kw 268 ∈ lw_tbl := List.mem_of_getElem? (i := 2094) rfl
set_option maxRecDepth 100000 in
theorem gs_ow_268 : ∀ w ∈ gs_ow 268, gs_gw w := by
  intro w hw
  have hw : w ∈ ([.initialized (gs_y 268).1.cls, .instanceMethod (gs_y 268).1, .selects (gs_y 268).1.cls (gs_y 268).1 (gs_y 268).1] : List Cond) := hw
  simp only [List.mem_cons, List.not_mem_nil, or_false] at hw
  rcases hw with rfl | rfl | rfl
  · exact ⟨List.mem_of_getElem? (i := 148) rfl, rfl⟩
  · exact ⟨List.mem_of_getElem? (i := 2093) rfl, rfl⟩
  · exact ⟨List.mem_of_getElem? (i := 119) rfl, rfl⟩
set_option maxRecDepth 100000 in
theorem gs_kw_269 : gs_kw 269 ∈ lw_tbl := List.mem_of_getElem? (i := 2090) rfl
set_option maxRecDepth 100000 in
theorem gs_ow_269 : ∀ w ∈ gs_ow 269, gs_gw w := by
  intro w hw
  have hw : w ∈ ([.initialized (gs_y 269).1.cls, .instanceMethod (gs_y 269).1, .selects (gs_y 269).1.cls (gs_y 269).1 (gs_y 269).1] : List Cond) := hw
  simp only [List.mem_cons, List.not_mem_nil, or_false] at hw
  rcases hw with rfl | rfl | rfl
  · exact ⟨List.mem_of_getElem? (i := 148) rfl, rfl⟩
  · exact ⟨List.mem_of_getElem? (i := 2089) rfl, rfl⟩
  · exact ⟨List.mem_of_getElem? (i := 118) rfl, rfl⟩
set_option maxRecDepth 100000 in
theorem gs_kw_270 : gs_kw 270 ∈ lw_tbl := List.mem_of_getElem? (i := 2086) rfl
set_option maxRecDepth 100000 in
theorem gs_ow_270 : ∀ w ∈ gs_ow 270, gs_gw w := by
  intro w hw
  have hw : w ∈ ([.initialized (gs_y 270).1.cls, .instanceMethod (gs_y 270).1, .selects (gs_y 270).1.cls (gs_y 270).1 (gs_y 270).1] : List Cond) := hw
  simp only [List.mem_cons, List.not_mem_nil, or_false] at hw
  rcases hw with rfl | rfl | rfl
  · exact ⟨List.mem_of_getElem? (i := 148) rfl, rfl⟩
  · exact ⟨List.mem_of_getElem? (i := 2085) rfl, rfl⟩
  · exact ⟨List.mem_of_getElem? (i := 117) rfl, rfl⟩
set_option maxRecDepth 100000 in
theorem gs_kw_271 : gs_kw 271 ∈ lw_tbl := List.mem_of_getElem? (i := 2104) rfl
set_option maxRecDepth 100000 in
theorem gs_ow_271 : ∀ w ∈ gs_ow 271, gs_gw w := by
  intro w hw
  have hw : w ∈ ([.initialized (gs_y 271).1.cls, .instanceMethod (gs_y 271).1, .selects (gs_y 271).1.cls (gs_y 271).1 (gs_y 271).1] : List Cond) := hw
  simp only [List.mem_cons, List.not_mem_nil, or_false] at hw
  rcases hw with rfl | rfl | rfl
  · exact ⟨List.mem_of_getElem? (i := 148) rfl, rfl⟩
  · exact ⟨List.mem_of_getElem? (i := 2103) rfl, rfl⟩
  · exact ⟨List.mem_of_getElem? (i := 121) rfl, rfl⟩
set_option maxRecDepth 100000 in
theorem gs_kw_272 : gs_kw 272 ∈ lw_tbl := List.mem_of_getElem? (i := 2082) rfl
set_option maxRecDepth 100000 in
theorem gs_ow_272 : ∀ w ∈ gs_ow 272, gs_gw w := by
  intro w hw
  have hw : w ∈ ([.initialized (gs_y 272).1.cls, .instanceMethod (gs_y 272).1, .selects (gs_y 272).1.cls (gs_y 272).1 (gs_y 272).1] : List Cond) := hw
  simp only [List.mem_cons, List.not_mem_nil, or_false] at hw
  rcases hw with rfl | rfl | rfl
  · exact ⟨List.mem_of_getElem? (i := 148) rfl, rfl⟩
  · exact ⟨List.mem_of_getElem? (i := 2080) rfl, rfl⟩
  · exact ⟨List.mem_of_getElem? (i := 2081) rfl, rfl⟩
set_option maxRecDepth 100000 in
theorem gs_kw_273 : gs_kw 273 ∈ lw_tbl := List.mem_of_getElem? (i := 2108) rfl
set_option maxRecDepth 100000 in
theorem gs_ow_273 : ∀ w ∈ gs_ow 273, gs_gw w := by
  intro w hw
  have hw : w ∈ ([.initialized (gs_y 273).1.cls, .instanceMethod (gs_y 273).1, .selects (gs_y 273).1.cls (gs_y 273).1 (gs_y 273).1] : List Cond) := hw
  simp only [List.mem_cons, List.not_mem_nil, or_false] at hw
  rcases hw with rfl | rfl | rfl
  · exact ⟨List.mem_of_getElem? (i := 148) rfl, rfl⟩
  · exact ⟨List.mem_of_getElem? (i := 2106) rfl, rfl⟩
  · exact ⟨List.mem_of_getElem? (i := 2107) rfl, rfl⟩
set_option maxRecDepth 100000 in
theorem gs_kw_274 : gs_kw 274 ∈ lw_tbl := List.mem_of_getElem? (i := 2116) rfl
set_option maxRecDepth 100000 in
theorem gs_ow_274 : ∀ w ∈ gs_ow 274, gs_gw w := by
  intro w hw
  have hw : w ∈ ([.initialized (gs_y 274).1.cls, .instanceMethod (gs_y 274).1, .selects (gs_y 274).1.cls (gs_y 274).1 (gs_y 274).1] : List Cond) := hw
  simp only [List.mem_cons, List.not_mem_nil, or_false] at hw
  rcases hw with rfl | rfl | rfl
  · exact ⟨List.mem_of_getElem? (i := 148) rfl, rfl⟩
  · exact ⟨List.mem_of_getElem? (i := 2115) rfl, rfl⟩
  · exact ⟨List.mem_of_getElem? (i := 122) rfl, rfl⟩
set_option maxRecDepth 100000 in
theorem gs_kw_275 : gs_kw 275 ∈ lw_tbl := List.mem_of_getElem? (i := 2112) rfl
set_option maxRecDepth 100000 in
theorem gs_ow_275 : ∀ w ∈ gs_ow 275, gs_gw w := by
  intro w hw
  have hw : w ∈ ([.initialized (gs_y 275).1.cls, .instanceMethod (gs_y 275).1, .selects (gs_y 275).1.cls (gs_y 275).1 (gs_y 275).1] : List Cond) := hw
  simp only [List.mem_cons, List.not_mem_nil, or_false] at hw
  rcases hw with rfl | rfl | rfl
  · exact ⟨List.mem_of_getElem? (i := 148) rfl, rfl⟩
  · exact ⟨List.mem_of_getElem? (i := 2110) rfl, rfl⟩
  · exact ⟨List.mem_of_getElem? (i := 2111) rfl, rfl⟩
set_option maxRecDepth 100000 in
theorem gs_kw_276 : gs_kw 276 ∈ lw_tbl := List.mem_of_getElem? (i := 2120) rfl
set_option maxRecDepth 100000 in
theorem gs_ow_276 : ∀ w ∈ gs_ow 276, gs_gw w := by
  intro w hw
  have hw : w ∈ ([.initialized (gs_y 276).1.cls, .instanceMethod (gs_y 276).1, .selects (gs_y 276).1.cls (gs_y 276).1 (gs_y 276).1] : List Cond) := hw
  simp only [List.mem_cons, List.not_mem_nil, or_false] at hw
  rcases hw with rfl | rfl | rfl
  · exact ⟨List.mem_of_getElem? (i := 148) rfl, rfl⟩
  · exact ⟨List.mem_of_getElem? (i := 2118) rfl, rfl⟩
  · exact ⟨List.mem_of_getElem? (i := 2119) rfl, rfl⟩
set_option maxRecDepth 100000 in
theorem gs_kw_277 : gs_kw 277 ∈ lw_tbl := List.mem_of_getElem? (i := 2128) rfl
set_option maxRecDepth 100000 in
theorem gs_ow_277 : ∀ w ∈ gs_ow 277, gs_gw w := by
  intro w hw
  have hw : w ∈ ([.initialized (gs_y 277).1.cls, .instanceMethod (gs_y 277).1, .selects (gs_y 277).1.cls (gs_y 277).1 (gs_y 277).1] : List Cond) := hw
  simp only [List.mem_cons, List.not_mem_nil, or_false] at hw
  rcases hw with rfl | rfl | rfl
  · exact ⟨List.mem_of_getElem? (i := 148) rfl, rfl⟩
  · exact ⟨List.mem_of_getElem? (i := 2127) rfl, rfl⟩
  · exact ⟨List.mem_of_getElem? (i := 123) rfl, rfl⟩
set_option maxRecDepth 100000 in
theorem gs_kw_278 : gs_kw 278 ∈ lw_tbl := List.mem_of_getElem? (i := 2124) rfl
set_option maxRecDepth 100000 in
theorem gs_ow_278 : ∀ w ∈ gs_ow 278, gs_gw w := by
  intro w hw
  have hw : w ∈ ([.initialized (gs_y 278).1.cls, .instanceMethod (gs_y 278).1, .selects (gs_y 278).1.cls (gs_y 278).1 (gs_y 278).1] : List Cond) := hw
  simp only [List.mem_cons, List.not_mem_nil, or_false] at hw
  rcases hw with rfl | rfl | rfl
  · exact ⟨List.mem_of_getElem? (i := 148) rfl, rfl⟩
  · exact ⟨List.mem_of_getElem? (i := 2122) rfl, rfl⟩
  · exact ⟨List.mem_of_getElem? (i := 2123) rfl, rfl⟩
set_option maxRecDepth 100000 in
theorem gs_kw_279 : gs_kw 279 ∈ lw_tbl := List.mem_of_getElem? (i := 2132) rfl
set_option maxRecDepth 100000 in
theorem gs_ow_279 : ∀ w ∈ gs_ow 279, gs_gw w := by
  intro w hw
  have hw : w ∈ ([.initialized (gs_y 279).1.cls, .instanceMethod (gs_y 279).1, .selects (gs_y 279).1.cls (gs_y 279).1 (gs_y 279).1] : List Cond) := hw
  simp only [List.mem_cons, List.not_mem_nil, or_false] at hw
  rcases hw with rfl | rfl | rfl
  · exact ⟨List.mem_of_getElem? (i := 148) rfl, rfl⟩
  · exact ⟨List.mem_of_getElem? (i := 2130) rfl, rfl⟩
  · exact ⟨List.mem_of_getElem? (i := 2131) rfl, rfl⟩
set_option maxRecDepth 100000 in
theorem gs_kw_280 : gs_kw 280 ∈ lw_tbl := List.mem_of_getElem? (i := 2140) rfl
set_option maxRecDepth 100000 in
theorem gs_ow_280 : ∀ w ∈ gs_ow 280, gs_gw w := by
  intro w hw
  have hw : w ∈ ([.initialized (gs_y 280).1.cls, .instanceMethod (gs_y 280).1, .selects (gs_y 280).1.cls (gs_y 280).1 (gs_y 280).1] : List Cond) := hw
  simp only [List.mem_cons, List.not_mem_nil, or_false] at hw
  rcases hw with rfl | rfl | rfl
  · exact ⟨List.mem_of_getElem? (i := 148) rfl, rfl⟩
  · exact ⟨List.mem_of_getElem? (i := 2139) rfl, rfl⟩
  · exact ⟨List.mem_of_getElem? (i := 124) rfl, rfl⟩
set_option maxRecDepth 100000 in
theorem gs_kw_281 : gs_kw 281 ∈ lw_tbl := List.mem_of_getElem? (i := 2136) rfl
set_option maxRecDepth 100000 in
theorem gs_ow_281 : ∀ w ∈ gs_ow 281, gs_gw w := by
  intro w hw
  have hw : w ∈ ([.initialized (gs_y 281).1.cls, .instanceMethod (gs_y 281).1, .selects (gs_y 281).1.cls (gs_y 281).1 (gs_y 281).1] : List Cond) := hw
  simp only [List.mem_cons, List.not_mem_nil, or_false] at hw
  rcases hw with rfl | rfl | rfl
  · exact ⟨List.mem_of_getElem? (i := 148) rfl, rfl⟩
  · exact ⟨List.mem_of_getElem? (i := 2134) rfl, rfl⟩
  · exact ⟨List.mem_of_getElem? (i := 2135) rfl, rfl⟩
set_option maxRecDepth 100000 in
theorem gs_kw_282 : gs_kw 282 ∈ lw_tbl := List.mem_of_getElem? (i := 2148) rfl
set_option maxRecDepth 100000 in
theorem gs_ow_282 : ∀ w ∈ gs_ow 282, gs_gw w := by
  intro w hw
  have hw : w ∈ ([.initialized (gs_y 282).1.cls, .instanceMethod (gs_y 282).1, .selects (gs_y 282).1.cls (gs_y 282).1 (gs_y 282).1] : List Cond) := hw
  simp only [List.mem_cons, List.not_mem_nil, or_false] at hw
  rcases hw with rfl | rfl | rfl
  · exact ⟨List.mem_of_getElem? (i := 148) rfl, rfl⟩
  · exact ⟨List.mem_of_getElem? (i := 2147) rfl, rfl⟩
  · exact ⟨List.mem_of_getElem? (i := 125) rfl, rfl⟩
set_option maxRecDepth 100000 in
theorem gs_kw_283 : gs_kw 283 ∈ lw_tbl := List.mem_of_getElem? (i := 2144) rfl
set_option maxRecDepth 100000 in
theorem gs_ow_283 : ∀ w ∈ gs_ow 283, gs_gw w := by
  intro w hw
  have hw : w ∈ ([.initialized (gs_y 283).1.cls, .instanceMethod (gs_y 283).1, .selects (gs_y 283).1.cls (gs_y 283).1 (gs_y 283).1] : List Cond) := hw
  simp only [List.mem_cons, List.not_mem_nil, or_false] at hw
  rcases hw with rfl | rfl | rfl
  · exact ⟨List.mem_of_getElem? (i := 148) rfl, rfl⟩
  · exact ⟨List.mem_of_getElem? (i := 2142) rfl, rfl⟩
  · exact ⟨List.mem_of_getElem? (i := 2143) rfl, rfl⟩
set_option maxRecDepth 100000 in
theorem gs_kw_284 : gs_kw 284 ∈ lw_tbl := List.mem_of_getElem? (i := 2156) rfl
set_option maxRecDepth 100000 in
theorem gs_ow_284 : ∀ w ∈ gs_ow 284, gs_gw w := by
  intro w hw
  have hw : w ∈ ([.initialized (gs_y 284).1.cls, .instanceMethod (gs_y 284).1, .selects (gs_y 284).1.cls (gs_y 284).1 (gs_y 284).1] : List Cond) := hw
  simp only [List.mem_cons, List.not_mem_nil, or_false] at hw
  rcases hw with rfl | rfl | rfl
  · exact ⟨List.mem_of_getElem? (i := 148) rfl, rfl⟩
  · exact ⟨List.mem_of_getElem? (i := 2155) rfl, rfl⟩
  · exact ⟨List.mem_of_getElem? (i := 126) rfl, rfl⟩
set_option maxRecDepth 100000 in
theorem gs_kw_285 : gs_kw 285 ∈ lw_tbl := List.mem_of_getElem? (i := 2152) rfl
set_option maxRecDepth 100000 in
theorem gs_ow_285 : ∀ w ∈ gs_ow 285, gs_gw w := by
  intro w hw
  have hw : w ∈ ([.initialized (gs_y 285).1.cls, .instanceMethod (gs_y 285).1, .selects (gs_y 285).1.cls (gs_y 285).1 (gs_y 285).1] : List Cond) := hw
  simp only [List.mem_cons, List.not_mem_nil, or_false] at hw
  rcases hw with rfl | rfl | rfl
  · exact ⟨List.mem_of_getElem? (i := 148) rfl, rfl⟩
  · exact ⟨List.mem_of_getElem? (i := 2150) rfl, rfl⟩
  · exact ⟨List.mem_of_getElem? (i := 2151) rfl, rfl⟩
set_option maxRecDepth 100000 in
theorem gs_kw_286 : gs_kw 286 ∈ lw_tbl := List.mem_of_getElem? (i := 2160) rfl
set_option maxRecDepth 100000 in
theorem gs_ow_286 : ∀ w ∈ gs_ow 286, gs_gw w := by
  intro w hw
  have hw : w ∈ ([.initialized (gs_y 286).1.cls, .instanceMethod (gs_y 286).1, .selects (gs_y 286).1.cls (gs_y 286).1 (gs_y 286).1] : List Cond) := hw
  simp only [List.mem_cons, List.not_mem_nil, or_false] at hw
  rcases hw with rfl | rfl | rfl
  · exact ⟨List.mem_of_getElem? (i := 148) rfl, rfl⟩
  · exact ⟨List.mem_of_getElem? (i := 2158) rfl, rfl⟩
  · exact ⟨List.mem_of_getElem? (i := 2159) rfl, rfl⟩
set_option maxRecDepth 100000 in
theorem gs_kw_287 : gs_kw 287 ∈ lw_tbl := List.mem_of_getElem? (i := 2169) rfl
set_option maxRecDepth 100000 in
theorem gs_ow_287 : ∀ w ∈ gs_ow 287, gs_gw w := by
  intro w hw
  have hw : w ∈ ([.initialized (gs_y 287).1.cls, .instanceMethod (gs_y 287).1, .selects (gs_y 287).1.cls (gs_y 287).1 (gs_y 287).1] : List Cond) := hw
  simp only [List.mem_cons, List.not_mem_nil, or_false] at hw
  rcases hw with rfl | rfl | rfl
  · exact ⟨List.mem_of_getElem? (i := 148) rfl, rfl⟩
  · exact ⟨List.mem_of_getElem? (i := 2168) rfl, rfl⟩
  · exact ⟨List.mem_of_getElem? (i := 127) rfl, rfl⟩
set_option maxRecDepth 100000 in
theorem gs_kw_288 : gs_kw 288 ∈ lw_tbl := List.mem_of_getElem? (i := 2173) rfl
set_option maxRecDepth 100000 in
theorem gs_ow_288 : ∀ w ∈ gs_ow 288, gs_gw w := by
  intro w hw
  have hw : w ∈ ([.initialized (gs_y 288).1.cls, .instanceMethod (gs_y 288).1, .selects (gs_y 288).1.cls (gs_y 288).1 (gs_y 288).1] : List Cond) := hw
  simp only [List.mem_cons, List.not_mem_nil, or_false] at hw
  rcases hw with rfl | rfl | rfl
  · exact ⟨List.mem_of_getElem? (i := 148) rfl, rfl⟩
  · exact ⟨List.mem_of_getElem? (i := 2172) rfl, rfl⟩
  · exact ⟨List.mem_of_getElem? (i := 128) rfl, rfl⟩
set_option maxRecDepth 100000 in
theorem gs_kw_289 : gs_kw 289 ∈ lw_tbl := List.mem_of_getElem? (i := 2165) rfl
set_option maxRecDepth 100000 in
theorem gs_ow_289 : ∀ w ∈ gs_ow 289, gs_gw w := by
  intro w hw
  have hw : w ∈ ([.initialized (gs_y 289).1.cls, .instanceMethod (gs_y 289).1, .selects (gs_y 289).1.cls (gs_y 289).1 (gs_y 289).1] : List Cond) := hw
  simp only [List.mem_cons, List.not_mem_nil, or_false] at hw
  rcases hw with rfl | rfl | rfl
  · exact ⟨List.mem_of_getElem? (i := 148) rfl, rfl⟩
  · exact ⟨List.mem_of_getElem? (i := 2163) rfl, rfl⟩
  · exact ⟨List.mem_of_getElem? (i := 2164) rfl, rfl⟩
set_option maxRecDepth 100000 in
theorem gs_kw_290 : gs_kw 290 ∈ lw_tbl := List.mem_of_getElem? (i := 2181) rfl
set_option maxRecDepth 100000 in
theorem gs_ow_290 : ∀ w ∈ gs_ow 290, gs_gw w := by
  intro w hw
  have hw : w ∈ ([.initialized (gs_y 290).1.cls, .instanceMethod (gs_y 290).1, .selects (gs_y 290).1.cls (gs_y 290).1 (gs_y 290).1] : List Cond) := hw
  simp only [List.mem_cons, List.not_mem_nil, or_false] at hw
  rcases hw with rfl | rfl | rfl
  · exact ⟨List.mem_of_getElem? (i := 148) rfl, rfl⟩
  · exact ⟨List.mem_of_getElem? (i := 2180) rfl, rfl⟩
  · exact ⟨List.mem_of_getElem? (i := 129) rfl, rfl⟩
set_option maxRecDepth 100000 in
theorem gs_kw_291 : gs_kw 291 ∈ lw_tbl := List.mem_of_getElem? (i := 2177) rfl
set_option maxRecDepth 100000 in
theorem gs_ow_291 : ∀ w ∈ gs_ow 291, gs_gw w := by
  intro w hw
  have hw : w ∈ ([.initialized (gs_y 291).1.cls, .instanceMethod (gs_y 291).1, .selects (gs_y 291).1.cls (gs_y 291).1 (gs_y 291).1] : List Cond) := hw
  simp only [List.mem_cons, List.not_mem_nil, or_false] at hw
  rcases hw with rfl | rfl | rfl
  · exact ⟨List.mem_of_getElem? (i := 148) rfl, rfl⟩
  · exact ⟨List.mem_of_getElem? (i := 2175) rfl, rfl⟩
  · exact ⟨List.mem_of_getElem? (i := 2176) rfl, rfl⟩
set_option maxRecDepth 100000 in
theorem gs_kw_292 : gs_kw 292 ∈ lw_tbl := List.mem_of_getElem? (i := 2185) rfl
set_option maxRecDepth 100000 in
theorem gs_ow_292 : ∀ w ∈ gs_ow 292, gs_gw w := by
  intro w hw
  have hw : w ∈ ([.initialized (gs_y 292).1.cls, .instanceMethod (gs_y 292).1, .selects (gs_y 292).1.cls (gs_y 292).1 (gs_y 292).1] : List Cond) := hw
  simp only [List.mem_cons, List.not_mem_nil, or_false] at hw
  rcases hw with rfl | rfl | rfl
  · exact ⟨List.mem_of_getElem? (i := 148) rfl, rfl⟩
  · exact ⟨List.mem_of_getElem? (i := 2183) rfl, rfl⟩
  · exact ⟨List.mem_of_getElem? (i := 2184) rfl, rfl⟩
set_option maxRecDepth 100000 in
theorem gs_kw_293 : gs_kw 293 ∈ lw_tbl := List.mem_of_getElem? (i := 2195) rfl
set_option maxRecDepth 100000 in
theorem gs_ow_293 : ∀ w ∈ gs_ow 293, gs_gw w := by
  intro w hw
  have hw : w ∈ ([.initialized (gs_y 293).1.cls, .static (gs_y 293).1] : List Cond) := hw
  simp only [List.mem_cons, List.not_mem_nil, or_false] at hw
  rcases hw with rfl | rfl
  · exact ⟨List.mem_of_getElem? (i := 148) rfl, rfl⟩
  · exact ⟨List.mem_of_getElem? (i := 2194) rfl, rfl⟩
set_option maxRecDepth 100000 in
theorem gs_kw_294 : gs_kw 294 ∈ lw_tbl := List.mem_of_getElem? (i := 2192) rfl
set_option maxRecDepth 100000 in
theorem gs_ow_294 : ∀ w ∈ gs_ow 294, gs_gw w := by
  intro w hw
  have hw : w ∈ ([.initialized (gs_y 294).1.cls, .static (gs_y 294).1] : List Cond) := hw
  simp only [List.mem_cons, List.not_mem_nil, or_false] at hw
  rcases hw with rfl | rfl
  · exact ⟨List.mem_of_getElem? (i := 148) rfl, rfl⟩
  · exact ⟨List.mem_of_getElem? (i := 2191) rfl, rfl⟩
set_option maxRecDepth 100000 in
theorem gs_kw_295 : gs_kw 295 ∈ lw_tbl := List.mem_of_getElem? (i := 2189) rfl
set_option maxRecDepth 100000 in
theorem gs_ow_295 : ∀ w ∈ gs_ow 295, gs_gw w := by
  intro w hw
  have hw : w ∈ ([.initialized (gs_y 295).1.cls, .instanceMethod (gs_y 295).1, .selects (gs_y 295).1.cls (gs_y 295).1 (gs_y 295).1] : List Cond) := hw
  simp only [List.mem_cons, List.not_mem_nil, or_false] at hw
  rcases hw with rfl | rfl | rfl
  · exact ⟨List.mem_of_getElem? (i := 148) rfl, rfl⟩
  · exact ⟨List.mem_of_getElem? (i := 2187) rfl, rfl⟩
  · exact ⟨List.mem_of_getElem? (i := 2188) rfl, rfl⟩
set_option maxRecDepth 100000 in
theorem gs_kw_296 : gs_kw 296 ∈ lw_tbl := List.mem_of_getElem? (i := 2200) rfl
set_option maxRecDepth 100000 in
theorem gs_ow_296 : ∀ w ∈ gs_ow 296, gs_gw w := by
  intro w hw
  have hw : w ∈ ([.initialized (gs_y 296).1.cls, .instanceMethod (gs_y 296).1, .selects (gs_y 296).1.cls (gs_y 296).1 (gs_y 296).1] : List Cond) := hw
  simp only [List.mem_cons, List.not_mem_nil, or_false] at hw
  rcases hw with rfl | rfl | rfl
  · exact ⟨List.mem_of_getElem? (i := 148) rfl, rfl⟩
  · exact ⟨List.mem_of_getElem? (i := 2198) rfl, rfl⟩
  · exact ⟨List.mem_of_getElem? (i := 2199) rfl, rfl⟩
set_option maxRecDepth 100000 in
theorem gs_kw_297 : gs_kw 297 ∈ lw_tbl := List.mem_of_getElem? (i := 2208) rfl
set_option maxRecDepth 100000 in
theorem gs_ow_297 : ∀ w ∈ gs_ow 297, gs_gw w := by
  intro w hw
  have hw : w ∈ ([.initialized (gs_y 297).1.cls, .instanceMethod (gs_y 297).1, .selects (gs_y 297).1.cls (gs_y 297).1 (gs_y 297).1] : List Cond) := hw
  simp only [List.mem_cons, List.not_mem_nil, or_false] at hw
  rcases hw with rfl | rfl | rfl
  · exact ⟨List.mem_of_getElem? (i := 148) rfl, rfl⟩
  · exact ⟨List.mem_of_getElem? (i := 2207) rfl, rfl⟩
  · exact ⟨List.mem_of_getElem? (i := 130) rfl, rfl⟩
set_option maxRecDepth 100000 in
theorem gs_kw_298 : gs_kw 298 ∈ lw_tbl := List.mem_of_getElem? (i := 2204) rfl
set_option maxRecDepth 100000 in
theorem gs_ow_298 : ∀ w ∈ gs_ow 298, gs_gw w := by
  intro w hw
  have hw : w ∈ ([.initialized (gs_y 298).1.cls, .instanceMethod (gs_y 298).1, .selects (gs_y 298).1.cls (gs_y 298).1 (gs_y 298).1] : List Cond) := hw
  simp only [List.mem_cons, List.not_mem_nil, or_false] at hw
  rcases hw with rfl | rfl | rfl
  · exact ⟨List.mem_of_getElem? (i := 148) rfl, rfl⟩
  · exact ⟨List.mem_of_getElem? (i := 2202) rfl, rfl⟩
  · exact ⟨List.mem_of_getElem? (i := 2203) rfl, rfl⟩
set_option maxRecDepth 100000 in
theorem gs_kw_299 : gs_kw 299 ∈ lw_tbl := List.mem_of_getElem? (i := 2213) rfl
set_option maxRecDepth 100000 in
theorem gs_ow_299 : ∀ w ∈ gs_ow 299, gs_gw w := by
  intro w hw
  have hw : w ∈ ([.initialized (gs_y 299).1.cls, .instanceMethod (gs_y 299).1, .selects (gs_y 299).1.cls (gs_y 299).1 (gs_y 299).1] : List Cond) := hw
  simp only [List.mem_cons, List.not_mem_nil, or_false] at hw
  rcases hw with rfl | rfl | rfl
  · exact ⟨List.mem_of_getElem? (i := 148) rfl, rfl⟩
  · exact ⟨List.mem_of_getElem? (i := 2211) rfl, rfl⟩
  · exact ⟨List.mem_of_getElem? (i := 2212) rfl, rfl⟩
set_option maxRecDepth 100000 in
theorem gs_kw_300 : gs_kw 300 ∈ lw_tbl := List.mem_of_getElem? (i := 2217) rfl
set_option maxRecDepth 100000 in
theorem gs_ow_300 : ∀ w ∈ gs_ow 300, gs_gw w := by
  intro w hw
  have hw : w ∈ ([.initialized (gs_y 300).1.cls, .instanceMethod (gs_y 300).1, .selects (gs_y 300).1.cls (gs_y 300).1 (gs_y 300).1] : List Cond) := hw
  simp only [List.mem_cons, List.not_mem_nil, or_false] at hw
  rcases hw with rfl | rfl | rfl
  · exact ⟨List.mem_of_getElem? (i := 148) rfl, rfl⟩
  · exact ⟨List.mem_of_getElem? (i := 2215) rfl, rfl⟩
  · exact ⟨List.mem_of_getElem? (i := 2216) rfl, rfl⟩
set_option maxRecDepth 100000 in
theorem gs_kw_301 : gs_kw 301 ∈ lw_tbl := List.mem_of_getElem? (i := 2221) rfl
set_option maxRecDepth 100000 in
theorem gs_ow_301 : ∀ w ∈ gs_ow 301, gs_gw w := by
  intro w hw
  have hw : w ∈ ([.initialized (gs_y 301).1.cls, .instanceMethod (gs_y 301).1, .selects (gs_y 301).1.cls (gs_y 301).1 (gs_y 301).1] : List Cond) := hw
  simp only [List.mem_cons, List.not_mem_nil, or_false] at hw
  rcases hw with rfl | rfl | rfl
  · exact ⟨List.mem_of_getElem? (i := 148) rfl, rfl⟩
  · exact ⟨List.mem_of_getElem? (i := 2219) rfl, rfl⟩
  · exact ⟨List.mem_of_getElem? (i := 2220) rfl, rfl⟩
set_option maxRecDepth 100000 in
theorem gs_kw_302 : gs_kw 302 ∈ lw_tbl := List.mem_of_getElem? (i := 2225) rfl
set_option maxRecDepth 100000 in
theorem gs_ow_302 : ∀ w ∈ gs_ow 302, gs_gw w := by
  intro w hw
  have hw : w ∈ ([.initialized (gs_y 302).1.cls, .instanceMethod (gs_y 302).1, .selects (gs_y 302).1.cls (gs_y 302).1 (gs_y 302).1] : List Cond) := hw
  simp only [List.mem_cons, List.not_mem_nil, or_false] at hw
  rcases hw with rfl | rfl | rfl
  · exact ⟨List.mem_of_getElem? (i := 148) rfl, rfl⟩
  · exact ⟨List.mem_of_getElem? (i := 2223) rfl, rfl⟩
  · exact ⟨List.mem_of_getElem? (i := 2224) rfl, rfl⟩
set_option maxRecDepth 100000 in
theorem gs_kw_303 : gs_kw 303 ∈ lw_tbl := List.mem_of_getElem? (i := 2229) rfl
set_option maxRecDepth 100000 in
theorem gs_ow_303 : ∀ w ∈ gs_ow 303, gs_gw w := by
  intro w hw
  have hw : w ∈ ([.initialized (gs_y 303).1.cls, .instanceMethod (gs_y 303).1, .selects (gs_y 303).1.cls (gs_y 303).1 (gs_y 303).1] : List Cond) := hw
  simp only [List.mem_cons, List.not_mem_nil, or_false] at hw
  rcases hw with rfl | rfl | rfl
  · exact ⟨List.mem_of_getElem? (i := 148) rfl, rfl⟩
  · exact ⟨List.mem_of_getElem? (i := 2227) rfl, rfl⟩
  · exact ⟨List.mem_of_getElem? (i := 2228) rfl, rfl⟩
set_option maxRecDepth 100000 in
theorem gs_kw_304 : gs_kw 304 ∈ lw_tbl := List.mem_of_getElem? (i := 2237) rfl
set_option maxRecDepth 100000 in
theorem gs_ow_304 : ∀ w ∈ gs_ow 304, gs_gw w := by
  intro w hw
  have hw : w ∈ ([.initialized (gs_y 304).1.cls, .instanceMethod (gs_y 304).1, .selects (gs_y 304).1.cls (gs_y 304).1 (gs_y 304).1] : List Cond) := hw
  simp only [List.mem_cons, List.not_mem_nil, or_false] at hw
  rcases hw with rfl | rfl | rfl
  · exact ⟨List.mem_of_getElem? (i := 148) rfl, rfl⟩
  · exact ⟨List.mem_of_getElem? (i := 2236) rfl, rfl⟩
  · exact ⟨List.mem_of_getElem? (i := 131) rfl, rfl⟩
set_option maxRecDepth 100000 in
theorem gs_kw_305 : gs_kw 305 ∈ lw_tbl := List.mem_of_getElem? (i := 2233) rfl
set_option maxRecDepth 100000 in
theorem gs_ow_305 : ∀ w ∈ gs_ow 305, gs_gw w := by
  intro w hw
  have hw : w ∈ ([.initialized (gs_y 305).1.cls, .instanceMethod (gs_y 305).1, .selects (gs_y 305).1.cls (gs_y 305).1 (gs_y 305).1] : List Cond) := hw
  simp only [List.mem_cons, List.not_mem_nil, or_false] at hw
  rcases hw with rfl | rfl | rfl
  · exact ⟨List.mem_of_getElem? (i := 148) rfl, rfl⟩
  · exact ⟨List.mem_of_getElem? (i := 2231) rfl, rfl⟩
  · exact ⟨List.mem_of_getElem? (i := 2232) rfl, rfl⟩
set_option maxRecDepth 100000 in
theorem gs_kw_306 : gs_kw 306 ∈ lw_tbl := List.mem_of_getElem? (i := 2245) rfl
set_option maxRecDepth 100000 in
theorem gs_ow_306 : ∀ w ∈ gs_ow 306, gs_gw w := by
  intro w hw
  have hw : w ∈ ([.initialized (gs_y 306).1.cls, .instanceMethod (gs_y 306).1, .selects (gs_y 306).1.cls (gs_y 306).1 (gs_y 306).1] : List Cond) := hw
  simp only [List.mem_cons, List.not_mem_nil, or_false] at hw
  rcases hw with rfl | rfl | rfl
  · exact ⟨List.mem_of_getElem? (i := 148) rfl, rfl⟩
  · exact ⟨List.mem_of_getElem? (i := 2243) rfl, rfl⟩
  · exact ⟨List.mem_of_getElem? (i := 2244) rfl, rfl⟩
set_option maxRecDepth 100000 in
theorem gs_kw_307 : gs_kw 307 ∈ lw_tbl := List.mem_of_getElem? (i := 2249) rfl
set_option maxRecDepth 100000 in
theorem gs_ow_307 : ∀ w ∈ gs_ow 307, gs_gw w := by
  intro w hw
  have hw : w ∈ ([.initialized (gs_y 307).1.cls, .instanceMethod (gs_y 307).1, .selects (gs_y 307).1.cls (gs_y 307).1 (gs_y 307).1] : List Cond) := hw
  simp only [List.mem_cons, List.not_mem_nil, or_false] at hw
  rcases hw with rfl | rfl | rfl
  · exact ⟨List.mem_of_getElem? (i := 148) rfl, rfl⟩
  · exact ⟨List.mem_of_getElem? (i := 2247) rfl, rfl⟩
  · exact ⟨List.mem_of_getElem? (i := 2248) rfl, rfl⟩
set_option maxRecDepth 100000 in
theorem gs_kw_308 : gs_kw 308 ∈ lw_tbl := List.mem_of_getElem? (i := 1115) rfl
set_option maxRecDepth 100000 in
theorem gs_ow_308 : ∀ w ∈ gs_ow 308, gs_gw w := by
  intro w hw
  have hw : w ∈ ([.initialized (gs_y 308).1.cls, .static (gs_y 308).1] : List Cond) := hw
  simp only [List.mem_cons, List.not_mem_nil, or_false] at hw
  rcases hw with rfl | rfl
  · exact ⟨List.mem_of_getElem? (i := 157) rfl, rfl⟩
  · exact ⟨List.mem_of_getElem? (i := 1114) rfl, rfl⟩
set_option maxRecDepth 100000 in
theorem gs_kw_309 : gs_kw 309 ∈ lw_tbl := List.mem_of_getElem? (i := 1028) rfl
set_option maxRecDepth 100000 in
theorem gs_ow_309 : ∀ w ∈ gs_ow 309, gs_gw w := by
  intro w hw
  have hw : w ∈ ([.initialized (gs_y 309).1.cls, .static (gs_y 309).1] : List Cond) := hw
  simp only [List.mem_cons, List.not_mem_nil, or_false] at hw
  rcases hw with rfl | rfl
  · exact ⟨List.mem_of_getElem? (i := 149) rfl, rfl⟩
  · exact ⟨List.mem_of_getElem? (i := 1027) rfl, rfl⟩
set_option maxRecDepth 100000 in
theorem gs_kw_310 : gs_kw 310 ∈ lw_tbl := List.mem_of_getElem? (i := 1184) rfl
set_option maxRecDepth 100000 in
theorem gs_ow_310 : ∀ w ∈ gs_ow 310, gs_gw w := by
  intro w hw
  have hw : w ∈ ([.initialized (gs_y 310).1.cls, .static (gs_y 310).1] : List Cond) := hw
  simp only [List.mem_cons, List.not_mem_nil, or_false] at hw
  rcases hw with rfl | rfl
  · exact ⟨List.mem_of_getElem? (i := 149) rfl, rfl⟩
  · exact ⟨List.mem_of_getElem? (i := 1183) rfl, rfl⟩
set_option maxRecDepth 100000 in
theorem gs_kw_311 : gs_kw 311 ∈ lw_tbl := List.mem_of_getElem? (i := 1099) rfl
set_option maxRecDepth 100000 in
theorem gs_ow_311 : ∀ w ∈ gs_ow 311, gs_gw w := by
  intro w hw
  have hw : w ∈ ([.initialized (gs_y 311).1.cls, .static (gs_y 311).1] : List Cond) := hw
  simp only [List.mem_cons, List.not_mem_nil, or_false] at hw
  rcases hw with rfl | rfl
  · exact ⟨List.mem_of_getElem? (i := 149) rfl, rfl⟩
  · exact ⟨List.mem_of_getElem? (i := 1098) rfl, rfl⟩
set_option maxRecDepth 100000 in
theorem gs_kw_312 : gs_kw 312 ∈ lw_tbl := List.mem_of_getElem? (i := 726) rfl
set_option maxRecDepth 100000 in
theorem gs_ow_312 : ∀ w ∈ gs_ow 312, gs_gw w := by
  intro w hw
  have hw : w ∈ ([.initialized (gs_y 312).1.cls, .static (gs_y 312).1] : List Cond) := hw
  simp only [List.mem_cons, List.not_mem_nil, or_false] at hw
  rcases hw with rfl | rfl
  · exact ⟨List.mem_of_getElem? (i := 149) rfl, rfl⟩
  · exact ⟨List.mem_of_getElem? (i := 725) rfl, rfl⟩
set_option maxRecDepth 100000 in
theorem gs_kw_313 : gs_kw 313 ∈ lw_tbl := List.mem_of_getElem? (i := 1139) rfl
set_option maxRecDepth 100000 in
theorem gs_ow_313 : ∀ w ∈ gs_ow 313, gs_gw w := by
  intro w hw
  have hw : w ∈ ([.initialized (gs_y 313).1.cls, .static (gs_y 313).1] : List Cond) := hw
  simp only [List.mem_cons, List.not_mem_nil, or_false] at hw
  rcases hw with rfl | rfl
  · exact ⟨List.mem_of_getElem? (i := 149) rfl, rfl⟩
  · exact ⟨List.mem_of_getElem? (i := 1138) rfl, rfl⟩
set_option maxRecDepth 100000 in
theorem gs_kw_314 : gs_kw 314 ∈ lw_tbl := List.mem_of_getElem? (i := 723) rfl
set_option maxRecDepth 100000 in
theorem gs_ow_314 : ∀ w ∈ gs_ow 314, gs_gw w := by
  intro w hw
  have hw : w ∈ ([.initialized (gs_y 314).1.cls, .static (gs_y 314).1] : List Cond) := hw
  simp only [List.mem_cons, List.not_mem_nil, or_false] at hw
  rcases hw with rfl | rfl
  · exact ⟨List.mem_of_getElem? (i := 149) rfl, rfl⟩
  · exact ⟨List.mem_of_getElem? (i := 722) rfl, rfl⟩
set_option maxRecDepth 100000 in
theorem gs_kw_315 : gs_kw 315 ∈ lw_tbl := List.mem_of_getElem? (i := 1136) rfl
set_option maxRecDepth 100000 in
theorem gs_ow_315 : ∀ w ∈ gs_ow 315, gs_gw w := by
  intro w hw
  have hw : w ∈ ([.initialized (gs_y 315).1.cls, .static (gs_y 315).1] : List Cond) := hw
  simp only [List.mem_cons, List.not_mem_nil, or_false] at hw
  rcases hw with rfl | rfl
  · exact ⟨List.mem_of_getElem? (i := 149) rfl, rfl⟩
  · exact ⟨List.mem_of_getElem? (i := 1135) rfl, rfl⟩
set_option maxRecDepth 100000 in
theorem gs_kw_316 : gs_kw 316 ∈ lw_tbl := List.mem_of_getElem? (i := 1216) rfl
set_option maxRecDepth 100000 in
theorem gs_ow_316 : ∀ w ∈ gs_ow 316, gs_gw w := by
  intro w hw
  have hw : w ∈ ([.initialized (gs_y 316).1.cls, .static (gs_y 316).1] : List Cond) := hw
  simp only [List.mem_cons, List.not_mem_nil, or_false] at hw
  rcases hw with rfl | rfl
  · exact ⟨List.mem_of_getElem? (i := 158) rfl, rfl⟩
  · exact ⟨List.mem_of_getElem? (i := 1215) rfl, rfl⟩
set_option maxRecDepth 100000 in
theorem gs_kw_317 : gs_kw 317 ∈ lw_tbl := List.mem_of_getElem? (i := 1219) rfl
set_option maxRecDepth 100000 in
theorem gs_ow_317 : ∀ w ∈ gs_ow 317, gs_gw w := by
  intro w hw
  have hw : w ∈ ([.initialized (gs_y 317).1.cls, .static (gs_y 317).1] : List Cond) := hw
  simp only [List.mem_cons, List.not_mem_nil, or_false] at hw
  rcases hw with rfl | rfl
  · exact ⟨List.mem_of_getElem? (i := 158) rfl, rfl⟩
  · exact ⟨List.mem_of_getElem? (i := 1218) rfl, rfl⟩
set_option maxRecDepth 100000 in
theorem gs_ow_318 : ∀ w ∈ gs_ow 318, gs_gw w := by
  intro w hw
  have hw : w ∈ ([.initialized (gs_y 318).1.cls, .static (gs_y 318).1] : List Cond) := hw
  simp only [List.mem_cons, List.not_mem_nil, or_false] at hw
  rcases hw with rfl | rfl
  · exact ⟨List.mem_of_getElem? (i := 132) rfl, rfl⟩
  · exact ⟨List.mem_of_getElem? (i := 1484) rfl, rfl⟩
set_option maxRecDepth 100000 in
theorem gs_kw_320 : gs_kw 320 ∈ lw_tbl := List.mem_of_getElem? (i := 976) rfl
set_option maxRecDepth 100000 in
theorem gs_ow_320 : ∀ w ∈ gs_ow 320, gs_gw w := by
  intro w hw
  have hw : w ∈ ([.initialized (gs_y 320).1.cls, .instanceMethod (gs_y 320).1, .selects (gs_y 320).1.cls (gs_y 320).1 (gs_y 320).1] : List Cond) := hw
  simp only [List.mem_cons, List.not_mem_nil, or_false] at hw
  rcases hw with rfl | rfl | rfl
  · exact ⟨List.mem_of_getElem? (i := 134) rfl, rfl⟩
  · exact ⟨List.mem_of_getElem? (i := 974) rfl, rfl⟩
  · exact ⟨List.mem_of_getElem? (i := 975) rfl, rfl⟩

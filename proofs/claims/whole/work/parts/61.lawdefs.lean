/-! the law, by program out of the bytecode (wip/whole/gen/gl.py) -/
theorem cx_RL_119 : CSX RL 119 yL_country cL_country 4 (some .int) [(0, 9, 12, 13), (0, 9, 15, 15)] 3 := ⟨uw_in 406 (by decide +kernel) rfl, uw_in 407 (by decide +kernel) rfl, uw_in 64 (by decide +kernel) rfl, uw_in 408 (by decide +kernel) rfl, ⟨by decide +kernel, by decide +kernel, by decide +kernel⟩⟩
theorem cv_RL_124 : CV RL 124 yX5_country cX5_country 3 (some .int) 1 := ⟨uw_in 1157 (by decide +kernel) rfl, uw_in 1158 (by decide +kernel) rfl, uw_in 1159 (by decide +kernel) rfl, uw_in 70 (by decide +kernel) rfl, uw_in 1160 (by decide +kernel) rfl, ⟨by decide +kernel, by decide +kernel, by decide +kernel⟩⟩
theorem cv_RL_125 : CV RL 125 yX5_thrown cX5_thrown 1 (some .int) 0 := ⟨uw_in 1153 (by decide +kernel) rfl, uw_in 1154 (by decide +kernel) rfl, uw_in 1155 (by decide +kernel) rfl, uw_in 70 (by decide +kernel) rfl, uw_in 1156 (by decide +kernel) rfl, ⟨by decide +kernel, by decide +kernel, by decide +kernel⟩⟩
theorem cx_RL_128 : CSX RL 128 yL_border cL_border 5 (some .int) [(0, 10, 13, 21), (0, 10, 17, 15)] 4 := ⟨uw_in 531 (by decide +kernel) rfl, uw_in 532 (by decide +kernel) rfl, uw_in 64 (by decide +kernel) rfl, uw_in 533 (by decide +kernel) rfl, ⟨by decide +kernel, by decide +kernel, by decide +kernel⟩⟩
theorem cv_RL_131 : CV RL 131 yX5_border cX5_border 3 (some .int) 2 := ⟨uw_in 1183 (by decide +kernel) rfl, uw_in 1184 (by decide +kernel) rfl, uw_in 1185 (by decide +kernel) rfl, uw_in 70 (by decide +kernel) rfl, uw_in 1186 (by decide +kernel) rfl, ⟨by decide +kernel, by decide +kernel, by decide +kernel⟩⟩
theorem cx_RL_132 : CSX RL 132 yL_erase cL_erase 5 (some .int) [(0, 10, 13, 21), (0, 10, 17, 15)] 4 := ⟨uw_in 599 (by decide +kernel) rfl, uw_in 600 (by decide +kernel) rfl, uw_in 64 (by decide +kernel) rfl, uw_in 601 (by decide +kernel) rfl, ⟨by decide +kernel, by decide +kernel, by decide +kernel⟩⟩
theorem cv_RL_134 : CV RL 134 yX5_erase cX5_erase 3 (some .int) 2 := ⟨uw_in 1207 (by decide +kernel) rfl, uw_in 1208 (by decide +kernel) rfl, uw_in 1209 (by decide +kernel) rfl, uw_in 70 (by decide +kernel) rfl, uw_in 1210 (by decide +kernel) rfl, ⟨by decide +kernel, by decide +kernel, by decide +kernel⟩⟩
theorem cx_RL_135 : CSX RL 135 yL_hasBorder cL_hasBorder 5 (some .int) [(0, 17, 20, 21)] 4 := ⟨uw_in 614 (by decide +kernel) rfl, uw_in 615 (by decide +kernel) rfl, uw_in 64 (by decide +kernel) rfl, uw_in 616 (by decide +kernel) rfl, ⟨by decide +kernel, by decide +kernel, by decide +kernel⟩⟩
theorem cv_RL_137 : CV RL 137 yX5_hasBorder cX5_hasBorder 3 (some .boolean) 2 := ⟨uw_in 1211 (by decide +kernel) rfl, uw_in 1212 (by decide +kernel) rfl, uw_in 1213 (by decide +kernel) rfl, uw_in 70 (by decide +kernel) rfl, uw_in 1214 (by decide +kernel) rfl, ⟨by decide +kernel, by decide +kernel, by decide +kernel⟩⟩
theorem cx_RL_138 : CSX RL 138 yL_countryOf cL_countryOf 5 (some .int) [(0, 10, 13, 21), (0, 10, 17, 13)] 4 := ⟨uw_in 622 (by decide +kernel) rfl, uw_in 623 (by decide +kernel) rfl, uw_in 64 (by decide +kernel) rfl, uw_in 624 (by decide +kernel) rfl, ⟨by decide +kernel, by decide +kernel, by decide +kernel⟩⟩
theorem cv_RL_140 : CV RL 140 yX5_countryOf cX5_countryOf 3 (some .int) 2 := ⟨uw_in 1215 (by decide +kernel) rfl, uw_in 1216 (by decide +kernel) rfl, uw_in 1217 (by decide +kernel) rfl, uw_in 70 (by decide +kernel) rfl, uw_in 1218 (by decide +kernel) rfl, ⟨by decide +kernel, by decide +kernel, by decide +kernel⟩⟩
theorem cx_RL_141 : CSX RL 141 yL_hues cL_hues 4 (some .int) [(0, 9, 12, 13), (0, 9, 15, 15)] 3 := ⟨uw_in 636 (by decide +kernel) rfl, uw_in 637 (by decide +kernel) rfl, uw_in 64 (by decide +kernel) rfl, uw_in 638 (by decide +kernel) rfl, ⟨by decide +kernel, by decide +kernel, by decide +kernel⟩⟩
theorem cv_RL_143 : CV RL 143 yX5_hues cX5_hues 3 (some .int) 1 := ⟨uw_in 1239 (by decide +kernel) rfl, uw_in 1240 (by decide +kernel) rfl, uw_in 1241 (by decide +kernel) rfl, uw_in 70 (by decide +kernel) rfl, uw_in 1242 (by decide +kernel) rfl, ⟨by decide +kernel, by decide +kernel, by decide +kernel⟩⟩
theorem cx_RL_144 : CSX RL 144 yL_pots cL_pots 5 (some .int) [(0, 10, 13, 21), (0, 10, 17, 13)] 4 := ⟨uw_in 651 (by decide +kernel) rfl, uw_in 652 (by decide +kernel) rfl, uw_in 64 (by decide +kernel) rfl, uw_in 653 (by decide +kernel) rfl, ⟨by decide +kernel, by decide +kernel, by decide +kernel⟩⟩
theorem cv_RL_146 : CV RL 146 yX5_pots cX5_pots 3 (some .int) 2 := ⟨uw_in 1243 (by decide +kernel) rfl, uw_in 1244 (by decide +kernel) rfl, uw_in 1245 (by decide +kernel) rfl, uw_in 70 (by decide +kernel) rfl, uw_in 1246 (by decide +kernel) rfl, ⟨by decide +kernel, by decide +kernel, by decide +kernel⟩⟩
theorem cx_RL_147 : CSX RL 147 yL_hueOf cL_hueOf 5 (some .int) [(0, 10, 13, 21), (0, 10, 17, 13)] 4 := ⟨uw_in 677 (by decide +kernel) rfl, uw_in 678 (by decide +kernel) rfl, uw_in 64 (by decide +kernel) rfl, uw_in 679 (by decide +kernel) rfl, ⟨by decide +kernel, by decide +kernel, by decide +kernel⟩⟩
theorem cv_RL_149 : CV RL 149 yX5_hueOf cX5_hueOf 3 (some .int) 2 := ⟨uw_in 1253 (by decide +kernel) rfl, uw_in 1254 (by decide +kernel) rfl, uw_in 1255 (by decide +kernel) rfl, uw_in 70 (by decide +kernel) rfl, uw_in 1256 (by decide +kernel) rfl, ⟨by decide +kernel, by decide +kernel, by decide +kernel⟩⟩
theorem cx_RL_150 : CSX RL 150 yL_paint cL_paint 5 (some .int) [(0, 10, 13, 21), (0, 10, 17, 15)] 4 := ⟨uw_in 689 (by decide +kernel) rfl, uw_in 690 (by decide +kernel) rfl, uw_in 64 (by decide +kernel) rfl, uw_in 691 (by decide +kernel) rfl, ⟨by decide +kernel, by decide +kernel, by decide +kernel⟩⟩
theorem cv_RL_152 : CV RL 152 yX5_paint cX5_paint 3 (some .int) 2 := ⟨uw_in 1261 (by decide +kernel) rfl, uw_in 1262 (by decide +kernel) rfl, uw_in 1263 (by decide +kernel) rfl, uw_in 70 (by decide +kernel) rfl, uw_in 1264 (by decide +kernel) rfl, ⟨by decide +kernel, by decide +kernel, by decide +kernel⟩⟩
theorem cx_RL_153 : CSX RL 153 yL_bars cL_bars 5 (some .int) [(0, 10, 13, 21)] 4 := ⟨uw_in 701 (by decide +kernel) rfl, uw_in 702 (by decide +kernel) rfl, uw_in 64 (by decide +kernel) rfl, uw_in 703 (by decide +kernel) rfl, ⟨by decide +kernel, by decide +kernel, by decide +kernel⟩⟩
theorem cv_RL_155 : CV RL 155 yX5_bars cX5_bars 3 (some .int) 2 := ⟨uw_in 1273 (by decide +kernel) rfl, uw_in 1274 (by decide +kernel) rfl, uw_in 1275 (by decide +kernel) rfl, uw_in 70 (by decide +kernel) rfl, uw_in 1276 (by decide +kernel) rfl, ⟨by decide +kernel, by decide +kernel, by decide +kernel⟩⟩
theorem cx_RL_156 : CSX RL 156 yL_back cL_back 3 (some .int) [(0, 8, 11, 15)] 2 := ⟨uw_in 708 (by decide +kernel) rfl, uw_in 709 (by decide +kernel) rfl, uw_in 64 (by decide +kernel) rfl, uw_in 710 (by decide +kernel) rfl, ⟨by decide +kernel, by decide +kernel, by decide +kernel⟩⟩
theorem cv_RL_159 : CV RL 159 yX5_back cX5_back 2 (some .int) 0 := ⟨uw_in 1277 (by decide +kernel) rfl, uw_in 1278 (by decide +kernel) rfl, uw_in 1279 (by decide +kernel) rfl, uw_in 70 (by decide +kernel) rfl, uw_in 1280 (by decide +kernel) rfl, ⟨by decide +kernel, by decide +kernel, by decide +kernel⟩⟩
theorem cv_RL_160 : CV RL 160 yX4_fill cX4_fill 1 (some .int) 0 := ⟨uw_in 256 (by decide +kernel) rfl, uw_in 257 (by decide +kernel) rfl, uw_in 258 (by decide +kernel) rfl, uw_in 65 (by decide +kernel) rfl, uw_in 259 (by decide +kernel) rfl, ⟨by decide +kernel, by decide +kernel, by decide +kernel⟩⟩
theorem cv_RL_163 : CV RL 163 yX5_fill cX5_fill 4 (some .int) 0 := ⟨uw_in 1281 (by decide +kernel) rfl, uw_in 1282 (by decide +kernel) rfl, uw_in 1283 (by decide +kernel) rfl, uw_in 70 (by decide +kernel) rfl, uw_in 1284 (by decide +kernel) rfl, ⟨by decide +kernel, by decide +kernel, by decide +kernel⟩⟩
theorem cx_RL_164 : CSX RL 164 yL_step cL_step 4 (some .int) [(0, 9, 12, 55)] 3 := ⟨uw_in 724 (by decide +kernel) rfl, uw_in 725 (by decide +kernel) rfl, uw_in 64 (by decide +kernel) rfl, uw_in 726 (by decide +kernel) rfl, ⟨by decide +kernel, by decide +kernel, by decide +kernel⟩⟩
theorem cv_RL_166 : CV RL 166 yX5_step cX5_step 2 (some .int) 1 := ⟨uw_in 1289 (by decide +kernel) rfl, uw_in 1290 (by decide +kernel) rfl, uw_in 1291 (by decide +kernel) rfl, uw_in 70 (by decide +kernel) rfl, uw_in 1292 (by decide +kernel) rfl, ⟨by decide +kernel, by decide +kernel, by decide +kernel⟩⟩
theorem cx_RL_167 : CSX RL 167 yL_stuck cL_stuck 3 (some .int) [(0, 8, 11, 55)] 2 := ⟨uw_in 748 (by decide +kernel) rfl, uw_in 749 (by decide +kernel) rfl, uw_in 64 (by decide +kernel) rfl, uw_in 750 (by decide +kernel) rfl, ⟨by decide +kernel, by decide +kernel, by decide +kernel⟩⟩
theorem cv_RL_169 : CV RL 169 yX5_stuck cX5_stuck 2 (some .int) 0 := ⟨uw_in 1293 (by decide +kernel) rfl, uw_in 1294 (by decide +kernel) rfl, uw_in 1295 (by decide +kernel) rfl, uw_in 70 (by decide +kernel) rfl, uw_in 1296 (by decide +kernel) rfl, ⟨by decide +kernel, by decide +kernel, by decide +kernel⟩⟩
theorem cx_RL_170 : CSX RL 170 yL_next cL_next 3 (some .int) [(0, 8, 11, 55)] 2 := ⟨uw_in 764 (by decide +kernel) rfl, uw_in 765 (by decide +kernel) rfl, uw_in 64 (by decide +kernel) rfl, uw_in 766 (by decide +kernel) rfl, ⟨by decide +kernel, by decide +kernel, by decide +kernel⟩⟩
theorem cv_RL_172 : CV RL 172 yX5_next cX5_next 3 (some .int) 0 := ⟨uw_in 1301 (by decide +kernel) rfl, uw_in 1302 (by decide +kernel) rfl, uw_in 1303 (by decide +kernel) rfl, uw_in 70 (by decide +kernel) rfl, uw_in 1304 (by decide +kernel) rfl, ⟨by decide +kernel, by decide +kernel, by decide +kernel⟩⟩
theorem cx_RL_173 : CSX RL 173 yL_gentle cL_gentle 4 (some .int) [(0, 9, 12, 21), (0, 9, 15, 55)] 3 := ⟨uw_in 780 (by decide +kernel) rfl, uw_in 781 (by decide +kernel) rfl, uw_in 64 (by decide +kernel) rfl, uw_in 782 (by decide +kernel) rfl, ⟨by decide +kernel, by decide +kernel, by decide +kernel⟩⟩
theorem cv_RL_175 : CV RL 175 yX5_gentle cX5_gentle 4 (some .int) 1 := ⟨uw_in 1309 (by decide +kernel) rfl, uw_in 1310 (by decide +kernel) rfl, uw_in 1311 (by decide +kernel) rfl, uw_in 70 (by decide +kernel) rfl, uw_in 1312 (by decide +kernel) rfl, ⟨by decide +kernel, by decide +kernel, by decide +kernel⟩⟩
theorem cx_RL_176 : CSX RL 176 yL_wish cL_wish 6 (some .int) [(0, 12, 15, 21), (0, 12, 19, 13)] 5 := ⟨uw_in 796 (by decide +kernel) rfl, uw_in 797 (by decide +kernel) rfl, uw_in 64 (by decide +kernel) rfl, uw_in 798 (by decide +kernel) rfl, ⟨by decide +kernel, by decide +kernel, by decide +kernel⟩⟩
theorem cv_RL_179 : CV RL 179 yX5_wish cX5_wish 5 (some .int) 3 := ⟨uw_in 1317 (by decide +kernel) rfl, uw_in 1318 (by decide +kernel) rfl, uw_in 1319 (by decide +kernel) rfl, uw_in 70 (by decide +kernel) rfl, uw_in 1320 (by decide +kernel) rfl, ⟨by decide +kernel, by decide +kernel, by decide +kernel⟩⟩
theorem cv_RL_180 : CV RL 180 yX4_fulfilled cX4_fulfilled 1 (some .int) 0 := ⟨uw_in 307 (by decide +kernel) rfl, uw_in 308 (by decide +kernel) rfl, uw_in 309 (by decide +kernel) rfl, uw_in 65 (by decide +kernel) rfl, uw_in 310 (by decide +kernel) rfl, ⟨by decide +kernel, by decide +kernel, by decide +kernel⟩⟩
theorem cv_RL_183 : CV RL 183 yX5_fulfilled cX5_fulfilled 3 (some .int) 0 := ⟨uw_in 1321 (by decide +kernel) rfl, uw_in 1322 (by decide +kernel) rfl, uw_in 1323 (by decide +kernel) rfl, uw_in 70 (by decide +kernel) rfl, uw_in 1324 (by decide +kernel) rfl, ⟨by decide +kernel, by decide +kernel, by decide +kernel⟩⟩
theorem cv_RL_184 : CV RL 184 yX4_ways cX4_ways 1 (some .int) 0 := ⟨uw_in 323 (by decide +kernel) rfl, uw_in 324 (by decide +kernel) rfl, uw_in 325 (by decide +kernel) rfl, uw_in 65 (by decide +kernel) rfl, uw_in 326 (by decide +kernel) rfl, ⟨by decide +kernel, by decide +kernel, by decide +kernel⟩⟩
theorem cv_RL_187 : CV RL 187 yX5_ways cX5_ways 1 (some .int) 0 := ⟨uw_in 1329 (by decide +kernel) rfl, uw_in 1330 (by decide +kernel) rfl, uw_in 1331 (by decide +kernel) rfl, uw_in 70 (by decide +kernel) rfl, uw_in 1332 (by decide +kernel) rfl, ⟨by decide +kernel, by decide +kernel, by decide +kernel⟩⟩
theorem cv_RL_188 : CV RL 188 yX4_waysAgain cX4_waysAgain 1 (some .int) 0 := ⟨uw_in 345 (by decide +kernel) rfl, uw_in 346 (by decide +kernel) rfl, uw_in 347 (by decide +kernel) rfl, uw_in 65 (by decide +kernel) rfl, uw_in 348 (by decide +kernel) rfl, ⟨by decide +kernel, by decide +kernel, by decide +kernel⟩⟩
theorem cv_RL_191 : CV RL 191 yX5_waysAgain cX5_waysAgain 7 (some .int) 0 := ⟨uw_in 1341 (by decide +kernel) rfl, uw_in 1342 (by decide +kernel) rfl, uw_in 1343 (by decide +kernel) rfl, uw_in 70 (by decide +kernel) rfl, uw_in 1344 (by decide +kernel) rfl, ⟨by decide +kernel, by decide +kernel, by decide +kernel⟩⟩
theorem cx_RL_192 : CSX RL 192 yL_waysFor cL_waysFor 4 (some .int) [(0, 9, 12, 21), (0, 9, 15, 55)] 3 := ⟨uw_in 811 (by decide +kernel) rfl, uw_in 812 (by decide +kernel) rfl, uw_in 64 (by decide +kernel) rfl, uw_in 813 (by decide +kernel) rfl, ⟨by decide +kernel, by decide +kernel, by decide +kernel⟩⟩
theorem cv_RL_194 : CV RL 194 yX5_waysFor cX5_waysFor 2 (some .int) 1 := ⟨uw_in 1350 (by decide +kernel) rfl, uw_in 1351 (by decide +kernel) rfl, uw_in 1352 (by decide +kernel) rfl, uw_in 70 (by decide +kernel) rfl, uw_in 1353 (by decide +kernel) rfl, ⟨by decide +kernel, by decide +kernel, by decide +kernel⟩⟩
theorem cx_RL_195 : CSX RL 195 yL_fewest cL_fewest 3 (some .int) [(0, 8, 11, 55)] 2 := ⟨uw_in 825 (by decide +kernel) rfl, uw_in 826 (by decide +kernel) rfl, uw_in 64 (by decide +kernel) rfl, uw_in 827 (by decide +kernel) rfl, ⟨by decide +kernel, by decide +kernel, by decide +kernel⟩⟩
theorem cv_RL_197 : CV RL 197 yX5_fewest cX5_fewest 3 (some .int) 0 := ⟨uw_in 1354 (by decide +kernel) rfl, uw_in 1355 (by decide +kernel) rfl, uw_in 1356 (by decide +kernel) rfl, uw_in 70 (by decide +kernel) rfl, uw_in 1357 (by decide +kernel) rfl, ⟨by decide +kernel, by decide +kernel, by decide +kernel⟩⟩
theorem cv_RL_198 : CV RL 198 yX4_clique cX4_clique 3 (some .int) 0 := ⟨uw_in 368 (by decide +kernel) rfl, uw_in 369 (by decide +kernel) rfl, uw_in 370 (by decide +kernel) rfl, uw_in 65 (by decide +kernel) rfl, uw_in 371 (by decide +kernel) rfl, ⟨by decide +kernel, by decide +kernel, by decide +kernel⟩⟩
theorem cv_RL_201 : CV RL 201 yX5_clique cX5_clique 5 (some .int) 0 := ⟨uw_in 1361 (by decide +kernel) rfl, uw_in 1362 (by decide +kernel) rfl, uw_in 1363 (by decide +kernel) rfl, uw_in 70 (by decide +kernel) rfl, uw_in 1364 (by decide +kernel) rfl, ⟨by decide +kernel, by decide +kernel, by decide +kernel⟩⟩
theorem cx_RL_202 : CSX RL 202 yL_line cL_line 4 (some .int) [(0, 9, 12, 21)] 3 := ⟨uw_in 838 (by decide +kernel) rfl, uw_in 839 (by decide +kernel) rfl, uw_in 64 (by decide +kernel) rfl, uw_in 840 (by decide +kernel) rfl, ⟨by decide +kernel, by decide +kernel, by decide +kernel⟩⟩
theorem cv_RL_204 : CV RL 204 yX5_line cX5_line 4 (some .int) 1 := ⟨uw_in 1369 (by decide +kernel) rfl, uw_in 1370 (by decide +kernel) rfl, uw_in 1371 (by decide +kernel) rfl, uw_in 70 (by decide +kernel) rfl, uw_in 1372 (by decide +kernel) rfl, ⟨by decide +kernel, by decide +kernel, by decide +kernel⟩⟩
theorem cx_RL_205 : CSX RL 205 yL_character cL_character 4 (some .int) [(0, 9, 12, 21)] 3 := ⟨uw_in 859 (by decide +kernel) rfl, uw_in 860 (by decide +kernel) rfl, uw_in 64 (by decide +kernel) rfl, uw_in 861 (by decide +kernel) rfl, ⟨by decide +kernel, by decide +kernel, by decide +kernel⟩⟩
theorem cv_RL_207 : CV RL 207 yX5_character cX5_character 2 (some .char) 1 := ⟨uw_in 1377 (by decide +kernel) rfl, uw_in 1378 (by decide +kernel) rfl, uw_in 1379 (by decide +kernel) rfl, uw_in 70 (by decide +kernel) rfl, uw_in 1380 (by decide +kernel) rfl, ⟨by decide +kernel, by decide +kernel, by decide +kernel⟩⟩
theorem cx_RL_208 : CSX RL 208 yL_append cL_append 4 (some .int) [(0, 9, 12, 87)] 3 := ⟨uw_in 867 (by decide +kernel) rfl, uw_in 868 (by decide +kernel) rfl, uw_in 64 (by decide +kernel) rfl, uw_in 869 (by decide +kernel) rfl, ⟨by decide +kernel, by decide +kernel, by decide +kernel⟩⟩
theorem cv_RL_211 : CV RL 211 yX5_append cX5_append 2 (some .int) 1 := ⟨uw_in 1381 (by decide +kernel) rfl, uw_in 1382 (by decide +kernel) rfl, uw_in 1383 (by decide +kernel) rfl, uw_in 70 (by decide +kernel) rfl, uw_in 1384 (by decide +kernel) rfl, ⟨by decide +kernel, by decide +kernel, by decide +kernel⟩⟩
theorem cx_RL_212 : CSX RL 212 yL_read cL_read 3 (some .int) [(0, 8, 11, 13), (0, 8, 14, 15)] 2 := ⟨uw_in 895 (by decide +kernel) rfl, uw_in 896 (by decide +kernel) rfl, uw_in 64 (by decide +kernel) rfl, uw_in 897 (by decide +kernel) rfl, ⟨by decide +kernel, by decide +kernel, by decide +kernel⟩⟩
theorem cv_RL_214 : CV RL 214 yX5_read cX5_read 4 (some .int) 0 := ⟨uw_in 1385 (by decide +kernel) rfl, uw_in 1386 (by decide +kernel) rfl, uw_in 1387 (by decide +kernel) rfl, uw_in 70 (by decide +kernel) rfl, uw_in 1388 (by decide +kernel) rfl, ⟨by decide +kernel, by decide +kernel, by decide +kernel⟩⟩
theorem cv_RL_215 : CV RL 215 yX4_errorPosition cX4_errorPosition 1 (some .int) 0 := ⟨uw_in 379 (by decide +kernel) rfl, uw_in 380 (by decide +kernel) rfl, uw_in 381 (by decide +kernel) rfl, uw_in 65 (by decide +kernel) rfl, uw_in 382 (by decide +kernel) rfl, ⟨by decide +kernel, by decide +kernel, by decide +kernel⟩⟩
theorem cv_RL_218 : CV RL 218 yX5_errorPosition cX5_errorPosition 1 (some .int) 0 := ⟨uw_in 1424 (by decide +kernel) rfl, uw_in 1425 (by decide +kernel) rfl, uw_in 1426 (by decide +kernel) rfl, uw_in 70 (by decide +kernel) rfl, uw_in 1427 (by decide +kernel) rfl, ⟨by decide +kernel, by decide +kernel, by decide +kernel⟩⟩
theorem cx_RL_219 : CSX RL 219 yL_refusal cL_refusal 4 (some .int) [(0, 9, 12, 55)] 3 := ⟨uw_in 1001 (by decide +kernel) rfl, uw_in 1002 (by decide +kernel) rfl, uw_in 64 (by decide +kernel) rfl, uw_in 1003 (by decide +kernel) rfl, ⟨by decide +kernel, by decide +kernel, by decide +kernel⟩⟩
theorem cv_RL_222 : CV RL 222 yX5_refusal cX5_refusal 2 (some .int) 1 := ⟨uw_in 1428 (by decide +kernel) rfl, uw_in 1429 (by decide +kernel) rfl, uw_in 1430 (by decide +kernel) rfl, uw_in 70 (by decide +kernel) rfl, uw_in 1431 (by decide +kernel) rfl, ⟨by decide +kernel, by decide +kernel, by decide +kernel⟩⟩
theorem cx_RL_223 : CSX RL 223 yL_account cL_account 4 (some .int) [(0, 9, 12, 13)] 3 := ⟨uw_in 1009 (by decide +kernel) rfl, uw_in 1010 (by decide +kernel) rfl, uw_in 64 (by decide +kernel) rfl, uw_in 1011 (by decide +kernel) rfl, ⟨by decide +kernel, by decide +kernel, by decide +kernel⟩⟩
theorem cv_RL_225 : CV RL 225 yX5_account cX5_account 2 (some .int) 1 := ⟨uw_in 1432 (by decide +kernel) rfl, uw_in 1433 (by decide +kernel) rfl, uw_in 1434 (by decide +kernel) rfl, uw_in 70 (by decide +kernel) rfl, uw_in 1435 (by decide +kernel) rfl, ⟨by decide +kernel, by decide +kernel, by decide +kernel⟩⟩
theorem cv_RL_226 : CV RL 226 yX4_isWell cX4_isWell 1 (some .boolean) 0 := ⟨uw_in 383 (by decide +kernel) rfl, uw_in 384 (by decide +kernel) rfl, uw_in 385 (by decide +kernel) rfl, uw_in 65 (by decide +kernel) rfl, uw_in 386 (by decide +kernel) rfl, ⟨by decide +kernel, by decide +kernel, by decide +kernel⟩⟩
theorem cv_RL_230 : CV RL 230 yX5_isWell cX5_isWell 3 (some .boolean) 0 := ⟨uw_in 1452 (by decide +kernel) rfl, uw_in 1453 (by decide +kernel) rfl, uw_in 1454 (by decide +kernel) rfl, uw_in 70 (by decide +kernel) rfl, uw_in 1455 (by decide +kernel) rfl, ⟨by decide +kernel, by decide +kernel, by decide +kernel⟩⟩
theorem cx_RL_231 : CSX RL 231 yL_meanSize cL_meanSize 3 (some .int) [(0, 7, 10, 103)] 2 := ⟨uw_in 1033 (by decide +kernel) rfl, uw_in 1034 (by decide +kernel) rfl, uw_in 64 (by decide +kernel) rfl, uw_in 1035 (by decide +kernel) rfl, ⟨by decide +kernel, by decide +kernel, by decide +kernel⟩⟩
theorem cv_RL_234 : CV RL 234 yX5_meanSize cX5_meanSize 3 (some .double) 0 := ⟨uw_in 1456 (by decide +kernel) rfl, uw_in 1457 (by decide +kernel) rfl, uw_in 1458 (by decide +kernel) rfl, uw_in 70 (by decide +kernel) rfl, uw_in 1459 (by decide +kernel) rfl, ⟨by decide +kernel, by decide +kernel, by decide +kernel⟩⟩
theorem cx_RL_235 : CSX RL 235 yL_painted cL_painted 3 (some .int) [(0, 8, 11, 103)] 2 := ⟨uw_in 1061 (by decide +kernel) rfl, uw_in 1062 (by decide +kernel) rfl, uw_in 64 (by decide +kernel) rfl, uw_in 1063 (by decide +kernel) rfl, ⟨by decide +kernel, by decide +kernel, by decide +kernel⟩⟩
theorem cv_RL_237 : CV RL 237 yX5_painted cX5_painted 1 (some .float) 0 := ⟨uw_in 1460 (by decide +kernel) rfl, uw_in 1461 (by decide +kernel) rfl, uw_in 1462 (by decide +kernel) rfl, uw_in 70 (by decide +kernel) rfl, uw_in 1463 (by decide +kernel) rfl, ⟨by decide +kernel, by decide +kernel, by decide +kernel⟩⟩
theorem cx_RL_238 : CSX RL 238 yL_undo cL_undo 3 (some .int) [(0, 8, 11, 87)] 2 := ⟨uw_in 1069 (by decide +kernel) rfl, uw_in 1070 (by decide +kernel) rfl, uw_in 64 (by decide +kernel) rfl, uw_in 1071 (by decide +kernel) rfl, ⟨by decide +kernel, by decide +kernel, by decide +kernel⟩⟩
theorem cv_RL_240 : CV RL 240 yX5_undo cX5_undo 1 (some .int) 0 := ⟨uw_in 1464 (by decide +kernel) rfl, uw_in 1465 (by decide +kernel) rfl, uw_in 1466 (by decide +kernel) rfl, uw_in 70 (by decide +kernel) rfl, uw_in 1467 (by decide +kernel) rfl, ⟨by decide +kernel, by decide +kernel, by decide +kernel⟩⟩
theorem cv_RL_241 : CV RL 241 yX4_save cX4_save 1 (some .int) 0 := ⟨uw_in 401 (by decide +kernel) rfl, uw_in 402 (by decide +kernel) rfl, uw_in 403 (by decide +kernel) rfl, uw_in 65 (by decide +kernel) rfl, uw_in 404 (by decide +kernel) rfl, ⟨by decide +kernel, by decide +kernel, by decide +kernel⟩⟩
theorem cv_RL_244 : CV RL 244 yX5_save cX5_save 1 (some .int) 0 := ⟨uw_in 1468 (by decide +kernel) rfl, uw_in 1469 (by decide +kernel) rfl, uw_in 1470 (by decide +kernel) rfl, uw_in 70 (by decide +kernel) rfl, uw_in 1471 (by decide +kernel) rfl, ⟨by decide +kernel, by decide +kernel, by decide +kernel⟩⟩
theorem cx_RL_245 : CSX RL 245 yL_restore cL_restore 3 (some .int) [(0, 8, 11, 87)] 2 := ⟨uw_in 1081 (by decide +kernel) rfl, uw_in 1082 (by decide +kernel) rfl, uw_in 64 (by decide +kernel) rfl, uw_in 1083 (by decide +kernel) rfl, ⟨by decide +kernel, by decide +kernel, by decide +kernel⟩⟩
theorem cv_RL_247 : CV RL 247 yX5_restore cX5_restore 1 (some .int) 0 := ⟨uw_in 1472 (by decide +kernel) rfl, uw_in 1473 (by decide +kernel) rfl, uw_in 1474 (by decide +kernel) rfl, uw_in 70 (by decide +kernel) rfl, uw_in 1475 (by decide +kernel) rfl, ⟨by decide +kernel, by decide +kernel, by decide +kernel⟩⟩
def d_law_c0 (x1 x2 x3 : Int32) (V : VT) : Option VT :=
  bw (d_L_country x1 V) (fun r2 V3 => bw (d_X5_country x1 V3) (fun r5 V6 => bd (d_X5_thrown V6) (fun r8 => if r8 = r2 then if r2 = (0 : Int32) then if (V6 118 (0 : Int32).toNatClampNeg) = r5 then some V6 else none
    else some V6
  else none)))
def d_law_c1 (x1 x2 x3 : Int32) (V : VT) : Option VT :=
  bw (d_L_border x1 x2 V) (fun r2 V3 => bw (d_X5_border x1 x2 V3) (fun r5 V6 => bd (d_X5_thrown V6) (fun r8 => if r8 = r2 then if r2 = (0 : Int32) then if (V6 118 (0 : Int32).toNatClampNeg) = r5 then some V6 else none
    else some V6
  else none)))
def d_law_c2 (x1 x2 x3 : Int32) (V : VT) : Option VT :=
  bw (d_L_erase x1 x2 V) (fun r2 V3 => bw (d_X5_erase x1 x2 V3) (fun r5 V6 => bd (d_X5_thrown V6) (fun r8 => if r8 = r2 then if r2 = (0 : Int32) then if (V6 118 (0 : Int32).toNatClampNeg) = r5 then some V6 else none
    else some V6
  else none)))
def d_law_c3 (x1 x2 x3 : Int32) (V : VT) : Option VT :=
  bw (d_L_hasBorder x1 x2 V) (fun r2 V3 => bw (d_X5_hasBorder x1 x2 V3) (fun r5 V6 => bd (d_X5_thrown V6) (fun r8 => if r8 = r2 then if r2 = (0 : Int32) then if r5 = (0 : Int32) then if (V6 118 (0 : Int32).toNatClampNeg) = (0 : Int32) then some V6 else none
      else if (V6 118 (0 : Int32).toNatClampNeg) = (1 : Int32) then some V6 else none
    else some V6
  else none)))
def d_law_c4 (x1 x2 x3 : Int32) (V : VT) : Option VT :=
  bw (d_L_countryOf x1 x2 V) (fun r2 V3 => bw (d_X5_countryOf x1 x2 V3) (fun r5 V6 => bd (d_X5_thrown V6) (fun r8 => if r8 = r2 then if r2 = (0 : Int32) then if (V6 118 (0 : Int32).toNatClampNeg) = r5 then some V6 else none
    else some V6
  else none)))
def d_law_c5 (x1 x2 x3 : Int32) (V : VT) : Option VT :=
  bw (d_L_hues x1 V) (fun r2 V3 => bw (d_X5_hues x1 V3) (fun r5 V6 => bd (d_X5_thrown V6) (fun r8 => if r8 = r2 then if r2 = (0 : Int32) then if (V6 118 (0 : Int32).toNatClampNeg) = r5 then some V6 else none
    else some V6
  else none)))
def d_law_c6 (x1 x2 x3 : Int32) (V : VT) : Option VT :=
  bw (d_L_pots x1 x2 V) (fun r2 V3 => bw (d_X5_pots x1 x2 V3) (fun r5 V6 => bd (d_X5_thrown V6) (fun r8 => if r8 = r2 then if r2 = (0 : Int32) then if (V6 118 (0 : Int32).toNatClampNeg) = r5 then some V6 else none
    else some V6
  else none)))
def d_law_c7 (x1 x2 x3 : Int32) (V : VT) : Option VT :=
  bw (d_L_hueOf x1 x2 V) (fun r2 V3 => bw (d_X5_hueOf x1 x2 V3) (fun r5 V6 => bd (d_X5_thrown V6) (fun r8 => if r8 = r2 then if r2 = (0 : Int32) then if (V6 118 (0 : Int32).toNatClampNeg) = r5 then some V6 else none
    else some V6
  else none)))
def d_law_c8 (x1 x2 x3 : Int32) (V : VT) : Option VT :=
  bw (d_L_paint x1 x2 V) (fun r2 V3 => bw (d_X5_paint x1 x2 V3) (fun r5 V6 => bd (d_X5_thrown V6) (fun r8 => if r8 = r2 then if r2 = (0 : Int32) then if (V6 118 (0 : Int32).toNatClampNeg) = r5 then some V6 else none
    else some V6
  else none)))
def d_law_c9 (x1 x2 x3 : Int32) (V : VT) : Option VT :=
  bw (d_L_bars x1 x2 V) (fun r2 V3 => bw (d_X5_bars x1 x2 V3) (fun r5 V6 => bd (d_X5_thrown V6) (fun r8 => if r8 = r2 then if r2 = (0 : Int32) then if (V6 118 (0 : Int32).toNatClampNeg) = r5 then some V6 else none
    else some V6
  else none)))
def d_law_c10 (x1 x2 x3 : Int32) (V : VT) : Option VT :=
  bw (d_L_back V) (fun r2 V3 => bw (d_X5_back V3) (fun r5 V6 => bd (d_X5_thrown V6) (fun r8 => if r8 = r2 then if r2 = (0 : Int32) then if (V6 118 (0 : Int32).toNatClampNeg) = r5 then some V6 else none
    else some V6
  else none)))
def d_law_c11 (x1 x2 x3 : Int32) (V : VT) : Option VT :=
  bw (d_X4_fill V) (fun r2 V3 => bw (d_X5_fill V3) (fun r5 V6 => if r2 = r5 then some V6
  else none))
def d_law_c12 (x1 x2 x3 : Int32) (V : VT) : Option VT :=
  bw (d_L_step x1 V) (fun r2 V3 => bw (d_X5_step x1 V3) (fun r5 V6 => bd (d_X5_thrown V6) (fun r8 => if r8 = r2 then if r2 = (0 : Int32) then if (V6 118 (0 : Int32).toNatClampNeg) = r5 then some V6 else none
    else some V6
  else none)))
def d_law_c13 (x1 x2 x3 : Int32) (V : VT) : Option VT :=
  bw (d_L_stuck V) (fun r2 V3 => bw (d_X5_stuck V3) (fun r5 V6 => bd (d_X5_thrown V6) (fun r8 => if r8 = r2 then if r2 = (0 : Int32) then if (V6 118 (0 : Int32).toNatClampNeg) = r5 then some V6 else none
    else some V6
  else none)))
def d_law_c14 (x1 x2 x3 : Int32) (V : VT) : Option VT :=
  bw (d_L_next V) (fun r2 V3 => bw (d_X5_next V3) (fun r5 V6 => bd (d_X5_thrown V6) (fun r8 => if r8 = r2 then if r2 = (0 : Int32) then if (V6 118 (0 : Int32).toNatClampNeg) = r5 then some V6 else none
    else some V6
  else none)))
def d_law_c15 (x1 x2 x3 : Int32) (V : VT) : Option VT :=
  bw (d_L_gentle x1 V) (fun r2 V3 => bw (d_X5_gentle x1 V3) (fun r5 V6 => bd (d_X5_thrown V6) (fun r8 => if r8 = r2 then if r2 = (0 : Int32) then if (V6 118 (0 : Int32).toNatClampNeg) = r5 then some V6 else none
    else some V6
  else none)))
def d_law_c16 (x1 x2 x3 : Int32) (V : VT) : Option VT :=
  bw (d_L_wish x1 x2 x3 V) (fun r2 V3 => bw (d_X5_wish x1 x2 x3 V3) (fun r5 V6 => bd (d_X5_thrown V6) (fun r8 => if r8 = r2 then if r2 = (0 : Int32) then if (V6 118 (0 : Int32).toNatClampNeg) = r5 then some V6 else none
    else some V6
  else none)))
def d_law_c17 (x1 x2 x3 : Int32) (V : VT) : Option VT :=
  bd (d_X4_fulfilled V) (fun r2 => bw (d_X5_fulfilled V) (fun r4 V5 => if r2 = r4 then some V5
  else none))
def d_law_c18 (x1 x2 x3 : Int32) (V : VT) : Option VT :=
  bw (d_X4_ways V) (fun r2 V3 => bw (d_X5_ways V3) (fun r5 V6 => if r2 = r5 then some V6
  else none))
def d_law_c19 (x1 x2 x3 : Int32) (V : VT) : Option VT :=
  bw (d_X4_waysAgain V) (fun r2 V3 => bw (d_X5_waysAgain V3) (fun r5 V6 => if r2 = r5 then some V6
  else none))
def d_law_c20 (x1 x2 x3 : Int32) (V : VT) : Option VT :=
  bw (d_L_waysFor x1 V) (fun r2 V3 => bw (d_X5_waysFor x1 V3) (fun r5 V6 => bd (d_X5_thrown V6) (fun r8 => if r8 = r2 then if r2 = (0 : Int32) then if (V6 118 (0 : Int32).toNatClampNeg) = r5 then some V6 else none
    else some V6
  else none)))
def d_law_c21 (x1 x2 x3 : Int32) (V : VT) : Option VT :=
  bw (d_L_fewest V) (fun r2 V3 => bw (d_X5_fewest V3) (fun r5 V6 => bd (d_X5_thrown V6) (fun r8 => if r8 = r2 then if r2 = (0 : Int32) then if (V6 118 (0 : Int32).toNatClampNeg) = r5 then some V6 else none
    else some V6
  else none)))
def d_law_c22 (x1 x2 x3 : Int32) (V : VT) : Option VT :=
  bd (d_X4_clique V) (fun r2 => bw (d_X5_clique V) (fun r4 V5 => if r2 = r4 then some V5
  else none))
def d_law_c23 (x1 x2 x3 : Int32) (V : VT) : Option VT :=
  bw (d_L_line x1 V) (fun r2 V3 => bw (d_X5_line x1 V3) (fun r5 V6 => bd (d_X5_thrown V6) (fun r8 => if r8 = r2 then if r2 = (0 : Int32) then if (V6 118 (0 : Int32).toNatClampNeg) = r5 then some V6 else none
    else some V6
  else none)))
def d_law_c24 (x1 x2 x3 : Int32) (V : VT) : Option VT :=
  bw (d_L_character x1 V) (fun r2 V3 => bw (d_X5_character x1 V3) (fun r5 V6 => bd (d_X5_thrown V6) (fun r8 => if r8 = r2 then if r2 = (0 : Int32) then if (V6 118 (0 : Int32).toNatClampNeg) = r5 then some V6 else none
    else some V6
  else none)))
def d_law_c25 (x1 x2 x3 : Int32) (V : VT) : Option VT :=
  bw (d_L_append (x1.toUInt32 % 65536).toInt32 V) (fun r2 V3 => bw (d_X5_append (x1.toUInt32 % 65536).toInt32 V3) (fun r5 V6 => bd (d_X5_thrown V6) (fun r8 => if r8 = r2 then if r2 = (0 : Int32) then if (V6 118 (0 : Int32).toNatClampNeg) = r5 then some V6 else none
    else some V6
  else none)))
def d_law_c26 (x1 x2 x3 : Int32) (V : VT) : Option VT :=
  bw (d_L_read V) (fun r2 V3 => bw (d_X5_read V3) (fun r5 V6 => bd (d_X5_thrown V6) (fun r8 => if r8 = r2 then if r2 = (0 : Int32) then if (V6 118 (0 : Int32).toNatClampNeg) = r5 then some V6 else none
    else some V6
  else none)))
def d_law_c27 (x1 x2 x3 : Int32) (V : VT) : Option VT :=
  bd (d_X4_errorPosition V) (fun r2 => bw (d_X5_errorPosition V) (fun r4 V5 => if r2 = r4 then some V5
  else none))
def d_law_c28 (x1 x2 x3 : Int32) (V : VT) : Option VT :=
  if x1 = (0 : Int32) then bw (d_L_refusal (0 : Int32) V) (fun r3 V4 => if x1 = (0 : Int32) then bw (d_X5_refusal (0 : Int32) V4) (fun r7 V8 => bd (d_X5_thrown V8) (fun r10 => if r10 = r3 then if r3 = (0 : Int32) then if (V8 118 (0 : Int32).toNatClampNeg) = r7 then some V8 else none
        else some V8
      else none))
    else bw (d_X5_refusal (1 : Int32) V4) (fun r15 V16 => bd (d_X5_thrown V16) (fun r18 => if r18 = r3 then if r3 = (0 : Int32) then if (V16 118 (0 : Int32).toNatClampNeg) = r15 then some V16 else none
        else some V16
      else none)))
  else bw (d_L_refusal (1 : Int32) V) (fun r23 V24 => if x1 = (0 : Int32) then bw (d_X5_refusal (0 : Int32) V24) (fun r27 V28 => bd (d_X5_thrown V28) (fun r30 => if r30 = r23 then if r23 = (0 : Int32) then if (V28 118 (0 : Int32).toNatClampNeg) = r27 then some V28 else none
        else some V28
      else none))
    else bw (d_X5_refusal (1 : Int32) V24) (fun r35 V36 => bd (d_X5_thrown V36) (fun r38 => if r38 = r23 then if r23 = (0 : Int32) then if (V36 118 (0 : Int32).toNatClampNeg) = r35 then some V36 else none
        else some V36
      else none)))
def d_law_c29 (x1 x2 x3 : Int32) (V : VT) : Option VT :=
  bw (d_L_account x1 V) (fun r2 V3 => bw (d_X5_account x1 V3) (fun r5 V6 => bd (d_X5_thrown V6) (fun r8 => if r8 = r2 then if r2 = (0 : Int32) then if (V6 118 (0 : Int32).toNatClampNeg) = r5 then some V6 else none
    else some V6
  else none)))
def d_law_c30 (x1 x2 x3 : Int32) (V : VT) : Option VT :=
  bd (d_X4_isWell V) (fun r2 => bw (d_X5_isWell V) (fun r4 V5 => if r2 = r4 then some V5
  else none))
def d_law_c31 (x1 x2 x3 : Int32) (V : VT) : Option VT :=
  bw (d_L_meanSize V) (fun r2 V3 => bw (d_X5_meanSize V3) (fun r5 V6 => bd (d_X5_thrown V6) (fun r8 => if r8 = r2 then if r2 = (0 : Int32) then if Op.cmpValue (FP.dcmp (u64 (V6 119 (2 * (0 : Int32).toNatClampNeg)) (V6 119 (2 * (0 : Int32).toNatClampNeg + 1))) r5) .l = 0 then some V6 else none
    else some V6
  else none)))
def d_law_c32 (x1 x2 x3 : Int32) (V : VT) : Option VT :=
  bw (d_L_painted V) (fun r2 V3 => bw (d_X5_painted V3) (fun r5 V6 => bd (d_X5_thrown V6) (fun r8 => if r8 = r2 then if r2 = (0 : Int32) then asr (n64ok (FP.f2d r5)) (if Op.cmpValue (FP.dcmp (u64 (V6 119 (2 * (0 : Int32).toNatClampNeg)) (V6 119 (2 * (0 : Int32).toNatClampNeg + 1))) (FP.f2d r5)) .l = 0 then some V6 else none)
    else some V6
  else none)))
def d_law_c33 (x1 x2 x3 : Int32) (V : VT) : Option VT :=
  bw (d_L_undo V) (fun r2 V3 => bw (d_X5_undo V3) (fun r5 V6 => bd (d_X5_thrown V6) (fun r8 => if r8 = r2 then if r2 = (0 : Int32) then if (V6 118 (0 : Int32).toNatClampNeg) = r5 then some V6 else none
    else some V6
  else none)))
def d_law_c34 (x1 x2 x3 : Int32) (V : VT) : Option VT :=
  bw (d_X4_save V) (fun r2 V3 => bw (d_X5_save V3) (fun r5 V6 => if r2 = r5 then some V6
  else none))
def d_law_c35 (x1 x2 x3 : Int32) (V : VT) : Option VT :=
  bw (d_L_restore V) (fun r2 V3 => bw (d_X5_restore V3) (fun r5 V6 => bd (d_X5_thrown V6) (fun r8 => if r8 = r2 then if r2 = (0 : Int32) then if (V6 118 (0 : Int32).toNatClampNeg) = r5 then some V6 else none
    else some V6
  else none)))
def d_law_body (x0 x1 x2 x3 : Int32) (V : VT) : Option VT :=
  if (x0 &&& (63 : Int32)) = (0 : Int32) then d_law_c0 x1 x2 x3 V
  else if (x0 &&& (63 : Int32)) = (1 : Int32) then d_law_c1 x1 x2 x3 V
  else if (x0 &&& (63 : Int32)) = (2 : Int32) then d_law_c2 x1 x2 x3 V
  else if (x0 &&& (63 : Int32)) = (3 : Int32) then d_law_c3 x1 x2 x3 V
  else if (x0 &&& (63 : Int32)) = (4 : Int32) then d_law_c4 x1 x2 x3 V
  else if (x0 &&& (63 : Int32)) = (5 : Int32) then d_law_c5 x1 x2 x3 V
  else if (x0 &&& (63 : Int32)) = (6 : Int32) then d_law_c6 x1 x2 x3 V
  else if (x0 &&& (63 : Int32)) = (7 : Int32) then d_law_c7 x1 x2 x3 V
  else if (x0 &&& (63 : Int32)) = (8 : Int32) then d_law_c8 x1 x2 x3 V
  else if (x0 &&& (63 : Int32)) = (9 : Int32) then d_law_c9 x1 x2 x3 V
  else if (x0 &&& (63 : Int32)) = (10 : Int32) then d_law_c10 x1 x2 x3 V
  else if (x0 &&& (63 : Int32)) = (11 : Int32) then d_law_c11 x1 x2 x3 V
  else if (x0 &&& (63 : Int32)) = (12 : Int32) then d_law_c12 x1 x2 x3 V
  else if (x0 &&& (63 : Int32)) = (13 : Int32) then d_law_c13 x1 x2 x3 V
  else if (x0 &&& (63 : Int32)) = (14 : Int32) then d_law_c14 x1 x2 x3 V
  else if (x0 &&& (63 : Int32)) = (15 : Int32) then d_law_c15 x1 x2 x3 V
  else if (x0 &&& (63 : Int32)) = (16 : Int32) then d_law_c16 x1 x2 x3 V
  else if (x0 &&& (63 : Int32)) = (17 : Int32) then d_law_c17 x1 x2 x3 V
  else if (x0 &&& (63 : Int32)) = (18 : Int32) then d_law_c18 x1 x2 x3 V
  else if (x0 &&& (63 : Int32)) = (19 : Int32) then d_law_c19 x1 x2 x3 V
  else if (x0 &&& (63 : Int32)) = (20 : Int32) then d_law_c20 x1 x2 x3 V
  else if (x0 &&& (63 : Int32)) = (21 : Int32) then d_law_c21 x1 x2 x3 V
  else if (x0 &&& (63 : Int32)) = (22 : Int32) then d_law_c22 x1 x2 x3 V
  else if (x0 &&& (63 : Int32)) = (23 : Int32) then d_law_c23 x1 x2 x3 V
  else if (x0 &&& (63 : Int32)) = (24 : Int32) then d_law_c24 x1 x2 x3 V
  else if (x0 &&& (63 : Int32)) = (25 : Int32) then d_law_c25 x1 x2 x3 V
  else if (x0 &&& (63 : Int32)) = (26 : Int32) then d_law_c26 x1 x2 x3 V
  else if (x0 &&& (63 : Int32)) = (27 : Int32) then d_law_c27 x1 x2 x3 V
  else if (x0 &&& (63 : Int32)) = (28 : Int32) then d_law_c28 x1 x2 x3 V
  else if (x0 &&& (63 : Int32)) = (29 : Int32) then d_law_c29 x1 x2 x3 V
  else if (x0 &&& (63 : Int32)) = (30 : Int32) then d_law_c30 x1 x2 x3 V
  else if (x0 &&& (63 : Int32)) = (31 : Int32) then d_law_c31 x1 x2 x3 V
  else if (x0 &&& (63 : Int32)) = (32 : Int32) then d_law_c32 x1 x2 x3 V
  else if (x0 &&& (63 : Int32)) = (33 : Int32) then d_law_c33 x1 x2 x3 V
  else if (x0 &&& (63 : Int32)) = (34 : Int32) then d_law_c34 x1 x2 x3 V
  else if (x0 &&& (63 : Int32)) = (35 : Int32) then d_law_c35 x1 x2 x3 V
  else some V

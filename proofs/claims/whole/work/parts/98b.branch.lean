-- the law, branch by branch
theorem lk_L_143 : LkV RL 143 RX10 yX10_feed cX10_feed 6 (some .int) 5 := ⟨⟨kw_510, kw_511, kw_512, kw_137, kw_513⟩, rfl, by decide, by decide, by decide +kernel⟩
theorem lkq_147 : LkV RL 147 RX11 yX11_feed cX11_feed 7 (some .int) 5 := ⟨⟨kw_2152, kw_2153, kw_2154, kw_148, kw_2155⟩, rfl, by decide, by decide, by decide +kernel⟩
theorem lk_L_148 : LkV RL 148 RX10 yX10_end cX10_end 2 (some .boolean) 1 := ⟨⟨kw_527, kw_528, kw_529, kw_137, kw_530⟩, rfl, by decide, by decide, by decide +kernel⟩
theorem lkq_151 : LkV RL 151 RX11 yX11_end cX11_end 2 (some .boolean) 1 := ⟨⟨kw_2156, kw_2157, kw_2158, kw_148, kw_2159⟩, rfl, by decide, by decide, by decide +kernel⟩
theorem lkw_152 : LkW RL 152 yL_village cL_village 3 [(0, 8, 11, 13), (0, 8, 14, 15)] 2 := ⟨⟨kw_1071, kw_1072, kw_136, kw_1073⟩, by decide, by decide, by decide +kernel⟩
theorem lkq_157 : LkV RL 157 RX11 yX11_village cX11_village 3 (some .int) 0 := ⟨⟨kw_2164, kw_2165, kw_2166, kw_148, kw_2167⟩, rfl, by decide, by decide, by decide +kernel⟩
theorem lkw_161 : LkW RL 161 yL_law cL_law 3 [(0, 8, 11, 13)] 2 := ⟨⟨kw_1344, kw_1345, kw_136, kw_1346⟩, by decide, by decide, by decide +kernel⟩
theorem lkq_163 : LkV RL 163 RX11 yX11_law cX11_law 3 (some .int) 0 := ⟨⟨kw_2349, kw_2350, kw_2351, kw_148, kw_2352⟩, rfl, by decide, by decide, by decide +kernel⟩
theorem lk_L_164 : LkV RL 164 RX10 yX10_fault cX10_fault 1 (some .int) 0 := ⟨⟨kw_535, kw_536, kw_537, kw_137, kw_538⟩, rfl, by decide, by decide, by decide +kernel⟩
theorem lkq_167 : LkV RL 167 RX11 yX11_fault cX11_fault 1 (some .int) 0 := ⟨⟨kw_2160, kw_2161, kw_2162, kw_148, kw_2163⟩, rfl, by decide, by decide, by decide +kernel⟩
theorem lkw_168 : LkW RL 168 yL_person cL_person 5 [(0, 10, 13, 24), (0, 10, 17, 26)] 4 := ⟨⟨kw_1385, kw_1386, kw_136, kw_1387⟩, by decide, by decide, by decide +kernel⟩
theorem lkq_171 : LkV RL 171 RX11 yX11_person cX11_person 3 (some .int) 2 := ⟨⟨kw_2477, kw_2478, kw_2479, kw_148, kw_2480⟩, rfl, by decide, by decide, by decide +kernel⟩
theorem lkw_172 : LkW RL 172 yL_left cL_left 4 [(0, 16, 19, 24)] 3 := ⟨⟨kw_1447, kw_1448, kw_136, kw_1449⟩, by decide, by decide, by decide +kernel⟩
theorem lkq_175 : LkV RL 175 RX11 yX11_left cX11_left 2 (some .boolean) 1 := ⟨⟨kw_2493, kw_2494, kw_2495, kw_148, kw_2496⟩, rfl, by decide, by decide, by decide +kernel⟩
theorem lkw_176 : LkW RL 176 yL_apart cL_apart 6 [(0, 19, 22, 24), (0, 19, 26, 36)] 5 := ⟨⟨kw_1464, kw_1465, kw_136, kw_1466⟩, by decide, by decide, by decide +kernel⟩
theorem lkq_179 : LkV RL 179 RX11 yX11_apart cX11_apart 4 (some .boolean) 3 := ⟨⟨kw_2501, kw_2502, kw_2503, kw_148, kw_2504⟩, rfl, by decide, by decide, by decide +kernel⟩
theorem lkw_180 : LkW RL 180 yL_sure cL_sure 5 [(0, 17, 20, 24), (0, 17, 24, 36)] 4 := ⟨⟨kw_1493, kw_1494, kw_136, kw_1495⟩, by decide, by decide, by decide +kernel⟩
theorem lkq_182 : LkV RL 182 RX11 yX11_sure cX11_sure 3 (some .boolean) 2 := ⟨⟨kw_2505, kw_2506, kw_2507, kw_148, kw_2508⟩, rfl, by decide, by decide, by decide +kernel⟩
theorem lkw_183 : LkW RL 183 yL_manner cL_manner 6 [(0, 12, 15, 24), (0, 12, 19, 13), (0, 12, 23, 36)] 5 := ⟨⟨kw_1500, kw_1501, kw_136, kw_1502⟩, by decide, by decide, by decide +kernel⟩
theorem lkq_185 : LkV RL 185 RX11 yX11_manner cX11_manner 4 (some .int) 3 := ⟨⟨kw_2509, kw_2510, kw_2511, kw_148, kw_2512⟩, rfl, by decide, by decide, by decide +kernel⟩
theorem lkw_186 : LkW RL 186 yL_treat cL_treat 6 [(0, 12, 15, 24), (0, 12, 19, 13), (0, 12, 23, 36)] 5 := ⟨⟨kw_1540, kw_1541, kw_136, kw_1542⟩, by decide, by decide, by decide +kernel⟩
theorem lkq_189 : LkV RL 189 RX11 yX11_treat cX11_treat 4 (some .int) 3 := ⟨⟨kw_2353, kw_2354, kw_2355, kw_148, kw_2356⟩, rfl, by decide, by decide, by decide +kernel⟩
theorem lkw_190 : LkW RL 190 yL_turn cL_turn 5 [(0, 10, 13, 24)] 4 := ⟨⟨kw_1554, kw_1555, kw_136, kw_1556⟩, by decide, by decide, by decide +kernel⟩
theorem lkq_192 : LkV RL 192 RX11 yX11_turn cX11_turn 3 (some .int) 2 := ⟨⟨kw_2424, kw_2425, kw_2426, kw_148, kw_2427⟩, rfl, by decide, by decide, by decide +kernel⟩
theorem lkw_193 : LkW RL 193 yL_ask cL_ask 4 [(0, 16, 19, 24)] 3 := ⟨⟨kw_1567, kw_1568, kw_136, kw_1569⟩, by decide, by decide, by decide +kernel⟩
theorem lkq_195 : LkV RL 195 RX11 yX11_ask cX11_ask 3 (some .boolean) 1 := ⟨⟨kw_2432, kw_2433, kw_2434, kw_148, kw_2435⟩, rfl, by decide, by decide, by decide +kernel⟩
theorem lk_L_196 : LkV RL 196 RX10 yX10_day cX10_day 1 (some .int) 0 := ⟨⟨kw_539, kw_540, kw_541, kw_137, kw_542⟩, rfl, by decide, by decide, by decide +kernel⟩
theorem lkq_199 : LkV RL 199 RX11 yX11_day cX11_day 2 (some .int) 0 := ⟨⟨kw_2436, kw_2437, kw_2438, kw_148, kw_2439⟩, rfl, by decide, by decide, by decide +kernel⟩
theorem lkw_200 : LkW RL 200 yL_read cL_read 4 [(0, 9, 12, 24)] 3 := ⟨⟨kw_1582, kw_1583, kw_136, kw_1584⟩, by decide, by decide, by decide +kernel⟩
theorem lkq_202 : LkV RL 202 RX11 yX11_read cX11_read 2 (some .int) 1 := ⟨⟨kw_2444, kw_2445, kw_2446, kw_148, kw_2447⟩, rfl, by decide, by decide, by decide +kernel⟩
theorem lkw_203 : LkW RL 203 yL_claim cL_claim 5 [(0, 10, 13, 24), (0, 10, 17, 13), (0, 10, 21, 36)] 4 := ⟨⟨kw_1594, kw_1595, kw_136, kw_1596⟩, by decide, by decide, by decide +kernel⟩
theorem lkq_205 : LkV RL 205 RX11 yX11_claim cX11_claim 4 (some .int) 2 := ⟨⟨kw_2452, kw_2453, kw_2454, kw_148, kw_2455⟩, rfl, by decide, by decide, by decide +kernel⟩
theorem lkw_206 : LkW RL 206 yL_query cL_query 6 [(0, 12, 15, 24)] 5 := ⟨⟨kw_1623, kw_1624, kw_136, kw_1625⟩, by decide, by decide, by decide +kernel⟩
theorem lkq_208 : LkV RL 208 RX11 yX11_query cX11_query 5 (some .int) 3 := ⟨⟨kw_2456, kw_2457, kw_2458, kw_148, kw_2459⟩, rfl, by decide, by decide, by decide +kernel⟩
theorem lkw_209 : LkW RL 209 yL_stroll cL_stroll 4 [(0, 9, 12, 13)] 3 := ⟨⟨kw_1638, kw_1639, kw_136, kw_1640⟩, by decide, by decide, by decide +kernel⟩
theorem lkq_211 : LkV RL 211 RX11 yX11_stroll cX11_stroll 2 (some .int) 1 := ⟨⟨kw_2464, kw_2465, kw_2466, kw_148, kw_2467⟩, rfl, by decide, by decide, by decide +kernel⟩
theorem lkw_212 : LkW RL 212 yL_possible cL_possible 5 [(0, 10, 13, 24)] 4 := ⟨⟨kw_1656, kw_1657, kw_136, kw_1658⟩, by decide, by decide, by decide +kernel⟩
theorem lkq_214 : LkV RL 214 RX11 yX11_possible cX11_possible 3 (some .int) 2 := ⟨⟨kw_2513, kw_2514, kw_2515, kw_148, kw_2516⟩, rfl, by decide, by decide, by decide +kernel⟩
theorem lkw_215 : LkW RL 215 yL_knows cL_knows 5 [(0, 10, 13, 24)] 4 := ⟨⟨kw_1664, kw_1665, kw_136, kw_1666⟩, by decide, by decide, by decide +kernel⟩
theorem lkq_217 : LkV RL 217 RX11 yX11_knows cX11_knows 3 (some .int) 2 := ⟨⟨kw_2517, kw_2518, kw_2519, kw_148, kw_2520⟩, rfl, by decide, by decide, by decide +kernel⟩
theorem lkw_218 : LkW RL 218 yL_thinks cL_thinks 6 [(0, 19, 22, 24)] 5 := ⟨⟨kw_1672, kw_1673, kw_136, kw_1674⟩, by decide, by decide, by decide +kernel⟩
theorem lkq_220 : LkV RL 220 RX11 yX11_thinks cX11_thinks 6 (some .boolean) 3 := ⟨⟨kw_2525, kw_2526, kw_2527, kw_148, kw_2528⟩, rfl, by decide, by decide, by decide +kernel⟩
theorem lkw_221 : LkW RL 221 yL_common cL_common 4 [(0, 9, 12, 24)] 3 := ⟨⟨kw_1683, kw_1684, kw_136, kw_1685⟩, by decide, by decide, by decide +kernel⟩
theorem lkq_223 : LkV RL 223 RX11 yX11_common cX11_common 5 (some .int) 1 := ⟨⟨kw_2529, kw_2530, kw_2531, kw_148, kw_2532⟩, rfl, by decide, by decide, by decide +kernel⟩
theorem lkw_224 : LkW RL 224 yL_muddy cL_muddy 4 [(0, 9, 12, 24)] 3 := ⟨⟨kw_1698, kw_1699, kw_136, kw_1700⟩, by decide, by decide, by decide +kernel⟩
theorem lkq_226 : LkV RL 226 RX11 yX11_muddy cX11_muddy 5 (some .int) 1 := ⟨⟨kw_2537, kw_2538, kw_2539, kw_148, kw_2540⟩, rfl, by decide, by decide, by decide +kernel⟩
theorem lkw_227 : LkW RL 227 yL_backs cL_backs 4 [(0, 9, 12, 24)] 3 := ⟨⟨kw_1717, kw_1718, kw_136, kw_1719⟩, by decide, by decide, by decide +kernel⟩
theorem lkq_229 : LkV RL 229 RX11 yX11_backs cX11_backs 4 (some .int) 1 := ⟨⟨kw_2549, kw_2550, kw_2551, kw_148, kw_2552⟩, rfl, by decide, by decide, by decide +kernel⟩
theorem lkw_230 : LkW RL 230 yL_gives cL_gives 4 [(0, 9, 12, 24)] 3 := ⟨⟨kw_1746, kw_1747, kw_136, kw_1748⟩, by decide, by decide, by decide +kernel⟩
theorem lkq_232 : LkV RL 232 RX11 yX11_gives cX11_gives 4 (some .int) 1 := ⟨⟨kw_2558, kw_2559, kw_2560, kw_148, kw_2561⟩, rfl, by decide, by decide, by decide +kernel⟩
theorem lkw_233 : LkW RL 233 yL_never cL_never 4 [(0, 9, 12, 24)] 3 := ⟨⟨kw_1766, kw_1767, kw_136, kw_1768⟩, by decide, by decide, by decide +kernel⟩
theorem lkq_235 : LkV RL 235 RX11 yX11_never cX11_never 6 (some .int) 1 := ⟨⟨kw_2570, kw_2571, kw_2572, kw_148, kw_2573⟩, rfl, by decide, by decide, by decide +kernel⟩
theorem lkw_236 : LkW RL 236 yL_question cL_question 4 [(0, 9, 12, 24)] 3 := ⟨⟨kw_1781, kw_1782, kw_136, kw_1783⟩, by decide, by decide, by decide +kernel⟩
theorem lkq_238 : LkV RL 238 RX11 yX11_question cX11_question 2 (some .int) 1 := ⟨⟨kw_2574, kw_2575, kw_2576, kw_148, kw_2577⟩, rfl, by decide, by decide, by decide +kernel⟩
theorem lkw_239 : LkW RL 239 yL_queries cL_queries 4 [(0, 9, 12, 24)] 3 := ⟨⟨kw_1799, kw_1800, kw_136, kw_1801⟩, by decide, by decide, by decide +kernel⟩
theorem lkq_241 : LkV RL 241 RX11 yX11_queries cX11_queries 7 (some .int) 1 := ⟨⟨kw_2582, kw_2583, kw_2584, kw_148, kw_2585⟩, rfl, by decide, by decide, by decide +kernel⟩
theorem lkw_242 : LkW RL 242 yL_spill cL_spill 4 [(0, 9, 12, 24)] 3 := ⟨⟨kw_1816, kw_1817, kw_136, kw_1818⟩, by decide, by decide, by decide +kernel⟩
theorem lkq_244 : LkV RL 244 RX11 yX11_spill cX11_spill 2 (some .int) 1 := ⟨⟨kw_2586, kw_2587, kw_2588, kw_148, kw_2589⟩, rfl, by decide, by decide, by decide +kernel⟩
theorem lk_L_245 : LkV RL 245 RX10 yX10_quiet cX10_quiet 3 (some .int) 0 := ⟨⟨kw_994, kw_995, kw_996, kw_137, kw_997⟩, rfl, by decide, by decide, by decide +kernel⟩
theorem lkq_248 : LkV RL 248 RX11 yX11_quiet cX11_quiet 3 (some .int) 0 := ⟨⟨kw_2594, kw_2595, kw_2596, kw_148, kw_2597⟩, rfl, by decide, by decide, by decide +kernel⟩
theorem lkw_249 : LkW RL 249 yL_game cL_game 5 [(0, 10, 13, 24)] 4 := ⟨⟨kw_1823, kw_1824, kw_136, kw_1825⟩, by decide, by decide, by decide +kernel⟩
theorem lkq_252 : LkV RL 252 RX11 yX11_game cX11_game 5 (some .int) 2 := ⟨⟨kw_2598, kw_2599, kw_2600, kw_148, kw_2601⟩, rfl, by decide, by decide, by decide +kernel⟩
theorem lkw_253 : LkW RL 253 yL_steps cL_steps 5 [(0, 10, 13, 24)] 4 := ⟨⟨kw_1838, kw_1839, kw_136, kw_1840⟩, by decide, by decide, by decide +kernel⟩
theorem lkq_255 : LkV RL 255 RX11 yX11_steps cX11_steps 7 (some .int) 2 := ⟨⟨kw_2610, kw_2611, kw_2612, kw_148, kw_2613⟩, rfl, by decide, by decide, by decide +kernel⟩
theorem lkw_256 : LkW RL 256 yL_trial cL_trial 4 [(0, 9, 12, 13)] 3 := ⟨⟨kw_1849, kw_1850, kw_136, kw_1851⟩, by decide, by decide, by decide +kernel⟩
theorem lkq_258 : LkV RL 258 RX11 yX11_trial cX11_trial 3 (some .int) 1 := ⟨⟨kw_2614, kw_2615, kw_2616, kw_148, kw_2617⟩, rfl, by decide, by decide, by decide +kernel⟩
theorem lkw_259 : LkW RL 259 yL_span cL_span 5 [(0, 10, 13, 13)] 4 := ⟨⟨kw_1860, kw_1861, kw_136, kw_1862⟩, by decide, by decide, by decide +kernel⟩
theorem lkq_261 : LkV RL 261 RX11 yX11_span cX11_span 6 (some .int) 2 := ⟨⟨kw_2626, kw_2627, kw_2628, kw_148, kw_2629⟩, rfl, by decide, by decide, by decide +kernel⟩
theorem lkw_262 : LkW RL 262 yL_nth cL_nth 5 [(0, 10, 13, 24)] 4 := ⟨⟨kw_1869, kw_1870, kw_136, kw_1871⟩, by decide, by decide, by decide +kernel⟩
theorem lkq_264 : LkV RL 264 RX11 yX11_nth cX11_nth 5 (some .int) 2 := ⟨⟨kw_2631, kw_2632, kw_2633, kw_148, kw_2634⟩, rfl, by decide, by decide, by decide +kernel⟩
theorem lkw_265 : LkW RL 265 yL_guess cL_guess 4 [(0, 9, 12, 24)] 3 := ⟨⟨kw_1880, kw_1881, kw_136, kw_1882⟩, by decide, by decide, by decide +kernel⟩
theorem lkq_267 : LkV RL 267 RX11 yX11_guess cX11_guess 2 (some .int) 1 := ⟨⟨kw_2635, kw_2636, kw_2637, kw_148, kw_2638⟩, rfl, by decide, by decide, by decide +kernel⟩
theorem lkw_268 : LkW RL 268 yL_right cL_right 4 [(0, 9, 12, 24)] 3 := ⟨⟨kw_1899, kw_1900, kw_136, kw_1901⟩, by decide, by decide, by decide +kernel⟩
theorem lkq_270 : LkV RL 270 RX11 yX11_right cX11_right 4 (some .int) 1 := ⟨⟨kw_2647, kw_2648, kw_2649, kw_148, kw_2650⟩, rfl, by decide, by decide, by decide +kernel⟩
theorem lkw_271 : LkW RL 271 yL_rows cL_rows 4 [(0, 9, 12, 13)] 3 := ⟨⟨kw_1914, kw_1915, kw_136, kw_1916⟩, by decide, by decide, by decide +kernel⟩
theorem lkq_273 : LkV RL 273 RX11 yX11_rows cX11_rows 7 (some .int) 1 := ⟨⟨kw_2651, kw_2652, kw_2653, kw_148, kw_2654⟩, rfl, by decide, by decide, by decide +kernel⟩
theorem lkw_274 : LkW RL 274 yL_liars cL_liars 5 [(0, 10, 13, 13)] 4 := ⟨⟨kw_1950, kw_1951, kw_136, kw_1952⟩, by decide, by decide, by decide +kernel⟩
theorem lkq_276 : LkV RL 276 RX11 yX11_liars cX11_liars 7 (some .int) 2 := ⟨⟨kw_2663, kw_2664, kw_2665, kw_148, kw_2666⟩, rfl, by decide, by decide, by decide +kernel⟩
theorem lkw_277 : LkW RL 277 yL_married cL_married 4 [(0, 9, 12, 24)] 3 := ⟨⟨kw_1971, kw_1972, kw_136, kw_1973⟩, by decide, by decide, by decide +kernel⟩
theorem lkq_279 : LkV RL 279 RX11 yX11_married cX11_married 5 (some .int) 1 := ⟨⟨kw_2671, kw_2672, kw_2673, kw_148, kw_2674⟩, rfl, by decide, by decide, by decide +kernel⟩
theorem lkw_280 : LkW RL 280 yL_led cL_led 4 [(0, 9, 12, 24)] 3 := ⟨⟨kw_1997, kw_1998, kw_136, kw_1999⟩, by decide, by decide, by decide +kernel⟩
theorem lkq_282 : LkV RL 282 RX11 yX11_led cX11_led 3 (some .int) 1 := ⟨⟨kw_2683, kw_2684, kw_2685, kw_148, kw_2686⟩, rfl, by decide, by decide, by decide +kernel⟩
theorem lk_L_283 : LkV RL 283 RX10 yX10_widest cX10_widest 5 (some .int) 0 := ⟨⟨kw_1014, kw_1015, kw_1016, kw_137, kw_1017⟩, rfl, by decide, by decide, by decide +kernel⟩
theorem lkq_286 : LkV RL 286 RX11 yX11_widest cX11_widest 3 (some .int) 0 := ⟨⟨kw_2687, kw_2688, kw_2689, kw_148, kw_2690⟩, rfl, by decide, by decide, by decide +kernel⟩
theorem lk_L_287 : LkV RL 287 RX10 yX10_under cX10_under 5 (some .int) 0 := ⟨⟨kw_1030, kw_1031, kw_1032, kw_137, kw_1033⟩, rfl, by decide, by decide, by decide +kernel⟩
theorem lkq_290 : LkV RL 290 RX11 yX11_under cX11_under 3 (some .int) 0 := ⟨⟨kw_2691, kw_2692, kw_2693, kw_148, kw_2694⟩, rfl, by decide, by decide, by decide +kernel⟩
theorem lkw_291 : LkW RL 291 yL_log cL_log 5 [(0, 10, 13, 26)] 4 := ⟨⟨kw_2008, kw_2009, kw_136, kw_2010⟩, by decide, by decide, by decide +kernel⟩
theorem lkq_293 : LkV RL 293 RX11 yX11_log cX11_log 3 (some .int) 2 := ⟨⟨kw_2699, kw_2700, kw_2701, kw_148, kw_2702⟩, rfl, by decide, by decide, by decide +kernel⟩
theorem lk_L_294 : LkV RL 294 RX10 yX10_seed cX10_seed 3 (some .int) 1 := ⟨⟨kw_1038, kw_1039, kw_1040, kw_137, kw_1041⟩, rfl, by decide, by decide, by decide +kernel⟩
theorem lkq_297 : LkV RL 297 RX11 yX11_seed cX11_seed 3 (some .int) 1 := ⟨⟨kw_2703, kw_2704, kw_2705, kw_148, kw_2706⟩, rfl, by decide, by decide, by decide +kernel⟩
theorem lk_L_298 : LkV RL 298 RX10 yX10_undo cX10_undo 1 (some .boolean) 0 := ⟨⟨kw_1042, kw_1043, kw_1044, kw_137, kw_1045⟩, rfl, by decide, by decide, by decide +kernel⟩
theorem lkq_302 : LkV RL 302 RX11 yX11_undo cX11_undo 2 (some .boolean) 0 := ⟨⟨kw_2148, kw_2149, kw_2150, kw_148, kw_2151⟩, rfl, by decide, by decide, by decide +kernel⟩
theorem lk_L_303 : LkV RL 303 RX10 yX10_image cX10_image 1 none 0 := ⟨⟨kw_1046, kw_1047, kw_1048, kw_137, kw_1049⟩, rfl, by decide, by decide, by decide +kernel⟩
theorem lkq_306 : LkV RL 306 RX11 yX11_image cX11_image 2 none 0 := ⟨⟨kw_2140, kw_2141, kw_2142, kw_148, kw_2143⟩, rfl, by decide, by decide, by decide +kernel⟩
theorem lk_L_307 : LkV RL 307 RX10 yX10_back cX10_back 1 (some .boolean) 0 := ⟨⟨kw_1050, kw_1051, kw_1052, kw_137, kw_1053⟩, rfl, by decide, by decide, by decide +kernel⟩
theorem lkq_310 : LkV RL 310 RX11 yX11_back cX11_back 2 (some .boolean) 0 := ⟨⟨kw_2144, kw_2145, kw_2146, kw_148, kw_2147⟩, rfl, by decide, by decide, by decide +kernel⟩
theorem lk_L_311 : LkV RL 311 RX10 yX10_count cX10_count 2 (some .int) 1 := ⟨⟨kw_1058, kw_1059, kw_1060, kw_137, kw_1061⟩, rfl, by decide, by decide, by decide +kernel⟩
theorem lkq_314 : LkV RL 314 RX11 yX11_count cX11_count 4 (some .int) 1 := ⟨⟨kw_2707, kw_2708, kw_2709, kw_148, kw_2710⟩, rfl, by decide, by decide, by decide +kernel⟩
set_option maxHeartbeats 4000000 in
set_option maxRecDepth 100000 in
theorem br_0 {p : Program} {l : Launch} {e : Env} {s : State} {m : MethodId} {below : List Frame} {meth : Method} {c : Code} {H : Heap} {locs : List Loc} {cells slots : Nat} {Q : State → Prop} {ls : Array Slot} {D : va_G} {tc : Nat → ClassId} {ro : Ro} {oa : Ky → Nat} {aa : Nat → Nat} {ad : Nat → Nat} {sh : Sh} {ln : Nat → Nat} {A : Nat → Prop} {μk μq : Mm} {b o L i : Nat} {xs : Nat → Int32} {f : Nat → Int64} {V n N w0 : Nat} {r0 : Nat → Int32} {Λo : Option LW} {j d t c0 z : Nat} {T : Nat → Nat} (K : LCw p s m c D tc ro A b L xs) (hs : l.stackTraces = false) (hi : i + 6 ≤ L) (h : L3 D tc s A oa aa sh ln μk ad μq o f H locs) (hR : RLL sh ln μq μk V n N w0 r0 Λo j d t c0 T z) (hS : S11 sh) (hNF : NF sh μk) (h4 : sh 4 2 < 600) (hb1 : cells + POc sh ln + 3 ≤ 601024) (hb2 : slots + POs sh ln + 520 ≤ 7293034) (hl : lv_has ls 7 (lb b (oa (0, 0)) (ad 0) o i)) (kk : Kt p l e s m below meth c Q D tc A b o i ad oa sh ln cells slots) : W p l e room_1 s m #[Value.ref b] below meth c H locs cells slots Q (F0 m 252 ls []) := by
  have C := K.1
  have hx := K.1.1.1
  have hb := K.1.1.2.1
  have hwf : WfS sh := hR.wf
  obtain ⟨r, x, a, sh', ln', bb, kc, ks, hg, hq, hrv, hthr, hrm, hRel, hP1, hP2, hP3⟩ := STP.uni (md := fun _ => 0) (s_feed hR (xs (i + 1)) (xs (i + 2)) (xs (i + 3)) (xs (i + 4)) (xs (i + 5)))
  obtain ⟨v, rfl⟩ : ∃ v, r = .inl v := by
    cases r with
    | inl v => exact ⟨v, rfl⟩
    | inr cn => exact absurd (hrm cn rfl).1 (by decide)
  have ev := hrv v rfl
  obtain ⟨rm, ⟨b1, b2, b3, b4⟩, hM⟩ := G_X10_feed hwf (D := D) (tc := tc) (ro := ro) (oa := oa) _ _ _ _ _ _ hg
  refine lv_aload_n hx hb dL_law__252 rfl (lv_at hl 1 rfl) ?_
  refine r_scr K h.1.2.1 (lv_at hl 0 rfl) (lv_at hl 4 rfl) 1 hi (by decide) dL_law__253 dL_law__254 dL_law__256 (by decide) dL_law__257 dL_law__258 ?_
  refine r_scr K h.1.2.1 (lv_at hl 0 rfl) (lv_at hl 4 rfl) 2 hi (by decide) dL_law__259 dL_law__260 dL_law__262 (by decide) dL_law__263 dL_law__264 ?_
  refine r_scr K h.1.2.1 (lv_at hl 0 rfl) (lv_at hl 4 rfl) 3 hi (by decide) dL_law__265 dL_law__266 dL_law__268 (by decide) dL_law__269 dL_law__270 ?_
  refine r_scr K h.1.2.1 (lv_at hl 0 rfl) (lv_at hl 4 rfl) 4 hi (by decide) dL_law__271 dL_law__272 dL_law__274 (by decide) dL_law__275 dL_law__276 ?_
  refine r_scr K h.1.2.1 (lv_at hl 0 rfl) (lv_at hl 4 rfl) 5 hi (by decide) dL_law__277 dL_law__278 dL_law__280 (by decide) dL_law__281 dL_law__282 ?_
  refine r_lawG C K.2.2.2.2.1 K.2.2.2.2.2.1 h hl lk_L_143 hM ⟨by show rm.frames + 1 ≤ 2048; omega, by show 8 + (6 + 11) + rm.locals ≤ 84000; omega⟩ (As := [.int (xs (i + 1)), .int (xs (i + 2)), .int (xs (i + 3)), .int (xs (i + 4)), .int (xs (i + 5))]) (rest := []) rfl rfl (Nat.le_of_ble_eq_true rfl) dL_law__283 ⟨by show cells + rm.cells ≤ 601024; omega, by show slots + rm.slots ≤ 7293034; omega⟩ (fun oa' aa' H1 locs1 e00 h => ?_)
  show W p l e room_1 s m #[Value.ref b] below meth c H1 locs1 (cells + rm.cells) (slots + rm.slots) Q (F0 m 286 ls [.int v])
  refine lv_aload_n hx hb dL_law__286 rfl (lv_at hl 2 rfl) ?_
  refine r_scr K h.1.2.1 (lv_at hl 0 rfl) (lv_at hl 4 rfl) 1 hi (by decide) dL_law__287 dL_law__288 dL_law__290 (by decide) dL_law__291 dL_law__292 ?_
  refine r_scr K h.1.2.1 (lv_at hl 0 rfl) (lv_at hl 4 rfl) 2 hi (by decide) dL_law__293 dL_law__294 dL_law__296 (by decide) dL_law__297 dL_law__298 ?_
  refine r_scr K h.1.2.1 (lv_at hl 0 rfl) (lv_at hl 4 rfl) 3 hi (by decide) dL_law__299 dL_law__300 dL_law__302 (by decide) dL_law__303 dL_law__304 ?_
  refine r_scr K h.1.2.1 (lv_at hl 0 rfl) (lv_at hl 4 rfl) 4 hi (by decide) dL_law__305 dL_law__306 dL_law__308 (by decide) dL_law__309 dL_law__310 ?_
  refine r_scr K h.1.2.1 (lv_at hl 0 rfl) (lv_at hl 4 rfl) 5 hi (by decide) dL_law__311 dL_law__312 dL_law__314 (by decide) dL_law__315 dL_law__316 ?_
  refine r_lawQ C h hl lkq_147 (c_X11_feed hq) ⟨rfl, rfl⟩ ⟨(Nat.le_of_ble_eq_true rfl), (Nat.le_of_ble_eq_true rfl)⟩ (As := [.int (xs (i + 1)), .int (xs (i + 2)), .int (xs (i + 3)), .int (xs (i + 4)), .int (xs (i + 5))]) (rest := [.int v]) rfl rfl (Nat.le_of_ble_eq_true rfl) dL_law__317 ⟨by show cells + rm.cells ≤ 601024; omega, by show slots + rm.slots ≤ 7293034; omega⟩ (fun H1 locs1 h => ?_)
  show W p l e room_1 s m #[Value.ref b] below meth c H1 locs1 (cells + rm.cells) (slots + rm.slots) Q (F0 m 320 ls [.int x, .int v])
  refine lv_icmp_eq (tgt := 2913) hx hb dL_law__320 (by decide) (fun c1 => ?_) (fun c1 => by first | exact absurd ev c1 | exact absurd ev.symm c1)
  exact kk oa' aa' sh' ln' bb a f H1 locs1 (cells + rm.cells) (slots + rm.slots) ls e00 h hRel (fun s hs => (HS.lfn _ _ _ _ _ _ hg s hs).trans (hS s hs)) (by omega) (by omega) hP3 hl
set_option maxHeartbeats 4000000 in
set_option maxRecDepth 100000 in
theorem br_1 {p : Program} {l : Launch} {e : Env} {s : State} {m : MethodId} {below : List Frame} {meth : Method} {c : Code} {H : Heap} {locs : List Loc} {cells slots : Nat} {Q : State → Prop} {ls : Array Slot} {D : va_G} {tc : Nat → ClassId} {ro : Ro} {oa : Ky → Nat} {aa : Nat → Nat} {ad : Nat → Nat} {sh : Sh} {ln : Nat → Nat} {A : Nat → Prop} {μk μq : Mm} {b o L i : Nat} {xs : Nat → Int32} {f : Nat → Int64} {V n N w0 : Nat} {r0 : Nat → Int32} {Λo : Option LW} {j d t c0 z : Nat} {T : Nat → Nat} (K : LCw p s m c D tc ro A b L xs) (hs : l.stackTraces = false) (hi : i + 6 ≤ L) (h : L3 D tc s A oa aa sh ln μk ad μq o f H locs) (hR : RLL sh ln μq μk V n N w0 r0 Λo j d t c0 T z) (hS : S11 sh) (hNF : NF sh μk) (h4 : sh 4 2 < 600) (hb1 : cells + POc sh ln + 3 ≤ 601024) (hb2 : slots + POs sh ln + 520 ≤ 7293034) (hl : lv_has ls 7 (lb b (oa (0, 0)) (ad 0) o i)) (kk : Kt p l e s m below meth c Q D tc A b o i ad oa sh ln cells slots) : W p l e room_1 s m #[Value.ref b] below meth c H locs cells slots Q (F0 m 325 ls []) := by
  have C := K.1
  have hx := K.1.1.1
  have hb := K.1.1.2.1
  have hwf : WfS sh := hR.wf
  obtain ⟨r, x, a, sh', ln', bb, kc, ks, hg, hq, hrv, hthr, hrm, hRel, hP1, hP2, hP3⟩ := STP.uni (md := fun _ => 0) (s_end hR (xs (i + 1)))
  obtain ⟨v, rfl⟩ : ∃ v, r = .inl v := by
    cases r with
    | inl v => exact ⟨v, rfl⟩
    | inr cn => exact absurd (hrm cn rfl).1 (by decide)
  have ev := hrv v rfl
  obtain ⟨rm, ⟨b1, b2, b3, b4⟩, hM⟩ := G_X10_end hwf (D := D) (tc := tc) (ro := ro) (oa := oa) _ _ _ _ _ _ hg
  refine lv_aload_n hx hb dL_law__325 rfl (lv_at hl 1 rfl) ?_
  refine r_scr K h.1.2.1 (lv_at hl 0 rfl) (lv_at hl 4 rfl) 1 hi (by decide) dL_law__326 dL_law__327 dL_law__329 (by decide) dL_law__330 dL_law__331 ?_
  refine r_lawG C K.2.2.2.2.1 K.2.2.2.2.2.1 h hl lk_L_148 hM ⟨by show rm.frames + 1 ≤ 2048; omega, by show 8 + (2 + 11) + rm.locals ≤ 84000; omega⟩ (As := [.int (xs (i + 1))]) (rest := []) rfl rfl (Nat.le_of_ble_eq_true rfl) dL_law__332 ⟨by show cells + rm.cells ≤ 601024; omega, by show slots + rm.slots ≤ 7293034; omega⟩ (fun oa' aa' H1 locs1 e00 h => ?_)
  show W p l e room_1 s m #[Value.ref b] below meth c H1 locs1 (cells + rm.cells) (slots + rm.slots) Q (F0 m 335 ls [.int v])
  refine lv_aload_n hx hb dL_law__335 rfl (lv_at hl 2 rfl) ?_
  refine r_scr K h.1.2.1 (lv_at hl 0 rfl) (lv_at hl 4 rfl) 1 hi (by decide) dL_law__336 dL_law__337 dL_law__339 (by decide) dL_law__340 dL_law__341 ?_
  refine r_lawQ C h hl lkq_151 (c_X11_end hq) ⟨rfl, rfl⟩ ⟨(Nat.le_of_ble_eq_true rfl), (Nat.le_of_ble_eq_true rfl)⟩ (As := [.int (xs (i + 1))]) (rest := [.int v]) rfl rfl (Nat.le_of_ble_eq_true rfl) dL_law__342 ⟨by show cells + rm.cells ≤ 601024; omega, by show slots + rm.slots ≤ 7293034; omega⟩ (fun H1 locs1 h => ?_)
  show W p l e room_1 s m #[Value.ref b] below meth c H1 locs1 (cells + rm.cells) (slots + rm.slots) Q (F0 m 345 ls [.int x, .int v])
  refine lv_icmp_eq (tgt := 2913) hx hb dL_law__345 (by decide) (fun c1 => ?_) (fun c1 => by first | exact absurd ev c1 | exact absurd ev.symm c1)
  exact kk oa' aa' sh' ln' bb a f H1 locs1 (cells + rm.cells) (slots + rm.slots) ls e00 h hRel (fun s hs => (HS.lfn _ _ _ _ _ _ hg s hs).trans (hS s hs)) (by omega) (by omega) hP3 hl
set_option maxHeartbeats 4000000 in
set_option maxRecDepth 100000 in
theorem br_2 {p : Program} {l : Launch} {e : Env} {s : State} {m : MethodId} {below : List Frame} {meth : Method} {c : Code} {H : Heap} {locs : List Loc} {cells slots : Nat} {Q : State → Prop} {ls : Array Slot} {D : va_G} {tc : Nat → ClassId} {ro : Ro} {oa : Ky → Nat} {aa : Nat → Nat} {ad : Nat → Nat} {sh : Sh} {ln : Nat → Nat} {A : Nat → Prop} {μk μq : Mm} {b o L i : Nat} {xs : Nat → Int32} {f : Nat → Int64} {V n N w0 : Nat} {r0 : Nat → Int32} {Λo : Option LW} {j d t c0 z : Nat} {T : Nat → Nat} (K : LCw p s m c D tc ro A b L xs) (hs : l.stackTraces = false) (hi : i + 6 ≤ L) (h : L3 D tc s A oa aa sh ln μk ad μq o f H locs) (hR : RLL sh ln μq μk V n N w0 r0 Λo j d t c0 T z) (hS : S11 sh) (hNF : NF sh μk) (h4 : sh 4 2 < 600) (hb1 : cells + POc sh ln + 3 ≤ 601024) (hb2 : slots + POs sh ln + 520 ≤ 7293034) (hl : lv_has ls 7 (lb b (oa (0, 0)) (ad 0) o i)) (kk : Kt p l e s m below meth c Q D tc A b o i ad oa sh ln cells slots) : W p l e room_1 s m #[Value.ref b] below meth c H locs cells slots Q (F0 m 350 ls []) := by
  have C := K.1
  have hx := K.1.1.1
  have hb := K.1.1.2.1
  have hwf : WfS sh := hR.wf
  obtain ⟨r, x, a, sh', ln', bb, kc, ks, hg, hq, hrv, hthr, hrm, hRel, hP1, hP2, hP3⟩ := STP.uni (md := mdAU) (s_village hR )
  refine lv_aload_n hx hb dL_law__350 rfl (lv_at hl 1 rfl) ?_
  refine lv_aload_n hx hb dL_law__351 rfl (lv_at hl 3 rfl) ?_
  refine r_lawW C K.2.2.2.2.1 K.2.2.2.2.2.1 K.2.2.2.2.2.2.1 h hl lkw_152 (cW_village (G_X10_village hs hwf) hg (fun cn e => (hrm cn e).1)) ⟨(Nat.le_of_ble_eq_true rfl), (Nat.le_of_ble_eq_true rfl)⟩ (As := []) (rest := []) rfl rfl (Nat.le_of_ble_eq_true rfl) dL_law__352 ⟨by show cells + (kc + 1) ≤ 601024; omega, by show slots + (ks + 6) ≤ 7293034; omega⟩ (fun oa' aa' f' H1 locs1 e00 hlv h => ?_)
  show W p l e room_1 s m #[Value.ref b] below meth c H1 locs1 (cells + (kc + 1)) (slots + (ks + 6)) Q (F0 m 355 ls [.int (cdW mdAU r)])
  refine lv_istore (lv' := (5, .int (cdW mdAU r)) :: lb b (oa (0, 0)) (ad 0) o i) hx hb dL_law__355 hl (by decide) rfl (fun ls hl => ?_)
  refine lv_aload_n hx hb dL_law__357 rfl (lv_at hl 3 rfl) ?_
  refine r_lawQ C h hl lkq_157 (c_X11_village hq) ⟨rfl, rfl⟩ ⟨(Nat.le_of_ble_eq_true rfl), (Nat.le_of_ble_eq_true rfl)⟩ (As := []) (rest := []) rfl rfl (Nat.le_of_ble_eq_true rfl) dL_law__358 ⟨by show cells + (kc + 1) ≤ 601024; omega, by show slots + (ks + 6) ≤ 7293034; omega⟩ (fun H1 locs1 h => ?_)
  show W p l e room_1 s m #[Value.ref b] below meth c H1 locs1 (cells + (kc + 1)) (slots + (ks + 6)) Q (F0 m 361 ls [.int x])
  refine tlI K h hl hthr (cdI hrv hrm hlv) ⟨by show cells + (kc + 1) ≤ 601024; omega, by show slots + (ks + 6) ≤ 7293034; omega⟩ dL_law__361 dL_law__363 dL_law__364 dL_law__367 dL_law__369 dL_law__374 dL_law__376 dL_law__379 dL_law__380 dL_law__381 dL_law__382 dL_law__384 dL_law__385 dL_law__386 dL_law__391 (by decide) (fun H2 locs2 ls' h hl => ?_)
  exact kk oa' aa' sh' ln' bb a f' H2 locs2 (cells + (kc + 1)) (slots + (ks + 6)) ls' e00 h hRel (fun s hs => (HS.lfV _ _ _ _ _ _ hg s hs).trans (hS s hs)) (by omega) (by omega) hP3 hl
set_option maxHeartbeats 4000000 in
set_option maxRecDepth 100000 in
theorem br_3 {p : Program} {l : Launch} {e : Env} {s : State} {m : MethodId} {below : List Frame} {meth : Method} {c : Code} {H : Heap} {locs : List Loc} {cells slots : Nat} {Q : State → Prop} {ls : Array Slot} {D : va_G} {tc : Nat → ClassId} {ro : Ro} {oa : Ky → Nat} {aa : Nat → Nat} {ad : Nat → Nat} {sh : Sh} {ln : Nat → Nat} {A : Nat → Prop} {μk μq : Mm} {b o L i : Nat} {xs : Nat → Int32} {f : Nat → Int64} {V n N w0 : Nat} {r0 : Nat → Int32} {Λo : Option LW} {j d t c0 z : Nat} {T : Nat → Nat} (K : LCw p s m c D tc ro A b L xs) (hs : l.stackTraces = false) (hi : i + 6 ≤ L) (h : L3 D tc s A oa aa sh ln μk ad μq o f H locs) (hR : RLL sh ln μq μk V n N w0 r0 Λo j d t c0 T z) (hS : S11 sh) (hNF : NF sh μk) (h4 : sh 4 2 < 600) (hb1 : cells + POc sh ln + 3 ≤ 601024) (hb2 : slots + POs sh ln + 520 ≤ 7293034) (hl : lv_has ls 7 (lb b (oa (0, 0)) (ad 0) o i)) (kk : Kt p l e s m below meth c Q D tc A b o i ad oa sh ln cells slots) : W p l e room_1 s m #[Value.ref b] below meth c H locs cells slots Q (F0 m 394 ls []) := by
  have C := K.1
  have hx := K.1.1.1
  have hb := K.1.1.2.1
  have hwf : WfS sh := hR.wf
  obtain ⟨r, x, a, sh', ln', bb, kc, ks, hg, hq, hrv, hthr, hrm, hRel, hP1, hP2, hP3⟩ := STP.uni (md := mdA) (s_law hR (by omega))
  refine lv_aload_n hx hb dL_law__394 rfl (lv_at hl 1 rfl) ?_
  refine lv_aload_n hx hb dL_law__395 rfl (lv_at hl 3 rfl) ?_
  refine r_lawW C K.2.2.2.2.1 K.2.2.2.2.2.1 K.2.2.2.2.2.2.1 h hl lkw_161 (cW_law (G_X10_law hs hwf (by omega) (law_nol hR hNF h4)) hg (fun cn e => (hrm cn e).1)) ⟨(Nat.le_of_ble_eq_true rfl), (Nat.le_of_ble_eq_true rfl)⟩ (As := []) (rest := []) rfl rfl (Nat.le_of_ble_eq_true rfl) dL_law__396 ⟨by show cells + (kc + 1) ≤ 601024; omega, by show slots + (ks + 6) ≤ 7293034; omega⟩ (fun oa' aa' f' H1 locs1 e00 hlv h => ?_)
  show W p l e room_1 s m #[Value.ref b] below meth c H1 locs1 (cells + (kc + 1)) (slots + (ks + 6)) Q (F0 m 399 ls [.int (cdW mdA r)])
  refine lv_istore (lv' := (5, .int (cdW mdA r)) :: lb b (oa (0, 0)) (ad 0) o i) hx hb dL_law__399 hl (by decide) rfl (fun ls hl => ?_)
  refine lv_aload_n hx hb dL_law__401 rfl (lv_at hl 3 rfl) ?_
  refine r_lawQ C h hl lkq_163 (c_X11_law hq) ⟨rfl, rfl⟩ ⟨(Nat.le_of_ble_eq_true rfl), (Nat.le_of_ble_eq_true rfl)⟩ (As := []) (rest := []) rfl rfl (Nat.le_of_ble_eq_true rfl) dL_law__402 ⟨by show cells + (kc + 1) ≤ 601024; omega, by show slots + (ks + 6) ≤ 7293034; omega⟩ (fun H1 locs1 h => ?_)
  show W p l e room_1 s m #[Value.ref b] below meth c H1 locs1 (cells + (kc + 1)) (slots + (ks + 6)) Q (F0 m 405 ls [.int x])
  refine tlI K h hl hthr (cdI hrv hrm hlv) ⟨by show cells + (kc + 1) ≤ 601024; omega, by show slots + (ks + 6) ≤ 7293034; omega⟩ dL_law__405 dL_law__407 dL_law__408 dL_law__411 dL_law__413 dL_law__418 dL_law__420 dL_law__423 dL_law__424 dL_law__425 dL_law__426 dL_law__428 dL_law__429 dL_law__430 dL_law__435 (by decide) (fun H2 locs2 ls' h hl => ?_)
  exact kk oa' aa' sh' ln' bb a f' H2 locs2 (cells + (kc + 1)) (slots + (ks + 6)) ls' e00 h hRel (fun s hs => (HS.law _ _ _ _ _ _ hg s hs).trans (hS s hs)) (by omega) (by omega) hP3 hl
set_option maxHeartbeats 4000000 in
set_option maxRecDepth 100000 in
theorem br_4 {p : Program} {l : Launch} {e : Env} {s : State} {m : MethodId} {below : List Frame} {meth : Method} {c : Code} {H : Heap} {locs : List Loc} {cells slots : Nat} {Q : State → Prop} {ls : Array Slot} {D : va_G} {tc : Nat → ClassId} {ro : Ro} {oa : Ky → Nat} {aa : Nat → Nat} {ad : Nat → Nat} {sh : Sh} {ln : Nat → Nat} {A : Nat → Prop} {μk μq : Mm} {b o L i : Nat} {xs : Nat → Int32} {f : Nat → Int64} {V n N w0 : Nat} {r0 : Nat → Int32} {Λo : Option LW} {j d t c0 z : Nat} {T : Nat → Nat} (K : LCw p s m c D tc ro A b L xs) (hs : l.stackTraces = false) (hi : i + 6 ≤ L) (h : L3 D tc s A oa aa sh ln μk ad μq o f H locs) (hR : RLL sh ln μq μk V n N w0 r0 Λo j d t c0 T z) (hS : S11 sh) (hNF : NF sh μk) (h4 : sh 4 2 < 600) (hb1 : cells + POc sh ln + 3 ≤ 601024) (hb2 : slots + POs sh ln + 520 ≤ 7293034) (hl : lv_has ls 7 (lb b (oa (0, 0)) (ad 0) o i)) (kk : Kt p l e s m below meth c Q D tc A b o i ad oa sh ln cells slots) : W p l e room_1 s m #[Value.ref b] below meth c H locs cells slots Q (F0 m 438 ls []) := by
  have C := K.1
  have hx := K.1.1.1
  have hb := K.1.1.2.1
  have hwf : WfS sh := hR.wf
  obtain ⟨r, x, a, sh', ln', bb, kc, ks, hg, hq, hrv, hthr, hrm, hRel, hP1, hP2, hP3⟩ := STP.uni (md := fun _ => 0) (s_fault hR )
  obtain ⟨v, rfl⟩ : ∃ v, r = .inl v := by
    cases r with
    | inl v => exact ⟨v, rfl⟩
    | inr cn => exact absurd (hrm cn rfl).1 (by decide)
  have ev := hrv v rfl
  obtain ⟨rm, ⟨b1, b2, b3, b4⟩, hM⟩ := G_X10_fault hwf (D := D) (tc := tc) (ro := ro) (oa := oa) _ _ _ _ _ _ hg
  refine lv_aload_n hx hb dL_law__438 rfl (lv_at hl 1 rfl) ?_
  refine r_lawG C K.2.2.2.2.1 K.2.2.2.2.2.1 h hl lk_L_164 hM ⟨by show rm.frames + 1 ≤ 2048; omega, by show 8 + (1 + 11) + rm.locals ≤ 84000; omega⟩ (As := []) (rest := []) rfl rfl (Nat.le_of_ble_eq_true rfl) dL_law__439 ⟨by show cells + rm.cells ≤ 601024; omega, by show slots + rm.slots ≤ 7293034; omega⟩ (fun oa' aa' H1 locs1 e00 h => ?_)
  show W p l e room_1 s m #[Value.ref b] below meth c H1 locs1 (cells + rm.cells) (slots + rm.slots) Q (F0 m 442 ls [.int v])
  refine lv_aload_n hx hb dL_law__442 rfl (lv_at hl 2 rfl) ?_
  refine r_lawQ C h hl lkq_167 (c_X11_fault hq) ⟨rfl, rfl⟩ ⟨(Nat.le_of_ble_eq_true rfl), (Nat.le_of_ble_eq_true rfl)⟩ (As := []) (rest := [.int v]) rfl rfl (Nat.le_of_ble_eq_true rfl) dL_law__443 ⟨by show cells + rm.cells ≤ 601024; omega, by show slots + rm.slots ≤ 7293034; omega⟩ (fun H1 locs1 h => ?_)
  show W p l e room_1 s m #[Value.ref b] below meth c H1 locs1 (cells + rm.cells) (slots + rm.slots) Q (F0 m 446 ls [.int x, .int v])
  refine lv_icmp_eq (tgt := 2913) hx hb dL_law__446 (by decide) (fun c1 => ?_) (fun c1 => by first | exact absurd ev c1 | exact absurd ev.symm c1)
  exact kk oa' aa' sh' ln' bb a f H1 locs1 (cells + rm.cells) (slots + rm.slots) ls e00 h hRel (fun s hs => (HS.lf0 _ _ _ _ _ _ hg s hs).trans (hS s hs)) (by omega) (by omega) hP3 hl
set_option maxHeartbeats 4000000 in
set_option maxRecDepth 100000 in
theorem br_5 {p : Program} {l : Launch} {e : Env} {s : State} {m : MethodId} {below : List Frame} {meth : Method} {c : Code} {H : Heap} {locs : List Loc} {cells slots : Nat} {Q : State → Prop} {ls : Array Slot} {D : va_G} {tc : Nat → ClassId} {ro : Ro} {oa : Ky → Nat} {aa : Nat → Nat} {ad : Nat → Nat} {sh : Sh} {ln : Nat → Nat} {A : Nat → Prop} {μk μq : Mm} {b o L i : Nat} {xs : Nat → Int32} {f : Nat → Int64} {V n N w0 : Nat} {r0 : Nat → Int32} {Λo : Option LW} {j d t c0 z : Nat} {T : Nat → Nat} (K : LCw p s m c D tc ro A b L xs) (hs : l.stackTraces = false) (hi : i + 6 ≤ L) (h : L3 D tc s A oa aa sh ln μk ad μq o f H locs) (hR : RLL sh ln μq μk V n N w0 r0 Λo j d t c0 T z) (hS : S11 sh) (hNF : NF sh μk) (h4 : sh 4 2 < 600) (hb1 : cells + POc sh ln + 3 ≤ 601024) (hb2 : slots + POs sh ln + 520 ≤ 7293034) (hl : lv_has ls 7 (lb b (oa (0, 0)) (ad 0) o i)) (kk : Kt p l e s m below meth c Q D tc A b o i ad oa sh ln cells slots) : W p l e room_1 s m #[Value.ref b] below meth c H locs cells slots Q (F0 m 451 ls []) := by
  have C := K.1
  have hx := K.1.1.1
  have hb := K.1.1.2.1
  have hwf : WfS sh := hR.wf
  obtain ⟨r, x, a, sh', ln', bb, kc, ks, hg, hq, hrv, hthr, hrm, hRel, hP1, hP2, hP3⟩ := STP.uni (md := mdIN) (s_person hR (xs (i + 1)) (xs (i + 2)))
  refine lv_aload_n hx hb dL_law__451 rfl (lv_at hl 1 rfl) ?_
  refine r_scr K h.1.2.1 (lv_at hl 0 rfl) (lv_at hl 4 rfl) 1 hi (by decide) dL_law__452 dL_law__453 dL_law__455 (by decide) dL_law__456 dL_law__457 ?_
  refine r_scr K h.1.2.1 (lv_at hl 0 rfl) (lv_at hl 4 rfl) 2 hi (by decide) dL_law__458 dL_law__459 dL_law__461 (by decide) dL_law__462 dL_law__463 ?_
  refine lv_aload_n hx hb dL_law__464 rfl (lv_at hl 3 rfl) ?_
  refine r_lawW C K.2.2.2.2.1 K.2.2.2.2.2.1 K.2.2.2.2.2.2.1 h hl lkw_168 (cW_person (G_X10_person hs hwf) hg (fun cn e => (hrm cn e).1)) ⟨(Nat.le_of_ble_eq_true rfl), (Nat.le_of_ble_eq_true rfl)⟩ (As := [.int (xs (i + 1)), .int (xs (i + 2))]) (rest := []) rfl rfl (Nat.le_of_ble_eq_true rfl) dL_law__465 ⟨by show cells + (kc + 1) ≤ 601024; omega, by show slots + (ks + 6) ≤ 7293034; omega⟩ (fun oa' aa' f' H1 locs1 e00 hlv h => ?_)
  show W p l e room_1 s m #[Value.ref b] below meth c H1 locs1 (cells + (kc + 1)) (slots + (ks + 6)) Q (F0 m 468 ls [.int (cdW mdIN r)])
  refine lv_istore (lv' := (5, .int (cdW mdIN r)) :: lb b (oa (0, 0)) (ad 0) o i) hx hb dL_law__468 hl (by decide) rfl (fun ls hl => ?_)
  refine lv_aload_n hx hb dL_law__470 rfl (lv_at hl 3 rfl) ?_
  refine r_scr K h.1.2.1 (lv_at hl 1 rfl) (lv_at hl 5 rfl) 1 hi (by decide) dL_law__471 dL_law__472 dL_law__474 (by decide) dL_law__475 dL_law__476 ?_
  refine r_scr K h.1.2.1 (lv_at hl 1 rfl) (lv_at hl 5 rfl) 2 hi (by decide) dL_law__477 dL_law__478 dL_law__480 (by decide) dL_law__481 dL_law__482 ?_
  refine r_lawQ C h hl lkq_171 (c_X11_person hq) ⟨rfl, rfl⟩ ⟨(Nat.le_of_ble_eq_true rfl), (Nat.le_of_ble_eq_true rfl)⟩ (As := [.int (xs (i + 1)), .int (xs (i + 2))]) (rest := []) rfl rfl (Nat.le_of_ble_eq_true rfl) dL_law__483 ⟨by show cells + (kc + 1) ≤ 601024; omega, by show slots + (ks + 6) ≤ 7293034; omega⟩ (fun H1 locs1 h => ?_)
  show W p l e room_1 s m #[Value.ref b] below meth c H1 locs1 (cells + (kc + 1)) (slots + (ks + 6)) Q (F0 m 486 ls [.int x])
  refine tlI K h hl hthr (cdI hrv hrm hlv) ⟨by show cells + (kc + 1) ≤ 601024; omega, by show slots + (ks + 6) ≤ 7293034; omega⟩ dL_law__486 dL_law__488 dL_law__489 dL_law__492 dL_law__494 dL_law__499 dL_law__501 dL_law__504 dL_law__505 dL_law__506 dL_law__507 dL_law__509 dL_law__510 dL_law__511 dL_law__516 (by decide) (fun H2 locs2 ls' h hl => ?_)
  exact kk oa' aa' sh' ln' bb a f' H2 locs2 (cells + (kc + 1)) (slots + (ks + 6)) ls' e00 h hRel (fun s hs => (HS.lf0 _ _ _ _ _ _ hg s hs).trans (hS s hs)) (by omega) (by omega) hP3 hl
set_option maxHeartbeats 4000000 in
set_option maxRecDepth 100000 in
theorem br_6 {p : Program} {l : Launch} {e : Env} {s : State} {m : MethodId} {below : List Frame} {meth : Method} {c : Code} {H : Heap} {locs : List Loc} {cells slots : Nat} {Q : State → Prop} {ls : Array Slot} {D : va_G} {tc : Nat → ClassId} {ro : Ro} {oa : Ky → Nat} {aa : Nat → Nat} {ad : Nat → Nat} {sh : Sh} {ln : Nat → Nat} {A : Nat → Prop} {μk μq : Mm} {b o L i : Nat} {xs : Nat → Int32} {f : Nat → Int64} {V n N w0 : Nat} {r0 : Nat → Int32} {Λo : Option LW} {j d t c0 z : Nat} {T : Nat → Nat} (K : LCw p s m c D tc ro A b L xs) (hs : l.stackTraces = false) (hi : i + 6 ≤ L) (h : L3 D tc s A oa aa sh ln μk ad μq o f H locs) (hR : RLL sh ln μq μk V n N w0 r0 Λo j d t c0 T z) (hS : S11 sh) (hNF : NF sh μk) (h4 : sh 4 2 < 600) (hb1 : cells + POc sh ln + 3 ≤ 601024) (hb2 : slots + POs sh ln + 520 ≤ 7293034) (hl : lv_has ls 7 (lb b (oa (0, 0)) (ad 0) o i)) (kk : Kt p l e s m below meth c Q D tc A b o i ad oa sh ln cells slots) : W p l e room_1 s m #[Value.ref b] below meth c H locs cells slots Q (F0 m 519 ls []) := by
  have C := K.1
  have hx := K.1.1.1
  have hb := K.1.1.2.1
  have hwf : WfS sh := hR.wf
  obtain ⟨r, x, a, sh', ln', bb, kc, ks, hg, hq, hrv, hthr, hrm, hRel, hP1, hP2, hP3⟩ := STP.uni (md := mdI) (s_left hR (xs (i + 1)))
  refine lv_aload_n hx hb dL_law__519 rfl (lv_at hl 1 rfl) ?_
  refine r_scr K h.1.2.1 (lv_at hl 0 rfl) (lv_at hl 4 rfl) 1 hi (by decide) dL_law__520 dL_law__521 dL_law__523 (by decide) dL_law__524 dL_law__525 ?_
  refine lv_aload_n hx hb dL_law__526 rfl (lv_at hl 3 rfl) ?_
  refine r_lawW C K.2.2.2.2.1 K.2.2.2.2.2.1 K.2.2.2.2.2.2.1 h hl lkw_172 (cW_left (G_X10_left hs hwf) hg (fun cn e => (hrm cn e).1)) ⟨(Nat.le_of_ble_eq_true rfl), (Nat.le_of_ble_eq_true rfl)⟩ (As := [.int (xs (i + 1))]) (rest := []) rfl rfl (Nat.le_of_ble_eq_true rfl) dL_law__527 ⟨by show cells + (kc + 1) ≤ 601024; omega, by show slots + (ks + 6) ≤ 7293034; omega⟩ (fun oa' aa' f' H1 locs1 e00 hlv h => ?_)
  show W p l e room_1 s m #[Value.ref b] below meth c H1 locs1 (cells + (kc + 1)) (slots + (ks + 6)) Q (F0 m 530 ls [.int (cdW mdI r)])
  refine lv_istore (lv' := (5, .int (cdW mdI r)) :: lb b (oa (0, 0)) (ad 0) o i) hx hb dL_law__530 hl (by decide) rfl (fun ls hl => ?_)
  refine lv_aload_n hx hb dL_law__532 rfl (lv_at hl 3 rfl) ?_
  refine r_scr K h.1.2.1 (lv_at hl 1 rfl) (lv_at hl 5 rfl) 1 hi (by decide) dL_law__533 dL_law__534 dL_law__536 (by decide) dL_law__537 dL_law__538 ?_
  refine r_lawQ C h hl lkq_175 (c_X11_left hq) ⟨rfl, rfl⟩ ⟨(Nat.le_of_ble_eq_true rfl), (Nat.le_of_ble_eq_true rfl)⟩ (As := [.int (xs (i + 1))]) (rest := []) rfl rfl (Nat.le_of_ble_eq_true rfl) dL_law__539 ⟨by show cells + (kc + 1) ≤ 601024; omega, by show slots + (ks + 6) ≤ 7293034; omega⟩ (fun H1 locs1 h => ?_)
  show W p l e room_1 s m #[Value.ref b] below meth c H1 locs1 (cells + (kc + 1)) (slots + (ks + 6)) Q (F0 m 542 ls [.int x])
  refine tlB K h hl hthr (cdB hrv hrm hlv) ⟨by show cells + (kc + 1) ≤ 601024; omega, by show slots + (ks + 6) ≤ 7293034; omega⟩ dL_law__542 dL_law__544 dL_law__545 dL_law__548 dL_law__550 dL_law__555 dL_law__557 dL_law__560 dL_law__561 dL_law__562 dL_law__563 dL_law__565 dL_law__568 dL_law__569 dL_law__572 dL_law__573 dL_law__574 dL_law__579 (by decide) (fun H2 locs2 ls' h hl => ?_)
  exact kk oa' aa' sh' ln' bb a f' H2 locs2 (cells + (kc + 1)) (slots + (ks + 6)) ls' e00 h hRel (fun s hs => (HS.lf0 _ _ _ _ _ _ hg s hs).trans (hS s hs)) (by omega) (by omega) hP3 hl
set_option maxHeartbeats 4000000 in
set_option maxRecDepth 100000 in
theorem br_7 {p : Program} {l : Launch} {e : Env} {s : State} {m : MethodId} {below : List Frame} {meth : Method} {c : Code} {H : Heap} {locs : List Loc} {cells slots : Nat} {Q : State → Prop} {ls : Array Slot} {D : va_G} {tc : Nat → ClassId} {ro : Ro} {oa : Ky → Nat} {aa : Nat → Nat} {ad : Nat → Nat} {sh : Sh} {ln : Nat → Nat} {A : Nat → Prop} {μk μq : Mm} {b o L i : Nat} {xs : Nat → Int32} {f : Nat → Int64} {V n N w0 : Nat} {r0 : Nat → Int32} {Λo : Option LW} {j d t c0 z : Nat} {T : Nat → Nat} (K : LCw p s m c D tc ro A b L xs) (hs : l.stackTraces = false) (hi : i + 6 ≤ L) (h : L3 D tc s A oa aa sh ln μk ad μq o f H locs) (hR : RLL sh ln μq μk V n N w0 r0 Λo j d t c0 T z) (hS : S11 sh) (hNF : NF sh μk) (h4 : sh 4 2 < 600) (hb1 : cells + POc sh ln + 3 ≤ 601024) (hb2 : slots + POs sh ln + 520 ≤ 7293034) (hl : lv_has ls 7 (lb b (oa (0, 0)) (ad 0) o i)) (kk : Kt p l e s m below meth c Q D tc A b o i ad oa sh ln cells slots) : W p l e room_1 s m #[Value.ref b] below meth c H locs cells slots Q (F0 m 582 ls []) := by
  have C := K.1
  have hx := K.1.1.1
  have hb := K.1.1.2.1
  have hwf : WfS sh := hR.wf
  obtain ⟨r, x, a, sh', ln', bb, kc, ks, hg, hq, hrv, hthr, hrm, hRel, hP1, hP2, hP3⟩ := STP.uni (md := mdIS) (s_apart hR (xs (i + 1)) (xs (i + 2)) (xs (i + 3)))
  refine lv_aload_n hx hb dL_law__582 rfl (lv_at hl 1 rfl) ?_
  refine r_scr K h.1.2.1 (lv_at hl 0 rfl) (lv_at hl 4 rfl) 1 hi (by decide) dL_law__583 dL_law__584 dL_law__586 (by decide) dL_law__587 dL_law__588 ?_
  refine r_scr K h.1.2.1 (lv_at hl 0 rfl) (lv_at hl 4 rfl) 2 hi (by decide) dL_law__589 dL_law__590 dL_law__592 (by decide) dL_law__593 dL_law__594 ?_
  refine r_scr K h.1.2.1 (lv_at hl 0 rfl) (lv_at hl 4 rfl) 3 hi (by decide) dL_law__595 dL_law__596 dL_law__598 (by decide) dL_law__599 dL_law__600 ?_
  refine lv_aload_n hx hb dL_law__601 rfl (lv_at hl 3 rfl) ?_
  refine r_lawW C K.2.2.2.2.1 K.2.2.2.2.2.1 K.2.2.2.2.2.2.1 h hl lkw_176 (cW_apart (G_X10_apart hs hwf) hg (fun cn e => (hrm cn e).1)) ⟨(Nat.le_of_ble_eq_true rfl), (Nat.le_of_ble_eq_true rfl)⟩ (As := [.int (xs (i + 1)), .int (xs (i + 2)), .int (xs (i + 3))]) (rest := []) rfl rfl (Nat.le_of_ble_eq_true rfl) dL_law__602 ⟨by show cells + (kc + 1) ≤ 601024; omega, by show slots + (ks + 6) ≤ 7293034; omega⟩ (fun oa' aa' f' H1 locs1 e00 hlv h => ?_)
  show W p l e room_1 s m #[Value.ref b] below meth c H1 locs1 (cells + (kc + 1)) (slots + (ks + 6)) Q (F0 m 605 ls [.int (cdW mdIS r)])
  refine lv_istore (lv' := (5, .int (cdW mdIS r)) :: lb b (oa (0, 0)) (ad 0) o i) hx hb dL_law__605 hl (by decide) rfl (fun ls hl => ?_)
  refine lv_aload_n hx hb dL_law__607 rfl (lv_at hl 3 rfl) ?_
  refine r_scr K h.1.2.1 (lv_at hl 1 rfl) (lv_at hl 5 rfl) 1 hi (by decide) dL_law__608 dL_law__609 dL_law__611 (by decide) dL_law__612 dL_law__613 ?_
  refine r_scr K h.1.2.1 (lv_at hl 1 rfl) (lv_at hl 5 rfl) 2 hi (by decide) dL_law__614 dL_law__615 dL_law__617 (by decide) dL_law__618 dL_law__619 ?_
  refine r_scr K h.1.2.1 (lv_at hl 1 rfl) (lv_at hl 5 rfl) 3 hi (by decide) dL_law__620 dL_law__621 dL_law__623 (by decide) dL_law__624 dL_law__625 ?_
  refine r_lawQ C h hl lkq_179 (c_X11_apart hq) ⟨rfl, rfl⟩ ⟨(Nat.le_of_ble_eq_true rfl), (Nat.le_of_ble_eq_true rfl)⟩ (As := [.int (xs (i + 1)), .int (xs (i + 2)), .int (xs (i + 3))]) (rest := []) rfl rfl (Nat.le_of_ble_eq_true rfl) dL_law__626 ⟨by show cells + (kc + 1) ≤ 601024; omega, by show slots + (ks + 6) ≤ 7293034; omega⟩ (fun H1 locs1 h => ?_)
  show W p l e room_1 s m #[Value.ref b] below meth c H1 locs1 (cells + (kc + 1)) (slots + (ks + 6)) Q (F0 m 629 ls [.int x])
  refine tlB K h hl hthr (cdB hrv hrm hlv) ⟨by show cells + (kc + 1) ≤ 601024; omega, by show slots + (ks + 6) ≤ 7293034; omega⟩ dL_law__629 dL_law__631 dL_law__632 dL_law__635 dL_law__637 dL_law__642 dL_law__644 dL_law__647 dL_law__648 dL_law__649 dL_law__650 dL_law__652 dL_law__655 dL_law__656 dL_law__659 dL_law__660 dL_law__661 dL_law__666 (by decide) (fun H2 locs2 ls' h hl => ?_)
  exact kk oa' aa' sh' ln' bb a f' H2 locs2 (cells + (kc + 1)) (slots + (ks + 6)) ls' e00 h hRel (fun s hs => (HS.lf0 _ _ _ _ _ _ hg s hs).trans (hS s hs)) (by omega) (by omega) hP3 hl
set_option maxHeartbeats 4000000 in
set_option maxRecDepth 100000 in
theorem br_8 {p : Program} {l : Launch} {e : Env} {s : State} {m : MethodId} {below : List Frame} {meth : Method} {c : Code} {H : Heap} {locs : List Loc} {cells slots : Nat} {Q : State → Prop} {ls : Array Slot} {D : va_G} {tc : Nat → ClassId} {ro : Ro} {oa : Ky → Nat} {aa : Nat → Nat} {ad : Nat → Nat} {sh : Sh} {ln : Nat → Nat} {A : Nat → Prop} {μk μq : Mm} {b o L i : Nat} {xs : Nat → Int32} {f : Nat → Int64} {V n N w0 : Nat} {r0 : Nat → Int32} {Λo : Option LW} {j d t c0 z : Nat} {T : Nat → Nat} (K : LCw p s m c D tc ro A b L xs) (hs : l.stackTraces = false) (hi : i + 6 ≤ L) (h : L3 D tc s A oa aa sh ln μk ad μq o f H locs) (hR : RLL sh ln μq μk V n N w0 r0 Λo j d t c0 T z) (hS : S11 sh) (hNF : NF sh μk) (h4 : sh 4 2 < 600) (hb1 : cells + POc sh ln + 3 ≤ 601024) (hb2 : slots + POs sh ln + 520 ≤ 7293034) (hl : lv_has ls 7 (lb b (oa (0, 0)) (ad 0) o i)) (kk : Kt p l e s m below meth c Q D tc A b o i ad oa sh ln cells slots) : W p l e room_1 s m #[Value.ref b] below meth c H locs cells slots Q (F0 m 669 ls []) := by
  have C := K.1
  have hx := K.1.1.1
  have hb := K.1.1.2.1
  have hwf : WfS sh := hR.wf
  obtain ⟨r, x, a, sh', ln', bb, kc, ks, hg, hq, hrv, hthr, hrm, hRel, hP1, hP2, hP3⟩ := STP.uni (md := mdIS) (s_sure hR (xs (i + 1)) (xs (i + 2)))
  refine lv_aload_n hx hb dL_law__669 rfl (lv_at hl 1 rfl) ?_
  refine r_scr K h.1.2.1 (lv_at hl 0 rfl) (lv_at hl 4 rfl) 1 hi (by decide) dL_law__670 dL_law__671 dL_law__673 (by decide) dL_law__674 dL_law__675 ?_
  refine r_scr K h.1.2.1 (lv_at hl 0 rfl) (lv_at hl 4 rfl) 2 hi (by decide) dL_law__676 dL_law__677 dL_law__679 (by decide) dL_law__680 dL_law__681 ?_
  refine lv_aload_n hx hb dL_law__682 rfl (lv_at hl 3 rfl) ?_
  refine r_lawW C K.2.2.2.2.1 K.2.2.2.2.2.1 K.2.2.2.2.2.2.1 h hl lkw_180 (cW_sure (G_X10_sure hs hwf) hg (fun cn e => (hrm cn e).1)) ⟨(Nat.le_of_ble_eq_true rfl), (Nat.le_of_ble_eq_true rfl)⟩ (As := [.int (xs (i + 1)), .int (xs (i + 2))]) (rest := []) rfl rfl (Nat.le_of_ble_eq_true rfl) dL_law__683 ⟨by show cells + (kc + 1) ≤ 601024; omega, by show slots + (ks + 6) ≤ 7293034; omega⟩ (fun oa' aa' f' H1 locs1 e00 hlv h => ?_)
  show W p l e room_1 s m #[Value.ref b] below meth c H1 locs1 (cells + (kc + 1)) (slots + (ks + 6)) Q (F0 m 686 ls [.int (cdW mdIS r)])
  refine lv_istore (lv' := (5, .int (cdW mdIS r)) :: lb b (oa (0, 0)) (ad 0) o i) hx hb dL_law__686 hl (by decide) rfl (fun ls hl => ?_)
  refine lv_aload_n hx hb dL_law__688 rfl (lv_at hl 3 rfl) ?_
  refine r_scr K h.1.2.1 (lv_at hl 1 rfl) (lv_at hl 5 rfl) 1 hi (by decide) dL_law__689 dL_law__690 dL_law__692 (by decide) dL_law__693 dL_law__694 ?_
  refine r_scr K h.1.2.1 (lv_at hl 1 rfl) (lv_at hl 5 rfl) 2 hi (by decide) dL_law__695 dL_law__696 dL_law__698 (by decide) dL_law__699 dL_law__700 ?_
  refine r_lawQ C h hl lkq_182 (c_X11_sure hq) ⟨rfl, rfl⟩ ⟨(Nat.le_of_ble_eq_true rfl), (Nat.le_of_ble_eq_true rfl)⟩ (As := [.int (xs (i + 1)), .int (xs (i + 2))]) (rest := []) rfl rfl (Nat.le_of_ble_eq_true rfl) dL_law__701 ⟨by show cells + (kc + 1) ≤ 601024; omega, by show slots + (ks + 6) ≤ 7293034; omega⟩ (fun H1 locs1 h => ?_)
  show W p l e room_1 s m #[Value.ref b] below meth c H1 locs1 (cells + (kc + 1)) (slots + (ks + 6)) Q (F0 m 704 ls [.int x])
  refine tlB K h hl hthr (cdB hrv hrm hlv) ⟨by show cells + (kc + 1) ≤ 601024; omega, by show slots + (ks + 6) ≤ 7293034; omega⟩ dL_law__704 dL_law__706 dL_law__707 dL_law__710 dL_law__712 dL_law__717 dL_law__719 dL_law__722 dL_law__723 dL_law__724 dL_law__725 dL_law__727 dL_law__730 dL_law__731 dL_law__734 dL_law__735 dL_law__736 dL_law__741 (by decide) (fun H2 locs2 ls' h hl => ?_)
  exact kk oa' aa' sh' ln' bb a f' H2 locs2 (cells + (kc + 1)) (slots + (ks + 6)) ls' e00 h hRel (fun s hs => (HS.lf0 _ _ _ _ _ _ hg s hs).trans (hS s hs)) (by omega) (by omega) hP3 hl
set_option maxHeartbeats 4000000 in
set_option maxRecDepth 100000 in
theorem br_9 {p : Program} {l : Launch} {e : Env} {s : State} {m : MethodId} {below : List Frame} {meth : Method} {c : Code} {H : Heap} {locs : List Loc} {cells slots : Nat} {Q : State → Prop} {ls : Array Slot} {D : va_G} {tc : Nat → ClassId} {ro : Ro} {oa : Ky → Nat} {aa : Nat → Nat} {ad : Nat → Nat} {sh : Sh} {ln : Nat → Nat} {A : Nat → Prop} {μk μq : Mm} {b o L i : Nat} {xs : Nat → Int32} {f : Nat → Int64} {V n N w0 : Nat} {r0 : Nat → Int32} {Λo : Option LW} {j d t c0 z : Nat} {T : Nat → Nat} (K : LCw p s m c D tc ro A b L xs) (hs : l.stackTraces = false) (hi : i + 6 ≤ L) (h : L3 D tc s A oa aa sh ln μk ad μq o f H locs) (hR : RLL sh ln μq μk V n N w0 r0 Λo j d t c0 T z) (hS : S11 sh) (hNF : NF sh μk) (h4 : sh 4 2 < 600) (hb1 : cells + POc sh ln + 3 ≤ 601024) (hb2 : slots + POs sh ln + 520 ≤ 7293034) (hl : lv_has ls 7 (lb b (oa (0, 0)) (ad 0) o i)) (kk : Kt p l e s m below meth c Q D tc A b o i ad oa sh ln cells slots) : W p l e room_1 s m #[Value.ref b] below meth c H locs cells slots Q (F0 m 744 ls []) := by
  have C := K.1
  have hx := K.1.1.1
  have hb := K.1.1.2.1
  have hwf : WfS sh := hR.wf
  obtain ⟨r, x, a, sh', ln', bb, kc, ks, hg, hq, hrv, hthr, hrm, hRel, hP1, hP2, hP3⟩ := STP.uni (md := mdIAS) (s_manner hR (xs (i + 1)) (xs (i + 2)) (xs (i + 3)))
  refine lv_aload_n hx hb dL_law__744 rfl (lv_at hl 1 rfl) ?_
  refine r_scr K h.1.2.1 (lv_at hl 0 rfl) (lv_at hl 4 rfl) 1 hi (by decide) dL_law__745 dL_law__746 dL_law__748 (by decide) dL_law__749 dL_law__750 ?_
  refine r_scr K h.1.2.1 (lv_at hl 0 rfl) (lv_at hl 4 rfl) 2 hi (by decide) dL_law__751 dL_law__752 dL_law__754 (by decide) dL_law__755 dL_law__756 ?_
  refine r_scr K h.1.2.1 (lv_at hl 0 rfl) (lv_at hl 4 rfl) 3 hi (by decide) dL_law__757 dL_law__758 dL_law__760 (by decide) dL_law__761 dL_law__762 ?_
  refine lv_aload_n hx hb dL_law__763 rfl (lv_at hl 3 rfl) ?_
  refine r_lawW C K.2.2.2.2.1 K.2.2.2.2.2.1 K.2.2.2.2.2.2.1 h hl lkw_183 (cW_manner (G_X10_manner hs hwf) hg (fun cn e => (hrm cn e).1)) ⟨(Nat.le_of_ble_eq_true rfl), (Nat.le_of_ble_eq_true rfl)⟩ (As := [.int (xs (i + 1)), .int (xs (i + 2)), .int (xs (i + 3))]) (rest := []) rfl rfl (Nat.le_of_ble_eq_true rfl) dL_law__764 ⟨by show cells + (kc + 1) ≤ 601024; omega, by show slots + (ks + 6) ≤ 7293034; omega⟩ (fun oa' aa' f' H1 locs1 e00 hlv h => ?_)
  show W p l e room_1 s m #[Value.ref b] below meth c H1 locs1 (cells + (kc + 1)) (slots + (ks + 6)) Q (F0 m 767 ls [.int (cdW mdIAS r)])
  refine lv_istore (lv' := (5, .int (cdW mdIAS r)) :: lb b (oa (0, 0)) (ad 0) o i) hx hb dL_law__767 hl (by decide) rfl (fun ls hl => ?_)
  refine lv_aload_n hx hb dL_law__769 rfl (lv_at hl 3 rfl) ?_
  refine r_scr K h.1.2.1 (lv_at hl 1 rfl) (lv_at hl 5 rfl) 1 hi (by decide) dL_law__770 dL_law__771 dL_law__773 (by decide) dL_law__774 dL_law__775 ?_
  refine r_scr K h.1.2.1 (lv_at hl 1 rfl) (lv_at hl 5 rfl) 2 hi (by decide) dL_law__776 dL_law__777 dL_law__779 (by decide) dL_law__780 dL_law__781 ?_
  refine r_scr K h.1.2.1 (lv_at hl 1 rfl) (lv_at hl 5 rfl) 3 hi (by decide) dL_law__782 dL_law__783 dL_law__785 (by decide) dL_law__786 dL_law__787 ?_
  refine r_lawQ C h hl lkq_185 (c_X11_manner hq) ⟨rfl, rfl⟩ ⟨(Nat.le_of_ble_eq_true rfl), (Nat.le_of_ble_eq_true rfl)⟩ (As := [.int (xs (i + 1)), .int (xs (i + 2)), .int (xs (i + 3))]) (rest := []) rfl rfl (Nat.le_of_ble_eq_true rfl) dL_law__788 ⟨by show cells + (kc + 1) ≤ 601024; omega, by show slots + (ks + 6) ≤ 7293034; omega⟩ (fun H1 locs1 h => ?_)
  show W p l e room_1 s m #[Value.ref b] below meth c H1 locs1 (cells + (kc + 1)) (slots + (ks + 6)) Q (F0 m 791 ls [.int x])
  refine tlI K h hl hthr (cdI hrv hrm hlv) ⟨by show cells + (kc + 1) ≤ 601024; omega, by show slots + (ks + 6) ≤ 7293034; omega⟩ dL_law__791 dL_law__793 dL_law__794 dL_law__797 dL_law__799 dL_law__804 dL_law__806 dL_law__809 dL_law__810 dL_law__811 dL_law__812 dL_law__814 dL_law__815 dL_law__816 dL_law__821 (by decide) (fun H2 locs2 ls' h hl => ?_)
  exact kk oa' aa' sh' ln' bb a f' H2 locs2 (cells + (kc + 1)) (slots + (ks + 6)) ls' e00 h hRel (fun s hs => (HS.lf0 _ _ _ _ _ _ hg s hs).trans (hS s hs)) (by omega) (by omega) hP3 hl
set_option maxHeartbeats 4000000 in
set_option maxRecDepth 100000 in
theorem br_10 {p : Program} {l : Launch} {e : Env} {s : State} {m : MethodId} {below : List Frame} {meth : Method} {c : Code} {H : Heap} {locs : List Loc} {cells slots : Nat} {Q : State → Prop} {ls : Array Slot} {D : va_G} {tc : Nat → ClassId} {ro : Ro} {oa : Ky → Nat} {aa : Nat → Nat} {ad : Nat → Nat} {sh : Sh} {ln : Nat → Nat} {A : Nat → Prop} {μk μq : Mm} {b o L i : Nat} {xs : Nat → Int32} {f : Nat → Int64} {V n N w0 : Nat} {r0 : Nat → Int32} {Λo : Option LW} {j d t c0 z : Nat} {T : Nat → Nat} (K : LCw p s m c D tc ro A b L xs) (hs : l.stackTraces = false) (hi : i + 6 ≤ L) (h : L3 D tc s A oa aa sh ln μk ad μq o f H locs) (hR : RLL sh ln μq μk V n N w0 r0 Λo j d t c0 T z) (hS : S11 sh) (hNF : NF sh μk) (h4 : sh 4 2 < 600) (hb1 : cells + POc sh ln + 3 ≤ 601024) (hb2 : slots + POs sh ln + 520 ≤ 7293034) (hl : lv_has ls 7 (lb b (oa (0, 0)) (ad 0) o i)) (kk : Kt p l e s m below meth c Q D tc A b o i ad oa sh ln cells slots) : W p l e room_1 s m #[Value.ref b] below meth c H locs cells slots Q (F0 m 824 ls []) := by
  have C := K.1
  have hx := K.1.1.1
  have hb := K.1.1.2.1
  have hwf : WfS sh := hR.wf
  obtain ⟨r, x, a, sh', ln', bb, kc, ks, hg, hq, hrv, hthr, hrm, hRel, hP1, hP2, hP3⟩ := STP.uni (md := mdIAS) (s_treat hR (xs (i + 1)) (xs (i + 2)) (decide (xs (i + 3) ≠ 0)))
  refine lv_aload_n hx hb dL_law__824 rfl (lv_at hl 1 rfl) ?_
  refine r_scr K h.1.2.1 (lv_at hl 0 rfl) (lv_at hl 4 rfl) 1 hi (by decide) dL_law__825 dL_law__826 dL_law__828 (by decide) dL_law__829 dL_law__830 ?_
  refine r_scr K h.1.2.1 (lv_at hl 0 rfl) (lv_at hl 4 rfl) 2 hi (by decide) dL_law__831 dL_law__832 dL_law__834 (by decide) dL_law__835 dL_law__836 ?_
  refine r_scr K h.1.2.1 (lv_at hl 0 rfl) (lv_at hl 4 rfl) 3 hi (by decide) dL_law__837 dL_law__838 dL_law__840 (by decide) dL_law__841 dL_law__842 ?_
  refine r_bool K dL_law__843 dL_law__846 dL_law__847 dL_law__850 ?_
  refine lv_aload_n hx hb dL_law__851 rfl (lv_at hl 3 rfl) ?_
  refine r_lawW C K.2.2.2.2.1 K.2.2.2.2.2.1 K.2.2.2.2.2.2.1 h hl lkw_186 (cW_treat (G_X10_treat hs hwf hR.h9 hR.h10 hNF.1) hg (fun cn e => (hrm cn e).1)) ⟨(Nat.le_of_ble_eq_true rfl), (Nat.le_of_ble_eq_true rfl)⟩ (As := [.int (xs (i + 1)), .int (xs (i + 2)), .int (bI (decide (xs (i + 3) ≠ 0)))]) (rest := []) rfl rfl (Nat.le_of_ble_eq_true rfl) dL_law__852 ⟨by show cells + (kc + 1) ≤ 601024; omega, by show slots + (ks + 6) ≤ 7293034; omega⟩ (fun oa' aa' f' H1 locs1 e00 hlv h => ?_)
  show W p l e room_1 s m #[Value.ref b] below meth c H1 locs1 (cells + (kc + 1)) (slots + (ks + 6)) Q (F0 m 855 ls [.int (cdW mdIAS r)])
  refine lv_istore (lv' := (5, .int (cdW mdIAS r)) :: lb b (oa (0, 0)) (ad 0) o i) hx hb dL_law__855 hl (by decide) rfl (fun ls hl => ?_)
  refine lv_aload_n hx hb dL_law__857 rfl (lv_at hl 3 rfl) ?_
  refine r_scr K h.1.2.1 (lv_at hl 1 rfl) (lv_at hl 5 rfl) 1 hi (by decide) dL_law__858 dL_law__859 dL_law__861 (by decide) dL_law__862 dL_law__863 ?_
  refine r_scr K h.1.2.1 (lv_at hl 1 rfl) (lv_at hl 5 rfl) 2 hi (by decide) dL_law__864 dL_law__865 dL_law__867 (by decide) dL_law__868 dL_law__869 ?_
  refine r_scr K h.1.2.1 (lv_at hl 1 rfl) (lv_at hl 5 rfl) 3 hi (by decide) dL_law__870 dL_law__871 dL_law__873 (by decide) dL_law__874 dL_law__875 ?_
  refine r_bool K dL_law__876 dL_law__879 dL_law__880 dL_law__883 ?_
  refine r_lawQ C h hl lkq_189 (c_X11_treat hq) ⟨rfl, rfl⟩ ⟨(Nat.le_of_ble_eq_true rfl), (Nat.le_of_ble_eq_true rfl)⟩ (As := [.int (xs (i + 1)), .int (xs (i + 2)), .int (bI (decide (xs (i + 3) ≠ 0)))]) (rest := []) rfl rfl (Nat.le_of_ble_eq_true rfl) dL_law__884 ⟨by show cells + (kc + 1) ≤ 601024; omega, by show slots + (ks + 6) ≤ 7293034; omega⟩ (fun H1 locs1 h => ?_)
  show W p l e room_1 s m #[Value.ref b] below meth c H1 locs1 (cells + (kc + 1)) (slots + (ks + 6)) Q (F0 m 887 ls [.int x])
  refine tlI K h hl hthr (cdI hrv hrm hlv) ⟨by show cells + (kc + 1) ≤ 601024; omega, by show slots + (ks + 6) ≤ 7293034; omega⟩ dL_law__887 dL_law__889 dL_law__890 dL_law__893 dL_law__895 dL_law__900 dL_law__902 dL_law__905 dL_law__906 dL_law__907 dL_law__908 dL_law__910 dL_law__911 dL_law__912 dL_law__917 (by decide) (fun H2 locs2 ls' h hl => ?_)
  exact kk oa' aa' sh' ln' bb a f' H2 locs2 (cells + (kc + 1)) (slots + (ks + 6)) ls' e00 h hRel (fun s hs => (HS.treat hwf _ _ _ _ _ _ hg s hs).trans (hS s hs)) (by omega) (by omega) hP3 hl
set_option maxHeartbeats 4000000 in
set_option maxRecDepth 100000 in
theorem br_11 {p : Program} {l : Launch} {e : Env} {s : State} {m : MethodId} {below : List Frame} {meth : Method} {c : Code} {H : Heap} {locs : List Loc} {cells slots : Nat} {Q : State → Prop} {ls : Array Slot} {D : va_G} {tc : Nat → ClassId} {ro : Ro} {oa : Ky → Nat} {aa : Nat → Nat} {ad : Nat → Nat} {sh : Sh} {ln : Nat → Nat} {A : Nat → Prop} {μk μq : Mm} {b o L i : Nat} {xs : Nat → Int32} {f : Nat → Int64} {V n N w0 : Nat} {r0 : Nat → Int32} {Λo : Option LW} {j d t c0 z : Nat} {T : Nat → Nat} (K : LCw p s m c D tc ro A b L xs) (hs : l.stackTraces = false) (hi : i + 6 ≤ L) (h : L3 D tc s A oa aa sh ln μk ad μq o f H locs) (hR : RLL sh ln μq μk V n N w0 r0 Λo j d t c0 T z) (hS : S11 sh) (hNF : NF sh μk) (h4 : sh 4 2 < 600) (hb1 : cells + POc sh ln + 3 ≤ 601024) (hb2 : slots + POs sh ln + 520 ≤ 7293034) (hl : lv_has ls 7 (lb b (oa (0, 0)) (ad 0) o i)) (kk : Kt p l e s m below meth c Q D tc A b o i ad oa sh ln cells slots) : W p l e room_1 s m #[Value.ref b] below meth c H locs cells slots Q (F0 m 920 ls []) := by
  have C := K.1
  have hx := K.1.1.1
  have hb := K.1.1.2.1
  have hwf : WfS sh := hR.wf
  obtain ⟨r, x, a, sh', ln', bb, kc, ks, hg, hq, hrv, hthr, hrm, hRel, hP1, hP2, hP3⟩ := STP.uni (md := mdI) (s_turn hR (xs (i + 1)) (xs (i + 2)))
  refine lv_aload_n hx hb dL_law__920 rfl (lv_at hl 1 rfl) ?_
  refine r_scr K h.1.2.1 (lv_at hl 0 rfl) (lv_at hl 4 rfl) 1 hi (by decide) dL_law__921 dL_law__922 dL_law__924 (by decide) dL_law__925 dL_law__926 ?_
  refine r_scr K h.1.2.1 (lv_at hl 0 rfl) (lv_at hl 4 rfl) 2 hi (by decide) dL_law__927 dL_law__928 dL_law__930 (by decide) dL_law__931 dL_law__932 ?_
  refine lv_aload_n hx hb dL_law__933 rfl (lv_at hl 3 rfl) ?_
  refine r_lawW C K.2.2.2.2.1 K.2.2.2.2.2.1 K.2.2.2.2.2.2.1 h hl lkw_190 (cW_turn (G_X10_turn hs hwf hR.h9 hR.h10 hNF.1) hg (fun cn e => (hrm cn e).1)) ⟨(Nat.le_of_ble_eq_true rfl), (Nat.le_of_ble_eq_true rfl)⟩ (As := [.int (xs (i + 1)), .int (xs (i + 2))]) (rest := []) rfl rfl (Nat.le_of_ble_eq_true rfl) dL_law__934 ⟨by show cells + (kc + 1) ≤ 601024; omega, by show slots + (ks + 6) ≤ 7293034; omega⟩ (fun oa' aa' f' H1 locs1 e00 hlv h => ?_)
  show W p l e room_1 s m #[Value.ref b] below meth c H1 locs1 (cells + (kc + 1)) (slots + (ks + 6)) Q (F0 m 937 ls [.int (cdW mdI r)])
  refine lv_istore (lv' := (5, .int (cdW mdI r)) :: lb b (oa (0, 0)) (ad 0) o i) hx hb dL_law__937 hl (by decide) rfl (fun ls hl => ?_)
  refine lv_aload_n hx hb dL_law__939 rfl (lv_at hl 3 rfl) ?_
  refine r_scr K h.1.2.1 (lv_at hl 1 rfl) (lv_at hl 5 rfl) 1 hi (by decide) dL_law__940 dL_law__941 dL_law__943 (by decide) dL_law__944 dL_law__945 ?_
  refine r_scr K h.1.2.1 (lv_at hl 1 rfl) (lv_at hl 5 rfl) 2 hi (by decide) dL_law__946 dL_law__947 dL_law__949 (by decide) dL_law__950 dL_law__951 ?_
  refine r_lawQ C h hl lkq_192 (c_X11_turn hq) ⟨rfl, rfl⟩ ⟨(Nat.le_of_ble_eq_true rfl), (Nat.le_of_ble_eq_true rfl)⟩ (As := [.int (xs (i + 1)), .int (xs (i + 2))]) (rest := []) rfl rfl (Nat.le_of_ble_eq_true rfl) dL_law__952 ⟨by show cells + (kc + 1) ≤ 601024; omega, by show slots + (ks + 6) ≤ 7293034; omega⟩ (fun H1 locs1 h => ?_)
  show W p l e room_1 s m #[Value.ref b] below meth c H1 locs1 (cells + (kc + 1)) (slots + (ks + 6)) Q (F0 m 955 ls [.int x])
  refine tlI K h hl hthr (cdI hrv hrm hlv) ⟨by show cells + (kc + 1) ≤ 601024; omega, by show slots + (ks + 6) ≤ 7293034; omega⟩ dL_law__955 dL_law__957 dL_law__958 dL_law__961 dL_law__963 dL_law__968 dL_law__970 dL_law__973 dL_law__974 dL_law__975 dL_law__976 dL_law__978 dL_law__979 dL_law__980 dL_law__985 (by decide) (fun H2 locs2 ls' h hl => ?_)
  exact kk oa' aa' sh' ln' bb a f' H2 locs2 (cells + (kc + 1)) (slots + (ks + 6)) ls' e00 h hRel (fun s hs => (HS.turn hwf _ _ _ _ _ _ hg s hs).trans (hS s hs)) (by omega) (by omega) hP3 hl
set_option maxHeartbeats 4000000 in
set_option maxRecDepth 100000 in
theorem br_12 {p : Program} {l : Launch} {e : Env} {s : State} {m : MethodId} {below : List Frame} {meth : Method} {c : Code} {H : Heap} {locs : List Loc} {cells slots : Nat} {Q : State → Prop} {ls : Array Slot} {D : va_G} {tc : Nat → ClassId} {ro : Ro} {oa : Ky → Nat} {aa : Nat → Nat} {ad : Nat → Nat} {sh : Sh} {ln : Nat → Nat} {A : Nat → Prop} {μk μq : Mm} {b o L i : Nat} {xs : Nat → Int32} {f : Nat → Int64} {V n N w0 : Nat} {r0 : Nat → Int32} {Λo : Option LW} {j d t c0 z : Nat} {T : Nat → Nat} (K : LCw p s m c D tc ro A b L xs) (hs : l.stackTraces = false) (hi : i + 6 ≤ L) (h : L3 D tc s A oa aa sh ln μk ad μq o f H locs) (hR : RLL sh ln μq μk V n N w0 r0 Λo j d t c0 T z) (hS : S11 sh) (hNF : NF sh μk) (h4 : sh 4 2 < 600) (hb1 : cells + POc sh ln + 3 ≤ 601024) (hb2 : slots + POs sh ln + 520 ≤ 7293034) (hl : lv_has ls 7 (lb b (oa (0, 0)) (ad 0) o i)) (kk : Kt p l e s m below meth c Q D tc A b o i ad oa sh ln cells slots) : W p l e room_1 s m #[Value.ref b] below meth c H locs cells slots Q (F0 m 988 ls []) := by
  have C := K.1
  have hx := K.1.1.1
  have hb := K.1.1.2.1
  have hwf : WfS sh := hR.wf
  obtain ⟨r, x, a, sh', ln', bb, kc, ks, hg, hq, hrv, hthr, hrm, hRel, hP1, hP2, hP3⟩ := STP.uni (md := mdI) (s_ask hR (xs (i + 1)))
  refine lv_aload_n hx hb dL_law__988 rfl (lv_at hl 1 rfl) ?_
  refine r_scr K h.1.2.1 (lv_at hl 0 rfl) (lv_at hl 4 rfl) 1 hi (by decide) dL_law__989 dL_law__990 dL_law__992 (by decide) dL_law__993 dL_law__994 ?_
  refine lv_aload_n hx hb dL_law__995 rfl (lv_at hl 3 rfl) ?_
  refine r_lawW C K.2.2.2.2.1 K.2.2.2.2.2.1 K.2.2.2.2.2.2.1 h hl lkw_193 (cW_ask (G_X10_ask hs hwf hR.h9 hR.h10 hNF.1) hg (fun cn e => (hrm cn e).1)) ⟨(Nat.le_of_ble_eq_true rfl), (Nat.le_of_ble_eq_true rfl)⟩ (As := [.int (xs (i + 1))]) (rest := []) rfl rfl (Nat.le_of_ble_eq_true rfl) dL_law__996 ⟨by show cells + (kc + 1) ≤ 601024; omega, by show slots + (ks + 6) ≤ 7293034; omega⟩ (fun oa' aa' f' H1 locs1 e00 hlv h => ?_)
  show W p l e room_1 s m #[Value.ref b] below meth c H1 locs1 (cells + (kc + 1)) (slots + (ks + 6)) Q (F0 m 999 ls [.int (cdW mdI r)])
  refine lv_istore (lv' := (5, .int (cdW mdI r)) :: lb b (oa (0, 0)) (ad 0) o i) hx hb dL_law__999 hl (by decide) rfl (fun ls hl => ?_)
  refine lv_aload_n hx hb dL_law__1001 rfl (lv_at hl 3 rfl) ?_
  refine r_scr K h.1.2.1 (lv_at hl 1 rfl) (lv_at hl 5 rfl) 1 hi (by decide) dL_law__1002 dL_law__1003 dL_law__1005 (by decide) dL_law__1006 dL_law__1007 ?_
  refine r_lawQ C h hl lkq_195 (c_X11_ask hq) ⟨rfl, rfl⟩ ⟨(Nat.le_of_ble_eq_true rfl), (Nat.le_of_ble_eq_true rfl)⟩ (As := [.int (xs (i + 1))]) (rest := []) rfl rfl (Nat.le_of_ble_eq_true rfl) dL_law__1008 ⟨by show cells + (kc + 1) ≤ 601024; omega, by show slots + (ks + 6) ≤ 7293034; omega⟩ (fun H1 locs1 h => ?_)
  show W p l e room_1 s m #[Value.ref b] below meth c H1 locs1 (cells + (kc + 1)) (slots + (ks + 6)) Q (F0 m 1011 ls [.int x])
  refine tlB K h hl hthr (cdB hrv hrm hlv) ⟨by show cells + (kc + 1) ≤ 601024; omega, by show slots + (ks + 6) ≤ 7293034; omega⟩ dL_law__1011 dL_law__1013 dL_law__1014 dL_law__1017 dL_law__1019 dL_law__1024 dL_law__1026 dL_law__1029 dL_law__1030 dL_law__1031 dL_law__1032 dL_law__1034 dL_law__1037 dL_law__1038 dL_law__1041 dL_law__1042 dL_law__1043 dL_law__1048 (by decide) (fun H2 locs2 ls' h hl => ?_)
  exact kk oa' aa' sh' ln' bb a f' H2 locs2 (cells + (kc + 1)) (slots + (ks + 6)) ls' e00 h hRel (fun s hs => (HS.ask hwf _ _ _ _ _ _ hg s hs).trans (hS s hs)) (by omega) (by omega) hP3 hl
set_option maxHeartbeats 4000000 in
set_option maxRecDepth 100000 in
theorem br_13 {p : Program} {l : Launch} {e : Env} {s : State} {m : MethodId} {below : List Frame} {meth : Method} {c : Code} {H : Heap} {locs : List Loc} {cells slots : Nat} {Q : State → Prop} {ls : Array Slot} {D : va_G} {tc : Nat → ClassId} {ro : Ro} {oa : Ky → Nat} {aa : Nat → Nat} {ad : Nat → Nat} {sh : Sh} {ln : Nat → Nat} {A : Nat → Prop} {μk μq : Mm} {b o L i : Nat} {xs : Nat → Int32} {f : Nat → Int64} {V n N w0 : Nat} {r0 : Nat → Int32} {Λo : Option LW} {j d t c0 z : Nat} {T : Nat → Nat} (K : LCw p s m c D tc ro A b L xs) (hs : l.stackTraces = false) (hi : i + 6 ≤ L) (h : L3 D tc s A oa aa sh ln μk ad μq o f H locs) (hR : RLL sh ln μq μk V n N w0 r0 Λo j d t c0 T z) (hS : S11 sh) (hNF : NF sh μk) (h4 : sh 4 2 < 600) (hb1 : cells + POc sh ln + 3 ≤ 601024) (hb2 : slots + POs sh ln + 520 ≤ 7293034) (hl : lv_has ls 7 (lb b (oa (0, 0)) (ad 0) o i)) (kk : Kt p l e s m below meth c Q D tc A b o i ad oa sh ln cells slots) : W p l e room_1 s m #[Value.ref b] below meth c H locs cells slots Q (F0 m 1051 ls []) := by
  have C := K.1
  have hx := K.1.1.1
  have hb := K.1.1.2.1
  have hwf : WfS sh := hR.wf
  obtain ⟨r, x, a, sh', ln', bb, kc, ks, hg, hq, hrv, hthr, hrm, hRel, hP1, hP2, hP3⟩ := STP.uni (md := fun _ => 0) (s_day hR )
  obtain ⟨v, rfl⟩ : ∃ v, r = .inl v := by
    cases r with
    | inl v => exact ⟨v, rfl⟩
    | inr cn => exact absurd (hrm cn rfl).1 (by decide)
  have ev := hrv v rfl
  obtain ⟨rm, ⟨b1, b2, b3, b4⟩, hM⟩ := G_X10_day hs hwf hR.h9 hR.h10 hNF.1 (D := D) (tc := tc) (ro := ro) (oa := oa) _ _ _ _ _ _ hg
  refine lv_aload_n hx hb dL_law__1051 rfl (lv_at hl 1 rfl) ?_
  refine r_lawG C K.2.2.2.2.1 K.2.2.2.2.2.1 h hl lk_L_196 hM ⟨by show rm.frames + 1 ≤ 2048; omega, by show 8 + (1 + 11) + rm.locals ≤ 84000; omega⟩ (As := []) (rest := []) rfl rfl (Nat.le_of_ble_eq_true rfl) dL_law__1052 ⟨by show cells + rm.cells ≤ 601024; omega, by show slots + rm.slots ≤ 7293034; omega⟩ (fun oa' aa' H1 locs1 e00 h => ?_)
  show W p l e room_1 s m #[Value.ref b] below meth c H1 locs1 (cells + rm.cells) (slots + rm.slots) Q (F0 m 1055 ls [.int v])
  refine lv_aload_n hx hb dL_law__1055 rfl (lv_at hl 2 rfl) ?_
  refine r_lawQ C h hl lkq_199 (c_X11_day hq) ⟨rfl, rfl⟩ ⟨(Nat.le_of_ble_eq_true rfl), (Nat.le_of_ble_eq_true rfl)⟩ (As := []) (rest := [.int v]) rfl rfl (Nat.le_of_ble_eq_true rfl) dL_law__1056 ⟨by show cells + rm.cells ≤ 601024; omega, by show slots + rm.slots ≤ 7293034; omega⟩ (fun H1 locs1 h => ?_)
  show W p l e room_1 s m #[Value.ref b] below meth c H1 locs1 (cells + rm.cells) (slots + rm.slots) Q (F0 m 1059 ls [.int x, .int v])
  refine lv_icmp_eq (tgt := 2913) hx hb dL_law__1059 (by decide) (fun c1 => ?_) (fun c1 => by first | exact absurd ev c1 | exact absurd ev.symm c1)
  exact kk oa' aa' sh' ln' bb a f H1 locs1 (cells + rm.cells) (slots + rm.slots) ls e00 h hRel (fun s hs => (HS.day hwf _ _ _ _ _ _ hg s hs).trans (hS s hs)) (by omega) (by omega) hP3 hl
set_option maxHeartbeats 4000000 in
set_option maxRecDepth 100000 in
theorem br_14 {p : Program} {l : Launch} {e : Env} {s : State} {m : MethodId} {below : List Frame} {meth : Method} {c : Code} {H : Heap} {locs : List Loc} {cells slots : Nat} {Q : State → Prop} {ls : Array Slot} {D : va_G} {tc : Nat → ClassId} {ro : Ro} {oa : Ky → Nat} {aa : Nat → Nat} {ad : Nat → Nat} {sh : Sh} {ln : Nat → Nat} {A : Nat → Prop} {μk μq : Mm} {b o L i : Nat} {xs : Nat → Int32} {f : Nat → Int64} {V n N w0 : Nat} {r0 : Nat → Int32} {Λo : Option LW} {j d t c0 z : Nat} {T : Nat → Nat} (K : LCw p s m c D tc ro A b L xs) (hs : l.stackTraces = false) (hi : i + 6 ≤ L) (h : L3 D tc s A oa aa sh ln μk ad μq o f H locs) (hR : RLL sh ln μq μk V n N w0 r0 Λo j d t c0 T z) (hS : S11 sh) (hNF : NF sh μk) (h4 : sh 4 2 < 600) (hb1 : cells + POc sh ln + 3 ≤ 601024) (hb2 : slots + POs sh ln + 520 ≤ 7293034) (hl : lv_has ls 7 (lb b (oa (0, 0)) (ad 0) o i)) (kk : Kt p l e s m below meth c Q D tc A b o i ad oa sh ln cells slots) : W p l e room_1 s m #[Value.ref b] below meth c H locs cells slots Q (F0 m 1064 ls []) := by
  have C := K.1
  have hx := K.1.1.1
  have hb := K.1.1.2.1
  have hwf : WfS sh := hR.wf
  obtain ⟨r, x, a, sh', ln', bb, kc, ks, hg, hq, hrv, hthr, hrm, hRel, hP1, hP2, hP3⟩ := STP.uni (md := mdI) (s_read hR (xs (i + 1)))
  refine lv_aload_n hx hb dL_law__1064 rfl (lv_at hl 1 rfl) ?_
  refine r_scr K h.1.2.1 (lv_at hl 0 rfl) (lv_at hl 4 rfl) 1 hi (by decide) dL_law__1065 dL_law__1066 dL_law__1068 (by decide) dL_law__1069 dL_law__1070 ?_
  refine lv_aload_n hx hb dL_law__1071 rfl (lv_at hl 3 rfl) ?_
  refine r_lawW C K.2.2.2.2.1 K.2.2.2.2.2.1 K.2.2.2.2.2.2.1 h hl lkw_200 (cW_read (G_X10_read hs hwf hR.h9 hR.h10 hNF.1) hg (fun cn e => (hrm cn e).1)) ⟨(Nat.le_of_ble_eq_true rfl), (Nat.le_of_ble_eq_true rfl)⟩ (As := [.int (xs (i + 1))]) (rest := []) rfl rfl (Nat.le_of_ble_eq_true rfl) dL_law__1072 ⟨by show cells + (kc + 1) ≤ 601024; omega, by show slots + (ks + 6) ≤ 7293034; omega⟩ (fun oa' aa' f' H1 locs1 e00 hlv h => ?_)
  show W p l e room_1 s m #[Value.ref b] below meth c H1 locs1 (cells + (kc + 1)) (slots + (ks + 6)) Q (F0 m 1075 ls [.int (cdW mdI r)])
  refine lv_istore (lv' := (5, .int (cdW mdI r)) :: lb b (oa (0, 0)) (ad 0) o i) hx hb dL_law__1075 hl (by decide) rfl (fun ls hl => ?_)
  refine lv_aload_n hx hb dL_law__1077 rfl (lv_at hl 3 rfl) ?_
  refine r_scr K h.1.2.1 (lv_at hl 1 rfl) (lv_at hl 5 rfl) 1 hi (by decide) dL_law__1078 dL_law__1079 dL_law__1081 (by decide) dL_law__1082 dL_law__1083 ?_
  refine r_lawQ C h hl lkq_202 (c_X11_read hq) ⟨rfl, rfl⟩ ⟨(Nat.le_of_ble_eq_true rfl), (Nat.le_of_ble_eq_true rfl)⟩ (As := [.int (xs (i + 1))]) (rest := []) rfl rfl (Nat.le_of_ble_eq_true rfl) dL_law__1084 ⟨by show cells + (kc + 1) ≤ 601024; omega, by show slots + (ks + 6) ≤ 7293034; omega⟩ (fun H1 locs1 h => ?_)
  show W p l e room_1 s m #[Value.ref b] below meth c H1 locs1 (cells + (kc + 1)) (slots + (ks + 6)) Q (F0 m 1087 ls [.int x])
  refine tlI K h hl hthr (cdI hrv hrm hlv) ⟨by show cells + (kc + 1) ≤ 601024; omega, by show slots + (ks + 6) ≤ 7293034; omega⟩ dL_law__1087 dL_law__1089 dL_law__1090 dL_law__1093 dL_law__1095 dL_law__1100 dL_law__1102 dL_law__1105 dL_law__1106 dL_law__1107 dL_law__1108 dL_law__1110 dL_law__1111 dL_law__1112 dL_law__1117 (by decide) (fun H2 locs2 ls' h hl => ?_)
  exact kk oa' aa' sh' ln' bb a f' H2 locs2 (cells + (kc + 1)) (slots + (ks + 6)) ls' e00 h hRel (fun s hs => (HS.read hwf _ _ _ _ _ _ hg s hs).trans (hS s hs)) (by omega) (by omega) hP3 hl
set_option maxHeartbeats 4000000 in
set_option maxRecDepth 100000 in
theorem br_15 {p : Program} {l : Launch} {e : Env} {s : State} {m : MethodId} {below : List Frame} {meth : Method} {c : Code} {H : Heap} {locs : List Loc} {cells slots : Nat} {Q : State → Prop} {ls : Array Slot} {D : va_G} {tc : Nat → ClassId} {ro : Ro} {oa : Ky → Nat} {aa : Nat → Nat} {ad : Nat → Nat} {sh : Sh} {ln : Nat → Nat} {A : Nat → Prop} {μk μq : Mm} {b o L i : Nat} {xs : Nat → Int32} {f : Nat → Int64} {V n N w0 : Nat} {r0 : Nat → Int32} {Λo : Option LW} {j d t c0 z : Nat} {T : Nat → Nat} (K : LCw p s m c D tc ro A b L xs) (hs : l.stackTraces = false) (hi : i + 6 ≤ L) (h : L3 D tc s A oa aa sh ln μk ad μq o f H locs) (hR : RLL sh ln μq μk V n N w0 r0 Λo j d t c0 T z) (hS : S11 sh) (hNF : NF sh μk) (h4 : sh 4 2 < 600) (hb1 : cells + POc sh ln + 3 ≤ 601024) (hb2 : slots + POs sh ln + 520 ≤ 7293034) (hl : lv_has ls 7 (lb b (oa (0, 0)) (ad 0) o i)) (kk : Kt p l e s m below meth c Q D tc A b o i ad oa sh ln cells slots) : W p l e room_1 s m #[Value.ref b] below meth c H locs cells slots Q (F0 m 1120 ls []) := by
  have C := K.1
  have hx := K.1.1.1
  have hb := K.1.1.2.1
  have hwf : WfS sh := hR.wf
  obtain ⟨r, x, a, sh', ln', bb, kc, ks, hg, hq, hrv, hthr, hrm, hRel, hP1, hP2, hP3⟩ := STP.uni (md := mdIAS) (s_claim hR (xs (i + 1)) (xs (i + 2)))
  refine lv_aload_n hx hb dL_law__1120 rfl (lv_at hl 1 rfl) ?_
  refine r_scr K h.1.2.1 (lv_at hl 0 rfl) (lv_at hl 4 rfl) 1 hi (by decide) dL_law__1121 dL_law__1122 dL_law__1124 (by decide) dL_law__1125 dL_law__1126 ?_
  refine r_scr K h.1.2.1 (lv_at hl 0 rfl) (lv_at hl 4 rfl) 2 hi (by decide) dL_law__1127 dL_law__1128 dL_law__1130 (by decide) dL_law__1131 dL_law__1132 ?_
  refine lv_aload_n hx hb dL_law__1133 rfl (lv_at hl 3 rfl) ?_
  refine r_lawW C K.2.2.2.2.1 K.2.2.2.2.2.1 K.2.2.2.2.2.2.1 h hl lkw_203 (cW_claim (G_X10_claim hs hwf hR.h9 hR.h10 hNF.1) hg (fun cn e => (hrm cn e).1)) ⟨(Nat.le_of_ble_eq_true rfl), (Nat.le_of_ble_eq_true rfl)⟩ (As := [.int (xs (i + 1)), .int (xs (i + 2))]) (rest := []) rfl rfl (Nat.le_of_ble_eq_true rfl) dL_law__1134 ⟨by show cells + (kc + 1) ≤ 601024; omega, by show slots + (ks + 6) ≤ 7293034; omega⟩ (fun oa' aa' f' H1 locs1 e00 hlv h => ?_)
  show W p l e room_1 s m #[Value.ref b] below meth c H1 locs1 (cells + (kc + 1)) (slots + (ks + 6)) Q (F0 m 1137 ls [.int (cdW mdIAS r)])
  refine lv_istore (lv' := (5, .int (cdW mdIAS r)) :: lb b (oa (0, 0)) (ad 0) o i) hx hb dL_law__1137 hl (by decide) rfl (fun ls hl => ?_)
  refine lv_aload_n hx hb dL_law__1139 rfl (lv_at hl 3 rfl) ?_
  refine r_scr K h.1.2.1 (lv_at hl 1 rfl) (lv_at hl 5 rfl) 1 hi (by decide) dL_law__1140 dL_law__1141 dL_law__1143 (by decide) dL_law__1144 dL_law__1145 ?_
  refine r_scr K h.1.2.1 (lv_at hl 1 rfl) (lv_at hl 5 rfl) 2 hi (by decide) dL_law__1146 dL_law__1147 dL_law__1149 (by decide) dL_law__1150 dL_law__1151 ?_
  refine r_lawQ C h hl lkq_205 (c_X11_claim hq) ⟨rfl, rfl⟩ ⟨(Nat.le_of_ble_eq_true rfl), (Nat.le_of_ble_eq_true rfl)⟩ (As := [.int (xs (i + 1)), .int (xs (i + 2))]) (rest := []) rfl rfl (Nat.le_of_ble_eq_true rfl) dL_law__1152 ⟨by show cells + (kc + 1) ≤ 601024; omega, by show slots + (ks + 6) ≤ 7293034; omega⟩ (fun H1 locs1 h => ?_)
  show W p l e room_1 s m #[Value.ref b] below meth c H1 locs1 (cells + (kc + 1)) (slots + (ks + 6)) Q (F0 m 1155 ls [.int x])
  refine tlI K h hl hthr (cdI hrv hrm hlv) ⟨by show cells + (kc + 1) ≤ 601024; omega, by show slots + (ks + 6) ≤ 7293034; omega⟩ dL_law__1155 dL_law__1157 dL_law__1158 dL_law__1161 dL_law__1163 dL_law__1168 dL_law__1170 dL_law__1173 dL_law__1174 dL_law__1175 dL_law__1176 dL_law__1178 dL_law__1179 dL_law__1180 dL_law__1185 (by decide) (fun H2 locs2 ls' h hl => ?_)
  exact kk oa' aa' sh' ln' bb a f' H2 locs2 (cells + (kc + 1)) (slots + (ks + 6)) ls' e00 h hRel (fun s hs => (HS.claim hwf _ _ _ _ _ _ hg s hs).trans (hS s hs)) (by omega) (by omega) hP3 hl
set_option maxHeartbeats 4000000 in
set_option maxRecDepth 100000 in
theorem br_16 {p : Program} {l : Launch} {e : Env} {s : State} {m : MethodId} {below : List Frame} {meth : Method} {c : Code} {H : Heap} {locs : List Loc} {cells slots : Nat} {Q : State → Prop} {ls : Array Slot} {D : va_G} {tc : Nat → ClassId} {ro : Ro} {oa : Ky → Nat} {aa : Nat → Nat} {ad : Nat → Nat} {sh : Sh} {ln : Nat → Nat} {A : Nat → Prop} {μk μq : Mm} {b o L i : Nat} {xs : Nat → Int32} {f : Nat → Int64} {V n N w0 : Nat} {r0 : Nat → Int32} {Λo : Option LW} {j d t c0 z : Nat} {T : Nat → Nat} (K : LCw p s m c D tc ro A b L xs) (hs : l.stackTraces = false) (hi : i + 6 ≤ L) (h : L3 D tc s A oa aa sh ln μk ad μq o f H locs) (hR : RLL sh ln μq μk V n N w0 r0 Λo j d t c0 T z) (hS : S11 sh) (hNF : NF sh μk) (h4 : sh 4 2 < 600) (hb1 : cells + POc sh ln + 3 ≤ 601024) (hb2 : slots + POs sh ln + 520 ≤ 7293034) (hl : lv_has ls 7 (lb b (oa (0, 0)) (ad 0) o i)) (kk : Kt p l e s m below meth c Q D tc A b o i ad oa sh ln cells slots) : W p l e room_1 s m #[Value.ref b] below meth c H locs cells slots Q (F0 m 1188 ls []) := by
  have C := K.1
  have hx := K.1.1.1
  have hb := K.1.1.2.1
  have hwf : WfS sh := hR.wf
  obtain ⟨r, x, a, sh', ln', bb, kc, ks, hg, hq, hrv, hthr, hrm, hRel, hP1, hP2, hP3⟩ := STP.uni (md := mdI) (s_query hR (xs (i + 1)) (xs (i + 2)) (xs (i + 3)))
  refine lv_aload_n hx hb dL_law__1188 rfl (lv_at hl 1 rfl) ?_
  refine r_scr K h.1.2.1 (lv_at hl 0 rfl) (lv_at hl 4 rfl) 1 hi (by decide) dL_law__1189 dL_law__1190 dL_law__1192 (by decide) dL_law__1193 dL_law__1194 ?_
  refine r_scr K h.1.2.1 (lv_at hl 0 rfl) (lv_at hl 4 rfl) 2 hi (by decide) dL_law__1195 dL_law__1196 dL_law__1198 (by decide) dL_law__1199 dL_law__1200 ?_
  refine r_scr K h.1.2.1 (lv_at hl 0 rfl) (lv_at hl 4 rfl) 3 hi (by decide) dL_law__1201 dL_law__1202 dL_law__1204 (by decide) dL_law__1205 dL_law__1206 ?_
  refine lv_aload_n hx hb dL_law__1207 rfl (lv_at hl 3 rfl) ?_
  refine r_lawW C K.2.2.2.2.1 K.2.2.2.2.2.1 K.2.2.2.2.2.2.1 h hl lkw_206 (cW_query (G_X10_query hs hwf hR.h9 hR.h10 hNF.1) hg (fun cn e => (hrm cn e).1)) ⟨(Nat.le_of_ble_eq_true rfl), (Nat.le_of_ble_eq_true rfl)⟩ (As := [.int (xs (i + 1)), .int (xs (i + 2)), .int (xs (i + 3))]) (rest := []) rfl rfl (Nat.le_of_ble_eq_true rfl) dL_law__1208 ⟨by show cells + (kc + 1) ≤ 601024; omega, by show slots + (ks + 6) ≤ 7293034; omega⟩ (fun oa' aa' f' H1 locs1 e00 hlv h => ?_)
  show W p l e room_1 s m #[Value.ref b] below meth c H1 locs1 (cells + (kc + 1)) (slots + (ks + 6)) Q (F0 m 1211 ls [.int (cdW mdI r)])
  refine lv_istore (lv' := (5, .int (cdW mdI r)) :: lb b (oa (0, 0)) (ad 0) o i) hx hb dL_law__1211 hl (by decide) rfl (fun ls hl => ?_)
  refine lv_aload_n hx hb dL_law__1213 rfl (lv_at hl 3 rfl) ?_
  refine r_scr K h.1.2.1 (lv_at hl 1 rfl) (lv_at hl 5 rfl) 1 hi (by decide) dL_law__1214 dL_law__1215 dL_law__1217 (by decide) dL_law__1218 dL_law__1219 ?_
  refine r_scr K h.1.2.1 (lv_at hl 1 rfl) (lv_at hl 5 rfl) 2 hi (by decide) dL_law__1220 dL_law__1221 dL_law__1223 (by decide) dL_law__1224 dL_law__1225 ?_
  refine r_scr K h.1.2.1 (lv_at hl 1 rfl) (lv_at hl 5 rfl) 3 hi (by decide) dL_law__1226 dL_law__1227 dL_law__1229 (by decide) dL_law__1230 dL_law__1231 ?_
  refine r_lawQ C h hl lkq_208 (c_X11_query hq) ⟨rfl, rfl⟩ ⟨(Nat.le_of_ble_eq_true rfl), (Nat.le_of_ble_eq_true rfl)⟩ (As := [.int (xs (i + 1)), .int (xs (i + 2)), .int (xs (i + 3))]) (rest := []) rfl rfl (Nat.le_of_ble_eq_true rfl) dL_law__1232 ⟨by show cells + (kc + 1) ≤ 601024; omega, by show slots + (ks + 6) ≤ 7293034; omega⟩ (fun H1 locs1 h => ?_)
  show W p l e room_1 s m #[Value.ref b] below meth c H1 locs1 (cells + (kc + 1)) (slots + (ks + 6)) Q (F0 m 1235 ls [.int x])
  refine tlI K h hl hthr (cdI hrv hrm hlv) ⟨by show cells + (kc + 1) ≤ 601024; omega, by show slots + (ks + 6) ≤ 7293034; omega⟩ dL_law__1235 dL_law__1237 dL_law__1238 dL_law__1241 dL_law__1243 dL_law__1248 dL_law__1250 dL_law__1253 dL_law__1254 dL_law__1255 dL_law__1256 dL_law__1258 dL_law__1259 dL_law__1260 dL_law__1265 (by decide) (fun H2 locs2 ls' h hl => ?_)
  exact kk oa' aa' sh' ln' bb a f' H2 locs2 (cells + (kc + 1)) (slots + (ks + 6)) ls' e00 h hRel (fun s hs => (HS.query hwf _ _ _ _ _ _ hg s hs).trans (hS s hs)) (by omega) (by omega) hP3 hl
set_option maxHeartbeats 4000000 in
set_option maxRecDepth 100000 in
theorem br_17 {p : Program} {l : Launch} {e : Env} {s : State} {m : MethodId} {below : List Frame} {meth : Method} {c : Code} {H : Heap} {locs : List Loc} {cells slots : Nat} {Q : State → Prop} {ls : Array Slot} {D : va_G} {tc : Nat → ClassId} {ro : Ro} {oa : Ky → Nat} {aa : Nat → Nat} {ad : Nat → Nat} {sh : Sh} {ln : Nat → Nat} {A : Nat → Prop} {μk μq : Mm} {b o L i : Nat} {xs : Nat → Int32} {f : Nat → Int64} {V n N w0 : Nat} {r0 : Nat → Int32} {Λo : Option LW} {j d t c0 z : Nat} {T : Nat → Nat} (K : LCw p s m c D tc ro A b L xs) (hs : l.stackTraces = false) (hi : i + 6 ≤ L) (h : L3 D tc s A oa aa sh ln μk ad μq o f H locs) (hR : RLL sh ln μq μk V n N w0 r0 Λo j d t c0 T z) (hS : S11 sh) (hNF : NF sh μk) (h4 : sh 4 2 < 600) (hb1 : cells + POc sh ln + 3 ≤ 601024) (hb2 : slots + POs sh ln + 520 ≤ 7293034) (hl : lv_has ls 7 (lb b (oa (0, 0)) (ad 0) o i)) (kk : Kt p l e s m below meth c Q D tc A b o i ad oa sh ln cells slots) : W p l e room_1 s m #[Value.ref b] below meth c H locs cells slots Q (F0 m 1268 ls []) := by
  have C := K.1
  have hx := K.1.1.1
  have hb := K.1.1.2.1
  have hwf : WfS sh := hR.wf
  obtain ⟨r, x, a, sh', ln', bb, kc, ks, hg, hq, hrv, hthr, hrm, hRel, hP1, hP2, hP3⟩ := STP.uni (md := mdA) (s_stroll hR (xs (i + 1)))
  refine lv_aload_n hx hb dL_law__1268 rfl (lv_at hl 1 rfl) ?_
  refine r_scr K h.1.2.1 (lv_at hl 0 rfl) (lv_at hl 4 rfl) 1 hi (by decide) dL_law__1269 dL_law__1270 dL_law__1272 (by decide) dL_law__1273 dL_law__1274 ?_
  refine lv_aload_n hx hb dL_law__1275 rfl (lv_at hl 3 rfl) ?_
  refine r_lawW C K.2.2.2.2.1 K.2.2.2.2.2.1 K.2.2.2.2.2.2.1 h hl lkw_209 (cW_stroll (G_X10_stroll hs hwf hR.h9 hR.h10 hNF.1) hg (fun cn e => (hrm cn e).1)) ⟨(Nat.le_of_ble_eq_true rfl), (Nat.le_of_ble_eq_true rfl)⟩ (As := [.int (xs (i + 1))]) (rest := []) rfl rfl (Nat.le_of_ble_eq_true rfl) dL_law__1276 ⟨by show cells + (kc + 1) ≤ 601024; omega, by show slots + (ks + 6) ≤ 7293034; omega⟩ (fun oa' aa' f' H1 locs1 e00 hlv h => ?_)
  show W p l e room_1 s m #[Value.ref b] below meth c H1 locs1 (cells + (kc + 1)) (slots + (ks + 6)) Q (F0 m 1279 ls [.int (cdW mdA r)])
  refine lv_istore (lv' := (5, .int (cdW mdA r)) :: lb b (oa (0, 0)) (ad 0) o i) hx hb dL_law__1279 hl (by decide) rfl (fun ls hl => ?_)
  refine lv_aload_n hx hb dL_law__1281 rfl (lv_at hl 3 rfl) ?_
  refine r_scr K h.1.2.1 (lv_at hl 1 rfl) (lv_at hl 5 rfl) 1 hi (by decide) dL_law__1282 dL_law__1283 dL_law__1285 (by decide) dL_law__1286 dL_law__1287 ?_
  refine r_lawQ C h hl lkq_211 (c_X11_stroll hq) ⟨rfl, rfl⟩ ⟨(Nat.le_of_ble_eq_true rfl), (Nat.le_of_ble_eq_true rfl)⟩ (As := [.int (xs (i + 1))]) (rest := []) rfl rfl (Nat.le_of_ble_eq_true rfl) dL_law__1288 ⟨by show cells + (kc + 1) ≤ 601024; omega, by show slots + (ks + 6) ≤ 7293034; omega⟩ (fun H1 locs1 h => ?_)
  show W p l e room_1 s m #[Value.ref b] below meth c H1 locs1 (cells + (kc + 1)) (slots + (ks + 6)) Q (F0 m 1291 ls [.int x])
  refine tlI K h hl hthr (cdI hrv hrm hlv) ⟨by show cells + (kc + 1) ≤ 601024; omega, by show slots + (ks + 6) ≤ 7293034; omega⟩ dL_law__1291 dL_law__1293 dL_law__1294 dL_law__1297 dL_law__1299 dL_law__1304 dL_law__1306 dL_law__1309 dL_law__1310 dL_law__1311 dL_law__1312 dL_law__1314 dL_law__1315 dL_law__1316 dL_law__1321 (by decide) (fun H2 locs2 ls' h hl => ?_)
  exact kk oa' aa' sh' ln' bb a f' H2 locs2 (cells + (kc + 1)) (slots + (ks + 6)) ls' e00 h hRel (fun s hs => (HS.stroll hwf _ _ _ _ _ _ hg s hs).trans (hS s hs)) (by omega) (by omega) hP3 hl
set_option maxHeartbeats 4000000 in
set_option maxRecDepth 100000 in
theorem br_18 {p : Program} {l : Launch} {e : Env} {s : State} {m : MethodId} {below : List Frame} {meth : Method} {c : Code} {H : Heap} {locs : List Loc} {cells slots : Nat} {Q : State → Prop} {ls : Array Slot} {D : va_G} {tc : Nat → ClassId} {ro : Ro} {oa : Ky → Nat} {aa : Nat → Nat} {ad : Nat → Nat} {sh : Sh} {ln : Nat → Nat} {A : Nat → Prop} {μk μq : Mm} {b o L i : Nat} {xs : Nat → Int32} {f : Nat → Int64} {V n N w0 : Nat} {r0 : Nat → Int32} {Λo : Option LW} {j d t c0 z : Nat} {T : Nat → Nat} (K : LCw p s m c D tc ro A b L xs) (hs : l.stackTraces = false) (hi : i + 6 ≤ L) (h : L3 D tc s A oa aa sh ln μk ad μq o f H locs) (hR : RLL sh ln μq μk V n N w0 r0 Λo j d t c0 T z) (hS : S11 sh) (hNF : NF sh μk) (h4 : sh 4 2 < 600) (hb1 : cells + POc sh ln + 3 ≤ 601024) (hb2 : slots + POs sh ln + 520 ≤ 7293034) (hl : lv_has ls 7 (lb b (oa (0, 0)) (ad 0) o i)) (kk : Kt p l e s m below meth c Q D tc A b o i ad oa sh ln cells slots) : W p l e room_1 s m #[Value.ref b] below meth c H locs cells slots Q (F0 m 1324 ls []) := by
  have C := K.1
  have hx := K.1.1.1
  have hb := K.1.1.2.1
  have hwf : WfS sh := hR.wf
  obtain ⟨r, x, a, sh', ln', bb, kc, ks, hg, hq, hrv, hthr, hrm, hRel, hP1, hP2, hP3⟩ := STP.uni (md := mdI) (s_possible hR (xs (i + 1)) (xs (i + 2)))
  refine lv_aload_n hx hb dL_law__1324 rfl (lv_at hl 1 rfl) ?_
  refine r_scr K h.1.2.1 (lv_at hl 0 rfl) (lv_at hl 4 rfl) 1 hi (by decide) dL_law__1325 dL_law__1326 dL_law__1328 (by decide) dL_law__1329 dL_law__1330 ?_
  refine r_scr K h.1.2.1 (lv_at hl 0 rfl) (lv_at hl 4 rfl) 2 hi (by decide) dL_law__1331 dL_law__1332 dL_law__1334 (by decide) dL_law__1335 dL_law__1336 ?_
  refine lv_aload_n hx hb dL_law__1337 rfl (lv_at hl 3 rfl) ?_
  refine r_lawW C K.2.2.2.2.1 K.2.2.2.2.2.1 K.2.2.2.2.2.2.1 h hl lkw_212 (cW_possible (G_X10_possible hs hwf) hg (fun cn e => (hrm cn e).1)) ⟨(Nat.le_of_ble_eq_true rfl), (Nat.le_of_ble_eq_true rfl)⟩ (As := [.int (xs (i + 1)), .int (xs (i + 2))]) (rest := []) rfl rfl (Nat.le_of_ble_eq_true rfl) dL_law__1338 ⟨by show cells + (kc + 1) ≤ 601024; omega, by show slots + (ks + 6) ≤ 7293034; omega⟩ (fun oa' aa' f' H1 locs1 e00 hlv h => ?_)
  show W p l e room_1 s m #[Value.ref b] below meth c H1 locs1 (cells + (kc + 1)) (slots + (ks + 6)) Q (F0 m 1341 ls [.int (cdW mdI r)])
  refine lv_istore (lv' := (5, .int (cdW mdI r)) :: lb b (oa (0, 0)) (ad 0) o i) hx hb dL_law__1341 hl (by decide) rfl (fun ls hl => ?_)
  refine lv_aload_n hx hb dL_law__1343 rfl (lv_at hl 3 rfl) ?_
  refine r_scr K h.1.2.1 (lv_at hl 1 rfl) (lv_at hl 5 rfl) 1 hi (by decide) dL_law__1344 dL_law__1345 dL_law__1347 (by decide) dL_law__1348 dL_law__1349 ?_
  refine r_scr K h.1.2.1 (lv_at hl 1 rfl) (lv_at hl 5 rfl) 2 hi (by decide) dL_law__1350 dL_law__1351 dL_law__1353 (by decide) dL_law__1354 dL_law__1355 ?_
  refine r_lawQ C h hl lkq_214 (c_X11_possible hq) ⟨rfl, rfl⟩ ⟨(Nat.le_of_ble_eq_true rfl), (Nat.le_of_ble_eq_true rfl)⟩ (As := [.int (xs (i + 1)), .int (xs (i + 2))]) (rest := []) rfl rfl (Nat.le_of_ble_eq_true rfl) dL_law__1356 ⟨by show cells + (kc + 1) ≤ 601024; omega, by show slots + (ks + 6) ≤ 7293034; omega⟩ (fun H1 locs1 h => ?_)
  show W p l e room_1 s m #[Value.ref b] below meth c H1 locs1 (cells + (kc + 1)) (slots + (ks + 6)) Q (F0 m 1359 ls [.int x])
  refine tlI K h hl hthr (cdI hrv hrm hlv) ⟨by show cells + (kc + 1) ≤ 601024; omega, by show slots + (ks + 6) ≤ 7293034; omega⟩ dL_law__1359 dL_law__1361 dL_law__1362 dL_law__1365 dL_law__1367 dL_law__1372 dL_law__1374 dL_law__1377 dL_law__1378 dL_law__1379 dL_law__1380 dL_law__1382 dL_law__1383 dL_law__1384 dL_law__1389 (by decide) (fun H2 locs2 ls' h hl => ?_)
  exact kk oa' aa' sh' ln' bb a f' H2 locs2 (cells + (kc + 1)) (slots + (ks + 6)) ls' e00 h hRel (fun s hs => (HS.lf0 _ _ _ _ _ _ hg s hs).trans (hS s hs)) (by omega) (by omega) hP3 hl
set_option maxHeartbeats 4000000 in
set_option maxRecDepth 100000 in
theorem br_19 {p : Program} {l : Launch} {e : Env} {s : State} {m : MethodId} {below : List Frame} {meth : Method} {c : Code} {H : Heap} {locs : List Loc} {cells slots : Nat} {Q : State → Prop} {ls : Array Slot} {D : va_G} {tc : Nat → ClassId} {ro : Ro} {oa : Ky → Nat} {aa : Nat → Nat} {ad : Nat → Nat} {sh : Sh} {ln : Nat → Nat} {A : Nat → Prop} {μk μq : Mm} {b o L i : Nat} {xs : Nat → Int32} {f : Nat → Int64} {V n N w0 : Nat} {r0 : Nat → Int32} {Λo : Option LW} {j d t c0 z : Nat} {T : Nat → Nat} (K : LCw p s m c D tc ro A b L xs) (hs : l.stackTraces = false) (hi : i + 6 ≤ L) (h : L3 D tc s A oa aa sh ln μk ad μq o f H locs) (hR : RLL sh ln μq μk V n N w0 r0 Λo j d t c0 T z) (hS : S11 sh) (hNF : NF sh μk) (h4 : sh 4 2 < 600) (hb1 : cells + POc sh ln + 3 ≤ 601024) (hb2 : slots + POs sh ln + 520 ≤ 7293034) (hl : lv_has ls 7 (lb b (oa (0, 0)) (ad 0) o i)) (kk : Kt p l e s m below meth c Q D tc A b o i ad oa sh ln cells slots) : W p l e room_1 s m #[Value.ref b] below meth c H locs cells slots Q (F0 m 1392 ls []) := by
  have C := K.1
  have hx := K.1.1.1
  have hb := K.1.1.2.1
  have hwf : WfS sh := hR.wf
  obtain ⟨r, x, a, sh', ln', bb, kc, ks, hg, hq, hrv, hthr, hrm, hRel, hP1, hP2, hP3⟩ := STP.uni (md := mdI) (s_knows hR (xs (i + 1)) (xs (i + 2)))
  refine lv_aload_n hx hb dL_law__1392 rfl (lv_at hl 1 rfl) ?_
  refine r_scr K h.1.2.1 (lv_at hl 0 rfl) (lv_at hl 4 rfl) 1 hi (by decide) dL_law__1393 dL_law__1394 dL_law__1396 (by decide) dL_law__1397 dL_law__1398 ?_
  refine r_scr K h.1.2.1 (lv_at hl 0 rfl) (lv_at hl 4 rfl) 2 hi (by decide) dL_law__1399 dL_law__1400 dL_law__1402 (by decide) dL_law__1403 dL_law__1404 ?_
  refine lv_aload_n hx hb dL_law__1405 rfl (lv_at hl 3 rfl) ?_
  refine r_lawW C K.2.2.2.2.1 K.2.2.2.2.2.1 K.2.2.2.2.2.2.1 h hl lkw_215 (cW_knows (G_X10_knows hs hwf) hg (fun cn e => (hrm cn e).1)) ⟨(Nat.le_of_ble_eq_true rfl), (Nat.le_of_ble_eq_true rfl)⟩ (As := [.int (xs (i + 1)), .int (xs (i + 2))]) (rest := []) rfl rfl (Nat.le_of_ble_eq_true rfl) dL_law__1406 ⟨by show cells + (kc + 1) ≤ 601024; omega, by show slots + (ks + 6) ≤ 7293034; omega⟩ (fun oa' aa' f' H1 locs1 e00 hlv h => ?_)
  show W p l e room_1 s m #[Value.ref b] below meth c H1 locs1 (cells + (kc + 1)) (slots + (ks + 6)) Q (F0 m 1409 ls [.int (cdW mdI r)])
  refine lv_istore (lv' := (5, .int (cdW mdI r)) :: lb b (oa (0, 0)) (ad 0) o i) hx hb dL_law__1409 hl (by decide) rfl (fun ls hl => ?_)
  refine lv_aload_n hx hb dL_law__1411 rfl (lv_at hl 3 rfl) ?_
  refine r_scr K h.1.2.1 (lv_at hl 1 rfl) (lv_at hl 5 rfl) 1 hi (by decide) dL_law__1412 dL_law__1413 dL_law__1415 (by decide) dL_law__1416 dL_law__1417 ?_
  refine r_scr K h.1.2.1 (lv_at hl 1 rfl) (lv_at hl 5 rfl) 2 hi (by decide) dL_law__1418 dL_law__1419 dL_law__1421 (by decide) dL_law__1422 dL_law__1423 ?_
  refine r_lawQ C h hl lkq_217 (c_X11_knows hq) ⟨rfl, rfl⟩ ⟨(Nat.le_of_ble_eq_true rfl), (Nat.le_of_ble_eq_true rfl)⟩ (As := [.int (xs (i + 1)), .int (xs (i + 2))]) (rest := []) rfl rfl (Nat.le_of_ble_eq_true rfl) dL_law__1424 ⟨by show cells + (kc + 1) ≤ 601024; omega, by show slots + (ks + 6) ≤ 7293034; omega⟩ (fun H1 locs1 h => ?_)
  show W p l e room_1 s m #[Value.ref b] below meth c H1 locs1 (cells + (kc + 1)) (slots + (ks + 6)) Q (F0 m 1427 ls [.int x])
  refine tlI K h hl hthr (cdI hrv hrm hlv) ⟨by show cells + (kc + 1) ≤ 601024; omega, by show slots + (ks + 6) ≤ 7293034; omega⟩ dL_law__1427 dL_law__1429 dL_law__1430 dL_law__1433 dL_law__1435 dL_law__1440 dL_law__1442 dL_law__1445 dL_law__1446 dL_law__1447 dL_law__1448 dL_law__1450 dL_law__1451 dL_law__1452 dL_law__1457 (by decide) (fun H2 locs2 ls' h hl => ?_)
  exact kk oa' aa' sh' ln' bb a f' H2 locs2 (cells + (kc + 1)) (slots + (ks + 6)) ls' e00 h hRel (fun s hs => (HS.lf0 _ _ _ _ _ _ hg s hs).trans (hS s hs)) (by omega) (by omega) hP3 hl
set_option maxHeartbeats 4000000 in
set_option maxRecDepth 100000 in
theorem br_20 {p : Program} {l : Launch} {e : Env} {s : State} {m : MethodId} {below : List Frame} {meth : Method} {c : Code} {H : Heap} {locs : List Loc} {cells slots : Nat} {Q : State → Prop} {ls : Array Slot} {D : va_G} {tc : Nat → ClassId} {ro : Ro} {oa : Ky → Nat} {aa : Nat → Nat} {ad : Nat → Nat} {sh : Sh} {ln : Nat → Nat} {A : Nat → Prop} {μk μq : Mm} {b o L i : Nat} {xs : Nat → Int32} {f : Nat → Int64} {V n N w0 : Nat} {r0 : Nat → Int32} {Λo : Option LW} {j d t c0 z : Nat} {T : Nat → Nat} (K : LCw p s m c D tc ro A b L xs) (hs : l.stackTraces = false) (hi : i + 6 ≤ L) (h : L3 D tc s A oa aa sh ln μk ad μq o f H locs) (hR : RLL sh ln μq μk V n N w0 r0 Λo j d t c0 T z) (hS : S11 sh) (hNF : NF sh μk) (h4 : sh 4 2 < 600) (hb1 : cells + POc sh ln + 3 ≤ 601024) (hb2 : slots + POs sh ln + 520 ≤ 7293034) (hl : lv_has ls 7 (lb b (oa (0, 0)) (ad 0) o i)) (kk : Kt p l e s m below meth c Q D tc A b o i ad oa sh ln cells slots) : W p l e room_1 s m #[Value.ref b] below meth c H locs cells slots Q (F0 m 1460 ls []) := by
  have C := K.1
  have hx := K.1.1.1
  have hb := K.1.1.2.1
  have hwf : WfS sh := hR.wf
  obtain ⟨r, x, a, sh', ln', bb, kc, ks, hg, hq, hrv, hthr, hrm, hRel, hP1, hP2, hP3⟩ := STP.uni (md := mdI) (s_thinks hR (xs (i + 1)) (xs (i + 2)) (xs (i + 3)))
  refine lv_aload_n hx hb dL_law__1460 rfl (lv_at hl 1 rfl) ?_
  refine r_scr K h.1.2.1 (lv_at hl 0 rfl) (lv_at hl 4 rfl) 1 hi (by decide) dL_law__1461 dL_law__1462 dL_law__1464 (by decide) dL_law__1465 dL_law__1466 ?_
  refine r_scr K h.1.2.1 (lv_at hl 0 rfl) (lv_at hl 4 rfl) 2 hi (by decide) dL_law__1467 dL_law__1468 dL_law__1470 (by decide) dL_law__1471 dL_law__1472 ?_
  refine r_scr K h.1.2.1 (lv_at hl 0 rfl) (lv_at hl 4 rfl) 3 hi (by decide) dL_law__1473 dL_law__1474 dL_law__1476 (by decide) dL_law__1477 dL_law__1478 ?_
  refine lv_aload_n hx hb dL_law__1479 rfl (lv_at hl 3 rfl) ?_
  refine r_lawW C K.2.2.2.2.1 K.2.2.2.2.2.1 K.2.2.2.2.2.2.1 h hl lkw_218 (cW_thinks (G_X10_thinks hs hwf) hg (fun cn e => (hrm cn e).1)) ⟨(Nat.le_of_ble_eq_true rfl), (Nat.le_of_ble_eq_true rfl)⟩ (As := [.int (xs (i + 1)), .int (xs (i + 2)), .int (xs (i + 3))]) (rest := []) rfl rfl (Nat.le_of_ble_eq_true rfl) dL_law__1480 ⟨by show cells + (kc + 1) ≤ 601024; omega, by show slots + (ks + 6) ≤ 7293034; omega⟩ (fun oa' aa' f' H1 locs1 e00 hlv h => ?_)
  show W p l e room_1 s m #[Value.ref b] below meth c H1 locs1 (cells + (kc + 1)) (slots + (ks + 6)) Q (F0 m 1483 ls [.int (cdW mdI r)])
  refine lv_istore (lv' := (5, .int (cdW mdI r)) :: lb b (oa (0, 0)) (ad 0) o i) hx hb dL_law__1483 hl (by decide) rfl (fun ls hl => ?_)
  refine lv_aload_n hx hb dL_law__1485 rfl (lv_at hl 3 rfl) ?_
  refine r_scr K h.1.2.1 (lv_at hl 1 rfl) (lv_at hl 5 rfl) 1 hi (by decide) dL_law__1486 dL_law__1487 dL_law__1489 (by decide) dL_law__1490 dL_law__1491 ?_
  refine r_scr K h.1.2.1 (lv_at hl 1 rfl) (lv_at hl 5 rfl) 2 hi (by decide) dL_law__1492 dL_law__1493 dL_law__1495 (by decide) dL_law__1496 dL_law__1497 ?_
  refine r_scr K h.1.2.1 (lv_at hl 1 rfl) (lv_at hl 5 rfl) 3 hi (by decide) dL_law__1498 dL_law__1499 dL_law__1501 (by decide) dL_law__1502 dL_law__1503 ?_
  refine r_lawQ C h hl lkq_220 (c_X11_thinks hq) ⟨rfl, rfl⟩ ⟨(Nat.le_of_ble_eq_true rfl), (Nat.le_of_ble_eq_true rfl)⟩ (As := [.int (xs (i + 1)), .int (xs (i + 2)), .int (xs (i + 3))]) (rest := []) rfl rfl (Nat.le_of_ble_eq_true rfl) dL_law__1504 ⟨by show cells + (kc + 1) ≤ 601024; omega, by show slots + (ks + 6) ≤ 7293034; omega⟩ (fun H1 locs1 h => ?_)
  show W p l e room_1 s m #[Value.ref b] below meth c H1 locs1 (cells + (kc + 1)) (slots + (ks + 6)) Q (F0 m 1507 ls [.int x])
  refine tlB K h hl hthr (cdB hrv hrm hlv) ⟨by show cells + (kc + 1) ≤ 601024; omega, by show slots + (ks + 6) ≤ 7293034; omega⟩ dL_law__1507 dL_law__1509 dL_law__1510 dL_law__1513 dL_law__1515 dL_law__1520 dL_law__1522 dL_law__1525 dL_law__1526 dL_law__1527 dL_law__1528 dL_law__1530 dL_law__1533 dL_law__1534 dL_law__1537 dL_law__1538 dL_law__1539 dL_law__1544 (by decide) (fun H2 locs2 ls' h hl => ?_)
  exact kk oa' aa' sh' ln' bb a f' H2 locs2 (cells + (kc + 1)) (slots + (ks + 6)) ls' e00 h hRel (fun s hs => (HS.lf0 _ _ _ _ _ _ hg s hs).trans (hS s hs)) (by omega) (by omega) hP3 hl
set_option maxHeartbeats 4000000 in
set_option maxRecDepth 100000 in
theorem br_21 {p : Program} {l : Launch} {e : Env} {s : State} {m : MethodId} {below : List Frame} {meth : Method} {c : Code} {H : Heap} {locs : List Loc} {cells slots : Nat} {Q : State → Prop} {ls : Array Slot} {D : va_G} {tc : Nat → ClassId} {ro : Ro} {oa : Ky → Nat} {aa : Nat → Nat} {ad : Nat → Nat} {sh : Sh} {ln : Nat → Nat} {A : Nat → Prop} {μk μq : Mm} {b o L i : Nat} {xs : Nat → Int32} {f : Nat → Int64} {V n N w0 : Nat} {r0 : Nat → Int32} {Λo : Option LW} {j d t c0 z : Nat} {T : Nat → Nat} (K : LCw p s m c D tc ro A b L xs) (hs : l.stackTraces = false) (hi : i + 6 ≤ L) (h : L3 D tc s A oa aa sh ln μk ad μq o f H locs) (hR : RLL sh ln μq μk V n N w0 r0 Λo j d t c0 T z) (hS : S11 sh) (hNF : NF sh μk) (h4 : sh 4 2 < 600) (hb1 : cells + POc sh ln + 3 ≤ 601024) (hb2 : slots + POs sh ln + 520 ≤ 7293034) (hl : lv_has ls 7 (lb b (oa (0, 0)) (ad 0) o i)) (kk : Kt p l e s m below meth c Q D tc A b o i ad oa sh ln cells slots) : W p l e room_1 s m #[Value.ref b] below meth c H locs cells slots Q (F0 m 1547 ls []) := by
  have C := K.1
  have hx := K.1.1.1
  have hb := K.1.1.2.1
  have hwf : WfS sh := hR.wf
  obtain ⟨r, x, a, sh', ln', bb, kc, ks, hg, hq, hrv, hthr, hrm, hRel, hP1, hP2, hP3⟩ := STP.uni (md := mdI) (s_common hR (xs (i + 1)))
  refine lv_aload_n hx hb dL_law__1547 rfl (lv_at hl 1 rfl) ?_
  refine r_scr K h.1.2.1 (lv_at hl 0 rfl) (lv_at hl 4 rfl) 1 hi (by decide) dL_law__1548 dL_law__1549 dL_law__1551 (by decide) dL_law__1552 dL_law__1553 ?_
  refine lv_aload_n hx hb dL_law__1554 rfl (lv_at hl 3 rfl) ?_
  refine r_lawW C K.2.2.2.2.1 K.2.2.2.2.2.1 K.2.2.2.2.2.2.1 h hl lkw_221 (cW_common (G_X10_common hs hwf) hg (fun cn e => (hrm cn e).1)) ⟨(Nat.le_of_ble_eq_true rfl), (Nat.le_of_ble_eq_true rfl)⟩ (As := [.int (xs (i + 1))]) (rest := []) rfl rfl (Nat.le_of_ble_eq_true rfl) dL_law__1555 ⟨by show cells + (kc + 1) ≤ 601024; omega, by show slots + (ks + 6) ≤ 7293034; omega⟩ (fun oa' aa' f' H1 locs1 e00 hlv h => ?_)
  show W p l e room_1 s m #[Value.ref b] below meth c H1 locs1 (cells + (kc + 1)) (slots + (ks + 6)) Q (F0 m 1558 ls [.int (cdW mdI r)])
  refine lv_istore (lv' := (5, .int (cdW mdI r)) :: lb b (oa (0, 0)) (ad 0) o i) hx hb dL_law__1558 hl (by decide) rfl (fun ls hl => ?_)
  refine lv_aload_n hx hb dL_law__1560 rfl (lv_at hl 3 rfl) ?_
  refine r_scr K h.1.2.1 (lv_at hl 1 rfl) (lv_at hl 5 rfl) 1 hi (by decide) dL_law__1561 dL_law__1562 dL_law__1564 (by decide) dL_law__1565 dL_law__1566 ?_
  refine r_lawQ C h hl lkq_223 (c_X11_common hq) ⟨rfl, rfl⟩ ⟨(Nat.le_of_ble_eq_true rfl), (Nat.le_of_ble_eq_true rfl)⟩ (As := [.int (xs (i + 1))]) (rest := []) rfl rfl (Nat.le_of_ble_eq_true rfl) dL_law__1567 ⟨by show cells + (kc + 1) ≤ 601024; omega, by show slots + (ks + 6) ≤ 7293034; omega⟩ (fun H1 locs1 h => ?_)
  show W p l e room_1 s m #[Value.ref b] below meth c H1 locs1 (cells + (kc + 1)) (slots + (ks + 6)) Q (F0 m 1570 ls [.int x])
  refine tlI K h hl hthr (cdI hrv hrm hlv) ⟨by show cells + (kc + 1) ≤ 601024; omega, by show slots + (ks + 6) ≤ 7293034; omega⟩ dL_law__1570 dL_law__1572 dL_law__1573 dL_law__1576 dL_law__1578 dL_law__1583 dL_law__1585 dL_law__1588 dL_law__1589 dL_law__1590 dL_law__1591 dL_law__1593 dL_law__1594 dL_law__1595 dL_law__1600 (by decide) (fun H2 locs2 ls' h hl => ?_)
  exact kk oa' aa' sh' ln' bb a f' H2 locs2 (cells + (kc + 1)) (slots + (ks + 6)) ls' e00 h hRel (fun s hs => (HS.lf0 _ _ _ _ _ _ hg s hs).trans (hS s hs)) (by omega) (by omega) hP3 hl
set_option maxHeartbeats 4000000 in
set_option maxRecDepth 100000 in
theorem br_22 {p : Program} {l : Launch} {e : Env} {s : State} {m : MethodId} {below : List Frame} {meth : Method} {c : Code} {H : Heap} {locs : List Loc} {cells slots : Nat} {Q : State → Prop} {ls : Array Slot} {D : va_G} {tc : Nat → ClassId} {ro : Ro} {oa : Ky → Nat} {aa : Nat → Nat} {ad : Nat → Nat} {sh : Sh} {ln : Nat → Nat} {A : Nat → Prop} {μk μq : Mm} {b o L i : Nat} {xs : Nat → Int32} {f : Nat → Int64} {V n N w0 : Nat} {r0 : Nat → Int32} {Λo : Option LW} {j d t c0 z : Nat} {T : Nat → Nat} (K : LCw p s m c D tc ro A b L xs) (hs : l.stackTraces = false) (hi : i + 6 ≤ L) (h : L3 D tc s A oa aa sh ln μk ad μq o f H locs) (hR : RLL sh ln μq μk V n N w0 r0 Λo j d t c0 T z) (hS : S11 sh) (hNF : NF sh μk) (h4 : sh 4 2 < 600) (hb1 : cells + POc sh ln + 3 ≤ 601024) (hb2 : slots + POs sh ln + 520 ≤ 7293034) (hl : lv_has ls 7 (lb b (oa (0, 0)) (ad 0) o i)) (kk : Kt p l e s m below meth c Q D tc A b o i ad oa sh ln cells slots) : W p l e room_1 s m #[Value.ref b] below meth c H locs cells slots Q (F0 m 1603 ls []) := by
  have C := K.1
  have hx := K.1.1.1
  have hb := K.1.1.2.1
  have hwf : WfS sh := hR.wf
  obtain ⟨r, x, a, sh', ln', bb, kc, ks, hg, hq, hrv, hthr, hrm, hRel, hP1, hP2, hP3⟩ := STP.uni (md := mdI) (s_muddy hR (xs (i + 1)))
  refine lv_aload_n hx hb dL_law__1603 rfl (lv_at hl 1 rfl) ?_
  refine r_scr K h.1.2.1 (lv_at hl 0 rfl) (lv_at hl 4 rfl) 1 hi (by decide) dL_law__1604 dL_law__1605 dL_law__1607 (by decide) dL_law__1608 dL_law__1609 ?_
  refine lv_aload_n hx hb dL_law__1610 rfl (lv_at hl 3 rfl) ?_
  refine r_lawW C K.2.2.2.2.1 K.2.2.2.2.2.1 K.2.2.2.2.2.2.1 h hl lkw_224 (cW_muddy (G_X10_muddy hs hwf) hg (fun cn e => (hrm cn e).1)) ⟨(Nat.le_of_ble_eq_true rfl), (Nat.le_of_ble_eq_true rfl)⟩ (As := [.int (xs (i + 1))]) (rest := []) rfl rfl (Nat.le_of_ble_eq_true rfl) dL_law__1611 ⟨by show cells + (kc + 1) ≤ 601024; omega, by show slots + (ks + 6) ≤ 7293034; omega⟩ (fun oa' aa' f' H1 locs1 e00 hlv h => ?_)
  show W p l e room_1 s m #[Value.ref b] below meth c H1 locs1 (cells + (kc + 1)) (slots + (ks + 6)) Q (F0 m 1614 ls [.int (cdW mdI r)])
  refine lv_istore (lv' := (5, .int (cdW mdI r)) :: lb b (oa (0, 0)) (ad 0) o i) hx hb dL_law__1614 hl (by decide) rfl (fun ls hl => ?_)
  refine lv_aload_n hx hb dL_law__1616 rfl (lv_at hl 3 rfl) ?_
  refine r_scr K h.1.2.1 (lv_at hl 1 rfl) (lv_at hl 5 rfl) 1 hi (by decide) dL_law__1617 dL_law__1618 dL_law__1620 (by decide) dL_law__1621 dL_law__1622 ?_
  refine r_lawQ C h hl lkq_226 (c_X11_muddy hq) ⟨rfl, rfl⟩ ⟨(Nat.le_of_ble_eq_true rfl), (Nat.le_of_ble_eq_true rfl)⟩ (As := [.int (xs (i + 1))]) (rest := []) rfl rfl (Nat.le_of_ble_eq_true rfl) dL_law__1623 ⟨by show cells + (kc + 1) ≤ 601024; omega, by show slots + (ks + 6) ≤ 7293034; omega⟩ (fun H1 locs1 h => ?_)
  show W p l e room_1 s m #[Value.ref b] below meth c H1 locs1 (cells + (kc + 1)) (slots + (ks + 6)) Q (F0 m 1626 ls [.int x])
  refine tlI K h hl hthr (cdI hrv hrm hlv) ⟨by show cells + (kc + 1) ≤ 601024; omega, by show slots + (ks + 6) ≤ 7293034; omega⟩ dL_law__1626 dL_law__1628 dL_law__1629 dL_law__1632 dL_law__1634 dL_law__1639 dL_law__1641 dL_law__1644 dL_law__1645 dL_law__1646 dL_law__1647 dL_law__1649 dL_law__1650 dL_law__1651 dL_law__1656 (by decide) (fun H2 locs2 ls' h hl => ?_)
  exact kk oa' aa' sh' ln' bb a f' H2 locs2 (cells + (kc + 1)) (slots + (ks + 6)) ls' e00 h hRel (fun s hs => (HS.lf0 _ _ _ _ _ _ hg s hs).trans (hS s hs)) (by omega) (by omega) hP3 hl
set_option maxHeartbeats 4000000 in
set_option maxRecDepth 100000 in
theorem br_23 {p : Program} {l : Launch} {e : Env} {s : State} {m : MethodId} {below : List Frame} {meth : Method} {c : Code} {H : Heap} {locs : List Loc} {cells slots : Nat} {Q : State → Prop} {ls : Array Slot} {D : va_G} {tc : Nat → ClassId} {ro : Ro} {oa : Ky → Nat} {aa : Nat → Nat} {ad : Nat → Nat} {sh : Sh} {ln : Nat → Nat} {A : Nat → Prop} {μk μq : Mm} {b o L i : Nat} {xs : Nat → Int32} {f : Nat → Int64} {V n N w0 : Nat} {r0 : Nat → Int32} {Λo : Option LW} {j d t c0 z : Nat} {T : Nat → Nat} (K : LCw p s m c D tc ro A b L xs) (hs : l.stackTraces = false) (hi : i + 6 ≤ L) (h : L3 D tc s A oa aa sh ln μk ad μq o f H locs) (hR : RLL sh ln μq μk V n N w0 r0 Λo j d t c0 T z) (hS : S11 sh) (hNF : NF sh μk) (h4 : sh 4 2 < 600) (hb1 : cells + POc sh ln + 3 ≤ 601024) (hb2 : slots + POs sh ln + 520 ≤ 7293034) (hl : lv_has ls 7 (lb b (oa (0, 0)) (ad 0) o i)) (kk : Kt p l e s m below meth c Q D tc A b o i ad oa sh ln cells slots) : W p l e room_1 s m #[Value.ref b] below meth c H locs cells slots Q (F0 m 1659 ls []) := by
  have C := K.1
  have hx := K.1.1.1
  have hb := K.1.1.2.1
  have hwf : WfS sh := hR.wf
  obtain ⟨r, x, a, sh', ln', bb, kc, ks, hg, hq, hrv, hthr, hrm, hRel, hP1, hP2, hP3⟩ := STP.uni (md := mdI) (s_backs hR (xs (i + 1)))
  refine lv_aload_n hx hb dL_law__1659 rfl (lv_at hl 1 rfl) ?_
  refine r_scr K h.1.2.1 (lv_at hl 0 rfl) (lv_at hl 4 rfl) 1 hi (by decide) dL_law__1660 dL_law__1661 dL_law__1663 (by decide) dL_law__1664 dL_law__1665 ?_
  refine lv_aload_n hx hb dL_law__1666 rfl (lv_at hl 3 rfl) ?_
  refine r_lawW C K.2.2.2.2.1 K.2.2.2.2.2.1 K.2.2.2.2.2.2.1 h hl lkw_227 (cW_backs (G_X10_backs hs hwf) hg (fun cn e => (hrm cn e).1)) ⟨(Nat.le_of_ble_eq_true rfl), (Nat.le_of_ble_eq_true rfl)⟩ (As := [.int (xs (i + 1))]) (rest := []) rfl rfl (Nat.le_of_ble_eq_true rfl) dL_law__1667 ⟨by show cells + (kc + 1) ≤ 601024; omega, by show slots + (ks + 6) ≤ 7293034; omega⟩ (fun oa' aa' f' H1 locs1 e00 hlv h => ?_)
  show W p l e room_1 s m #[Value.ref b] below meth c H1 locs1 (cells + (kc + 1)) (slots + (ks + 6)) Q (F0 m 1670 ls [.int (cdW mdI r)])
  refine lv_istore (lv' := (5, .int (cdW mdI r)) :: lb b (oa (0, 0)) (ad 0) o i) hx hb dL_law__1670 hl (by decide) rfl (fun ls hl => ?_)
  refine lv_aload_n hx hb dL_law__1672 rfl (lv_at hl 3 rfl) ?_
  refine r_scr K h.1.2.1 (lv_at hl 1 rfl) (lv_at hl 5 rfl) 1 hi (by decide) dL_law__1673 dL_law__1674 dL_law__1676 (by decide) dL_law__1677 dL_law__1678 ?_
  refine r_lawQ C h hl lkq_229 (c_X11_backs hq) ⟨rfl, rfl⟩ ⟨(Nat.le_of_ble_eq_true rfl), (Nat.le_of_ble_eq_true rfl)⟩ (As := [.int (xs (i + 1))]) (rest := []) rfl rfl (Nat.le_of_ble_eq_true rfl) dL_law__1679 ⟨by show cells + (kc + 1) ≤ 601024; omega, by show slots + (ks + 6) ≤ 7293034; omega⟩ (fun H1 locs1 h => ?_)
  show W p l e room_1 s m #[Value.ref b] below meth c H1 locs1 (cells + (kc + 1)) (slots + (ks + 6)) Q (F0 m 1682 ls [.int x])
  refine tlI K h hl hthr (cdI hrv hrm hlv) ⟨by show cells + (kc + 1) ≤ 601024; omega, by show slots + (ks + 6) ≤ 7293034; omega⟩ dL_law__1682 dL_law__1684 dL_law__1685 dL_law__1688 dL_law__1690 dL_law__1695 dL_law__1697 dL_law__1700 dL_law__1701 dL_law__1702 dL_law__1703 dL_law__1705 dL_law__1706 dL_law__1707 dL_law__1712 (by decide) (fun H2 locs2 ls' h hl => ?_)
  exact kk oa' aa' sh' ln' bb a f' H2 locs2 (cells + (kc + 1)) (slots + (ks + 6)) ls' e00 h hRel (fun s hs => (HS.lf0 _ _ _ _ _ _ hg s hs).trans (hS s hs)) (by omega) (by omega) hP3 hl
set_option maxHeartbeats 4000000 in
set_option maxRecDepth 100000 in
theorem br_24 {p : Program} {l : Launch} {e : Env} {s : State} {m : MethodId} {below : List Frame} {meth : Method} {c : Code} {H : Heap} {locs : List Loc} {cells slots : Nat} {Q : State → Prop} {ls : Array Slot} {D : va_G} {tc : Nat → ClassId} {ro : Ro} {oa : Ky → Nat} {aa : Nat → Nat} {ad : Nat → Nat} {sh : Sh} {ln : Nat → Nat} {A : Nat → Prop} {μk μq : Mm} {b o L i : Nat} {xs : Nat → Int32} {f : Nat → Int64} {V n N w0 : Nat} {r0 : Nat → Int32} {Λo : Option LW} {j d t c0 z : Nat} {T : Nat → Nat} (K : LCw p s m c D tc ro A b L xs) (hs : l.stackTraces = false) (hi : i + 6 ≤ L) (h : L3 D tc s A oa aa sh ln μk ad μq o f H locs) (hR : RLL sh ln μq μk V n N w0 r0 Λo j d t c0 T z) (hS : S11 sh) (hNF : NF sh μk) (h4 : sh 4 2 < 600) (hb1 : cells + POc sh ln + 3 ≤ 601024) (hb2 : slots + POs sh ln + 520 ≤ 7293034) (hl : lv_has ls 7 (lb b (oa (0, 0)) (ad 0) o i)) (kk : Kt p l e s m below meth c Q D tc A b o i ad oa sh ln cells slots) : W p l e room_1 s m #[Value.ref b] below meth c H locs cells slots Q (F0 m 1715 ls []) := by
  have C := K.1
  have hx := K.1.1.1
  have hb := K.1.1.2.1
  have hwf : WfS sh := hR.wf
  obtain ⟨r, x, a, sh', ln', bb, kc, ks, hg, hq, hrv, hthr, hrm, hRel, hP1, hP2, hP3⟩ := STP.uni (md := mdI) (s_gives hR (xs (i + 1)))
  refine lv_aload_n hx hb dL_law__1715 rfl (lv_at hl 1 rfl) ?_
  refine r_scr K h.1.2.1 (lv_at hl 0 rfl) (lv_at hl 4 rfl) 1 hi (by decide) dL_law__1716 dL_law__1717 dL_law__1719 (by decide) dL_law__1720 dL_law__1721 ?_
  refine lv_aload_n hx hb dL_law__1722 rfl (lv_at hl 3 rfl) ?_
  refine r_lawW C K.2.2.2.2.1 K.2.2.2.2.2.1 K.2.2.2.2.2.2.1 h hl lkw_230 (cW_gives (G_X10_gives hs hwf) hg (fun cn e => (hrm cn e).1)) ⟨(Nat.le_of_ble_eq_true rfl), (Nat.le_of_ble_eq_true rfl)⟩ (As := [.int (xs (i + 1))]) (rest := []) rfl rfl (Nat.le_of_ble_eq_true rfl) dL_law__1723 ⟨by show cells + (kc + 1) ≤ 601024; omega, by show slots + (ks + 6) ≤ 7293034; omega⟩ (fun oa' aa' f' H1 locs1 e00 hlv h => ?_)
  show W p l e room_1 s m #[Value.ref b] below meth c H1 locs1 (cells + (kc + 1)) (slots + (ks + 6)) Q (F0 m 1726 ls [.int (cdW mdI r)])
  refine lv_istore (lv' := (5, .int (cdW mdI r)) :: lb b (oa (0, 0)) (ad 0) o i) hx hb dL_law__1726 hl (by decide) rfl (fun ls hl => ?_)
  refine lv_aload_n hx hb dL_law__1728 rfl (lv_at hl 3 rfl) ?_
  refine r_scr K h.1.2.1 (lv_at hl 1 rfl) (lv_at hl 5 rfl) 1 hi (by decide) dL_law__1729 dL_law__1730 dL_law__1732 (by decide) dL_law__1733 dL_law__1734 ?_
  refine r_lawQ C h hl lkq_232 (c_X11_gives hq) ⟨rfl, rfl⟩ ⟨(Nat.le_of_ble_eq_true rfl), (Nat.le_of_ble_eq_true rfl)⟩ (As := [.int (xs (i + 1))]) (rest := []) rfl rfl (Nat.le_of_ble_eq_true rfl) dL_law__1735 ⟨by show cells + (kc + 1) ≤ 601024; omega, by show slots + (ks + 6) ≤ 7293034; omega⟩ (fun H1 locs1 h => ?_)
  show W p l e room_1 s m #[Value.ref b] below meth c H1 locs1 (cells + (kc + 1)) (slots + (ks + 6)) Q (F0 m 1738 ls [.int x])
  refine tlI K h hl hthr (cdI hrv hrm hlv) ⟨by show cells + (kc + 1) ≤ 601024; omega, by show slots + (ks + 6) ≤ 7293034; omega⟩ dL_law__1738 dL_law__1740 dL_law__1741 dL_law__1744 dL_law__1746 dL_law__1751 dL_law__1753 dL_law__1756 dL_law__1757 dL_law__1758 dL_law__1759 dL_law__1761 dL_law__1762 dL_law__1763 dL_law__1768 (by decide) (fun H2 locs2 ls' h hl => ?_)
  exact kk oa' aa' sh' ln' bb a f' H2 locs2 (cells + (kc + 1)) (slots + (ks + 6)) ls' e00 h hRel (fun s hs => (HS.lf0 _ _ _ _ _ _ hg s hs).trans (hS s hs)) (by omega) (by omega) hP3 hl
set_option maxHeartbeats 4000000 in
set_option maxRecDepth 100000 in
theorem br_25 {p : Program} {l : Launch} {e : Env} {s : State} {m : MethodId} {below : List Frame} {meth : Method} {c : Code} {H : Heap} {locs : List Loc} {cells slots : Nat} {Q : State → Prop} {ls : Array Slot} {D : va_G} {tc : Nat → ClassId} {ro : Ro} {oa : Ky → Nat} {aa : Nat → Nat} {ad : Nat → Nat} {sh : Sh} {ln : Nat → Nat} {A : Nat → Prop} {μk μq : Mm} {b o L i : Nat} {xs : Nat → Int32} {f : Nat → Int64} {V n N w0 : Nat} {r0 : Nat → Int32} {Λo : Option LW} {j d t c0 z : Nat} {T : Nat → Nat} (K : LCw p s m c D tc ro A b L xs) (hs : l.stackTraces = false) (hi : i + 6 ≤ L) (h : L3 D tc s A oa aa sh ln μk ad μq o f H locs) (hR : RLL sh ln μq μk V n N w0 r0 Λo j d t c0 T z) (hS : S11 sh) (hNF : NF sh μk) (h4 : sh 4 2 < 600) (hb1 : cells + POc sh ln + 3 ≤ 601024) (hb2 : slots + POs sh ln + 520 ≤ 7293034) (hl : lv_has ls 7 (lb b (oa (0, 0)) (ad 0) o i)) (kk : Kt p l e s m below meth c Q D tc A b o i ad oa sh ln cells slots) : W p l e room_1 s m #[Value.ref b] below meth c H locs cells slots Q (F0 m 1771 ls []) := by
  have C := K.1
  have hx := K.1.1.1
  have hb := K.1.1.2.1
  have hwf : WfS sh := hR.wf
  obtain ⟨r, x, a, sh', ln', bb, kc, ks, hg, hq, hrv, hthr, hrm, hRel, hP1, hP2, hP3⟩ := STP.uni (md := mdI) (s_never hR (xs (i + 1)))
  refine lv_aload_n hx hb dL_law__1771 rfl (lv_at hl 1 rfl) ?_
  refine r_scr K h.1.2.1 (lv_at hl 0 rfl) (lv_at hl 4 rfl) 1 hi (by decide) dL_law__1772 dL_law__1773 dL_law__1775 (by decide) dL_law__1776 dL_law__1777 ?_
  refine lv_aload_n hx hb dL_law__1778 rfl (lv_at hl 3 rfl) ?_
  refine r_lawW C K.2.2.2.2.1 K.2.2.2.2.2.1 K.2.2.2.2.2.2.1 h hl lkw_233 (cW_never (G_X10_never hs hwf) hg (fun cn e => (hrm cn e).1)) ⟨(Nat.le_of_ble_eq_true rfl), (Nat.le_of_ble_eq_true rfl)⟩ (As := [.int (xs (i + 1))]) (rest := []) rfl rfl (Nat.le_of_ble_eq_true rfl) dL_law__1779 ⟨by show cells + (kc + 1) ≤ 601024; omega, by show slots + (ks + 6) ≤ 7293034; omega⟩ (fun oa' aa' f' H1 locs1 e00 hlv h => ?_)
  show W p l e room_1 s m #[Value.ref b] below meth c H1 locs1 (cells + (kc + 1)) (slots + (ks + 6)) Q (F0 m 1782 ls [.int (cdW mdI r)])
  refine lv_istore (lv' := (5, .int (cdW mdI r)) :: lb b (oa (0, 0)) (ad 0) o i) hx hb dL_law__1782 hl (by decide) rfl (fun ls hl => ?_)
  refine lv_aload_n hx hb dL_law__1784 rfl (lv_at hl 3 rfl) ?_
  refine r_scr K h.1.2.1 (lv_at hl 1 rfl) (lv_at hl 5 rfl) 1 hi (by decide) dL_law__1785 dL_law__1786 dL_law__1788 (by decide) dL_law__1789 dL_law__1790 ?_
  refine r_lawQ C h hl lkq_235 (c_X11_never hq) ⟨rfl, rfl⟩ ⟨(Nat.le_of_ble_eq_true rfl), (Nat.le_of_ble_eq_true rfl)⟩ (As := [.int (xs (i + 1))]) (rest := []) rfl rfl (Nat.le_of_ble_eq_true rfl) dL_law__1791 ⟨by show cells + (kc + 1) ≤ 601024; omega, by show slots + (ks + 6) ≤ 7293034; omega⟩ (fun H1 locs1 h => ?_)
  show W p l e room_1 s m #[Value.ref b] below meth c H1 locs1 (cells + (kc + 1)) (slots + (ks + 6)) Q (F0 m 1794 ls [.int x])
  refine tlI K h hl hthr (cdI hrv hrm hlv) ⟨by show cells + (kc + 1) ≤ 601024; omega, by show slots + (ks + 6) ≤ 7293034; omega⟩ dL_law__1794 dL_law__1796 dL_law__1797 dL_law__1800 dL_law__1802 dL_law__1807 dL_law__1809 dL_law__1812 dL_law__1813 dL_law__1814 dL_law__1815 dL_law__1817 dL_law__1818 dL_law__1819 dL_law__1824 (by decide) (fun H2 locs2 ls' h hl => ?_)
  exact kk oa' aa' sh' ln' bb a f' H2 locs2 (cells + (kc + 1)) (slots + (ks + 6)) ls' e00 h hRel (fun s hs => (HS.lf0 _ _ _ _ _ _ hg s hs).trans (hS s hs)) (by omega) (by omega) hP3 hl
set_option maxHeartbeats 4000000 in
set_option maxRecDepth 100000 in
theorem br_26 {p : Program} {l : Launch} {e : Env} {s : State} {m : MethodId} {below : List Frame} {meth : Method} {c : Code} {H : Heap} {locs : List Loc} {cells slots : Nat} {Q : State → Prop} {ls : Array Slot} {D : va_G} {tc : Nat → ClassId} {ro : Ro} {oa : Ky → Nat} {aa : Nat → Nat} {ad : Nat → Nat} {sh : Sh} {ln : Nat → Nat} {A : Nat → Prop} {μk μq : Mm} {b o L i : Nat} {xs : Nat → Int32} {f : Nat → Int64} {V n N w0 : Nat} {r0 : Nat → Int32} {Λo : Option LW} {j d t c0 z : Nat} {T : Nat → Nat} (K : LCw p s m c D tc ro A b L xs) (hs : l.stackTraces = false) (hi : i + 6 ≤ L) (h : L3 D tc s A oa aa sh ln μk ad μq o f H locs) (hR : RLL sh ln μq μk V n N w0 r0 Λo j d t c0 T z) (hS : S11 sh) (hNF : NF sh μk) (h4 : sh 4 2 < 600) (hb1 : cells + POc sh ln + 3 ≤ 601024) (hb2 : slots + POs sh ln + 520 ≤ 7293034) (hl : lv_has ls 7 (lb b (oa (0, 0)) (ad 0) o i)) (kk : Kt p l e s m below meth c Q D tc A b o i ad oa sh ln cells slots) : W p l e room_1 s m #[Value.ref b] below meth c H locs cells slots Q (F0 m 1827 ls []) := by
  have C := K.1
  have hx := K.1.1.1
  have hb := K.1.1.2.1
  have hwf : WfS sh := hR.wf
  obtain ⟨r, x, a, sh', ln', bb, kc, ks, hg, hq, hrv, hthr, hrm, hRel, hP1, hP2, hP3⟩ := STP.uni (md := mdI) (s_question hR (xs (i + 1)))
  refine lv_aload_n hx hb dL_law__1827 rfl (lv_at hl 1 rfl) ?_
  refine r_scr K h.1.2.1 (lv_at hl 0 rfl) (lv_at hl 4 rfl) 1 hi (by decide) dL_law__1828 dL_law__1829 dL_law__1831 (by decide) dL_law__1832 dL_law__1833 ?_
  refine lv_aload_n hx hb dL_law__1834 rfl (lv_at hl 3 rfl) ?_
  refine r_lawW C K.2.2.2.2.1 K.2.2.2.2.2.1 K.2.2.2.2.2.2.1 h hl lkw_236 (cW_question (G_X10_question hs hwf) hg (fun cn e => (hrm cn e).1)) ⟨(Nat.le_of_ble_eq_true rfl), (Nat.le_of_ble_eq_true rfl)⟩ (As := [.int (xs (i + 1))]) (rest := []) rfl rfl (Nat.le_of_ble_eq_true rfl) dL_law__1835 ⟨by show cells + (kc + 1) ≤ 601024; omega, by show slots + (ks + 6) ≤ 7293034; omega⟩ (fun oa' aa' f' H1 locs1 e00 hlv h => ?_)
  show W p l e room_1 s m #[Value.ref b] below meth c H1 locs1 (cells + (kc + 1)) (slots + (ks + 6)) Q (F0 m 1838 ls [.int (cdW mdI r)])
  refine lv_istore (lv' := (5, .int (cdW mdI r)) :: lb b (oa (0, 0)) (ad 0) o i) hx hb dL_law__1838 hl (by decide) rfl (fun ls hl => ?_)
  refine lv_aload_n hx hb dL_law__1840 rfl (lv_at hl 3 rfl) ?_
  refine r_scr K h.1.2.1 (lv_at hl 1 rfl) (lv_at hl 5 rfl) 1 hi (by decide) dL_law__1841 dL_law__1842 dL_law__1844 (by decide) dL_law__1845 dL_law__1846 ?_
  refine r_lawQ C h hl lkq_238 (c_X11_question hq) ⟨rfl, rfl⟩ ⟨(Nat.le_of_ble_eq_true rfl), (Nat.le_of_ble_eq_true rfl)⟩ (As := [.int (xs (i + 1))]) (rest := []) rfl rfl (Nat.le_of_ble_eq_true rfl) dL_law__1847 ⟨by show cells + (kc + 1) ≤ 601024; omega, by show slots + (ks + 6) ≤ 7293034; omega⟩ (fun H1 locs1 h => ?_)
  show W p l e room_1 s m #[Value.ref b] below meth c H1 locs1 (cells + (kc + 1)) (slots + (ks + 6)) Q (F0 m 1850 ls [.int x])
  refine tlI K h hl hthr (cdI hrv hrm hlv) ⟨by show cells + (kc + 1) ≤ 601024; omega, by show slots + (ks + 6) ≤ 7293034; omega⟩ dL_law__1850 dL_law__1852 dL_law__1853 dL_law__1856 dL_law__1858 dL_law__1863 dL_law__1865 dL_law__1868 dL_law__1869 dL_law__1870 dL_law__1871 dL_law__1873 dL_law__1874 dL_law__1875 dL_law__1880 (by decide) (fun H2 locs2 ls' h hl => ?_)
  exact kk oa' aa' sh' ln' bb a f' H2 locs2 (cells + (kc + 1)) (slots + (ks + 6)) ls' e00 h hRel (fun s hs => (HS.lf0 _ _ _ _ _ _ hg s hs).trans (hS s hs)) (by omega) (by omega) hP3 hl
set_option maxHeartbeats 4000000 in
set_option maxRecDepth 100000 in
theorem br_27 {p : Program} {l : Launch} {e : Env} {s : State} {m : MethodId} {below : List Frame} {meth : Method} {c : Code} {H : Heap} {locs : List Loc} {cells slots : Nat} {Q : State → Prop} {ls : Array Slot} {D : va_G} {tc : Nat → ClassId} {ro : Ro} {oa : Ky → Nat} {aa : Nat → Nat} {ad : Nat → Nat} {sh : Sh} {ln : Nat → Nat} {A : Nat → Prop} {μk μq : Mm} {b o L i : Nat} {xs : Nat → Int32} {f : Nat → Int64} {V n N w0 : Nat} {r0 : Nat → Int32} {Λo : Option LW} {j d t c0 z : Nat} {T : Nat → Nat} (K : LCw p s m c D tc ro A b L xs) (hs : l.stackTraces = false) (hi : i + 6 ≤ L) (h : L3 D tc s A oa aa sh ln μk ad μq o f H locs) (hR : RLL sh ln μq μk V n N w0 r0 Λo j d t c0 T z) (hS : S11 sh) (hNF : NF sh μk) (h4 : sh 4 2 < 600) (hb1 : cells + POc sh ln + 3 ≤ 601024) (hb2 : slots + POs sh ln + 520 ≤ 7293034) (hl : lv_has ls 7 (lb b (oa (0, 0)) (ad 0) o i)) (kk : Kt p l e s m below meth c Q D tc A b o i ad oa sh ln cells slots) : W p l e room_1 s m #[Value.ref b] below meth c H locs cells slots Q (F0 m 1883 ls []) := by
  have C := K.1
  have hx := K.1.1.1
  have hb := K.1.1.2.1
  have hwf : WfS sh := hR.wf
  obtain ⟨r, x, a, sh', ln', bb, kc, ks, hg, hq, hrv, hthr, hrm, hRel, hP1, hP2, hP3⟩ := STP.uni (md := mdI) (s_queries hR (xs (i + 1)))
  refine lv_aload_n hx hb dL_law__1883 rfl (lv_at hl 1 rfl) ?_
  refine r_scr K h.1.2.1 (lv_at hl 0 rfl) (lv_at hl 4 rfl) 1 hi (by decide) dL_law__1884 dL_law__1885 dL_law__1887 (by decide) dL_law__1888 dL_law__1889 ?_
  refine lv_aload_n hx hb dL_law__1890 rfl (lv_at hl 3 rfl) ?_
  refine r_lawW C K.2.2.2.2.1 K.2.2.2.2.2.1 K.2.2.2.2.2.2.1 h hl lkw_239 (cW_queries (G_X10_queries hs hwf) hg (fun cn e => (hrm cn e).1)) ⟨(Nat.le_of_ble_eq_true rfl), (Nat.le_of_ble_eq_true rfl)⟩ (As := [.int (xs (i + 1))]) (rest := []) rfl rfl (Nat.le_of_ble_eq_true rfl) dL_law__1891 ⟨by show cells + (kc + 1) ≤ 601024; omega, by show slots + (ks + 6) ≤ 7293034; omega⟩ (fun oa' aa' f' H1 locs1 e00 hlv h => ?_)
  show W p l e room_1 s m #[Value.ref b] below meth c H1 locs1 (cells + (kc + 1)) (slots + (ks + 6)) Q (F0 m 1894 ls [.int (cdW mdI r)])
  refine lv_istore (lv' := (5, .int (cdW mdI r)) :: lb b (oa (0, 0)) (ad 0) o i) hx hb dL_law__1894 hl (by decide) rfl (fun ls hl => ?_)
  refine lv_aload_n hx hb dL_law__1896 rfl (lv_at hl 3 rfl) ?_
  refine r_scr K h.1.2.1 (lv_at hl 1 rfl) (lv_at hl 5 rfl) 1 hi (by decide) dL_law__1897 dL_law__1898 dL_law__1900 (by decide) dL_law__1901 dL_law__1902 ?_
  refine r_lawQ C h hl lkq_241 (c_X11_queries hq) ⟨rfl, rfl⟩ ⟨(Nat.le_of_ble_eq_true rfl), (Nat.le_of_ble_eq_true rfl)⟩ (As := [.int (xs (i + 1))]) (rest := []) rfl rfl (Nat.le_of_ble_eq_true rfl) dL_law__1903 ⟨by show cells + (kc + 1) ≤ 601024; omega, by show slots + (ks + 6) ≤ 7293034; omega⟩ (fun H1 locs1 h => ?_)
  show W p l e room_1 s m #[Value.ref b] below meth c H1 locs1 (cells + (kc + 1)) (slots + (ks + 6)) Q (F0 m 1906 ls [.int x])
  refine tlI K h hl hthr (cdI hrv hrm hlv) ⟨by show cells + (kc + 1) ≤ 601024; omega, by show slots + (ks + 6) ≤ 7293034; omega⟩ dL_law__1906 dL_law__1908 dL_law__1909 dL_law__1912 dL_law__1914 dL_law__1919 dL_law__1921 dL_law__1924 dL_law__1925 dL_law__1926 dL_law__1927 dL_law__1929 dL_law__1930 dL_law__1931 dL_law__1936 (by decide) (fun H2 locs2 ls' h hl => ?_)
  exact kk oa' aa' sh' ln' bb a f' H2 locs2 (cells + (kc + 1)) (slots + (ks + 6)) ls' e00 h hRel (fun s hs => (HS.lf0 _ _ _ _ _ _ hg s hs).trans (hS s hs)) (by omega) (by omega) hP3 hl
set_option maxHeartbeats 4000000 in
set_option maxRecDepth 100000 in
theorem br_28 {p : Program} {l : Launch} {e : Env} {s : State} {m : MethodId} {below : List Frame} {meth : Method} {c : Code} {H : Heap} {locs : List Loc} {cells slots : Nat} {Q : State → Prop} {ls : Array Slot} {D : va_G} {tc : Nat → ClassId} {ro : Ro} {oa : Ky → Nat} {aa : Nat → Nat} {ad : Nat → Nat} {sh : Sh} {ln : Nat → Nat} {A : Nat → Prop} {μk μq : Mm} {b o L i : Nat} {xs : Nat → Int32} {f : Nat → Int64} {V n N w0 : Nat} {r0 : Nat → Int32} {Λo : Option LW} {j d t c0 z : Nat} {T : Nat → Nat} (K : LCw p s m c D tc ro A b L xs) (hs : l.stackTraces = false) (hi : i + 6 ≤ L) (h : L3 D tc s A oa aa sh ln μk ad μq o f H locs) (hR : RLL sh ln μq μk V n N w0 r0 Λo j d t c0 T z) (hS : S11 sh) (hNF : NF sh μk) (h4 : sh 4 2 < 600) (hb1 : cells + POc sh ln + 3 ≤ 601024) (hb2 : slots + POs sh ln + 520 ≤ 7293034) (hl : lv_has ls 7 (lb b (oa (0, 0)) (ad 0) o i)) (kk : Kt p l e s m below meth c Q D tc A b o i ad oa sh ln cells slots) : W p l e room_1 s m #[Value.ref b] below meth c H locs cells slots Q (F0 m 1939 ls []) := by
  have C := K.1
  have hx := K.1.1.1
  have hb := K.1.1.2.1
  have hwf : WfS sh := hR.wf
  obtain ⟨r, x, a, sh', ln', bb, kc, ks, hg, hq, hrv, hthr, hrm, hRel, hP1, hP2, hP3⟩ := STP.uni (md := mdI) (s_spill hR (xs (i + 1)))
  refine lv_aload_n hx hb dL_law__1939 rfl (lv_at hl 1 rfl) ?_
  refine r_scr K h.1.2.1 (lv_at hl 0 rfl) (lv_at hl 4 rfl) 1 hi (by decide) dL_law__1940 dL_law__1941 dL_law__1943 (by decide) dL_law__1944 dL_law__1945 ?_
  refine lv_aload_n hx hb dL_law__1946 rfl (lv_at hl 3 rfl) ?_
  refine r_lawW C K.2.2.2.2.1 K.2.2.2.2.2.1 K.2.2.2.2.2.2.1 h hl lkw_242 (cW_spill (G_X10_spill hs hwf) hg (fun cn e => (hrm cn e).1)) ⟨(Nat.le_of_ble_eq_true rfl), (Nat.le_of_ble_eq_true rfl)⟩ (As := [.int (xs (i + 1))]) (rest := []) rfl rfl (Nat.le_of_ble_eq_true rfl) dL_law__1947 ⟨by show cells + (kc + 1) ≤ 601024; omega, by show slots + (ks + 6) ≤ 7293034; omega⟩ (fun oa' aa' f' H1 locs1 e00 hlv h => ?_)
  show W p l e room_1 s m #[Value.ref b] below meth c H1 locs1 (cells + (kc + 1)) (slots + (ks + 6)) Q (F0 m 1950 ls [.int (cdW mdI r)])
  refine lv_istore (lv' := (5, .int (cdW mdI r)) :: lb b (oa (0, 0)) (ad 0) o i) hx hb dL_law__1950 hl (by decide) rfl (fun ls hl => ?_)
  refine lv_aload_n hx hb dL_law__1952 rfl (lv_at hl 3 rfl) ?_
  refine r_scr K h.1.2.1 (lv_at hl 1 rfl) (lv_at hl 5 rfl) 1 hi (by decide) dL_law__1953 dL_law__1954 dL_law__1956 (by decide) dL_law__1957 dL_law__1958 ?_
  refine r_lawQ C h hl lkq_244 (c_X11_spill hq) ⟨rfl, rfl⟩ ⟨(Nat.le_of_ble_eq_true rfl), (Nat.le_of_ble_eq_true rfl)⟩ (As := [.int (xs (i + 1))]) (rest := []) rfl rfl (Nat.le_of_ble_eq_true rfl) dL_law__1959 ⟨by show cells + (kc + 1) ≤ 601024; omega, by show slots + (ks + 6) ≤ 7293034; omega⟩ (fun H1 locs1 h => ?_)
  show W p l e room_1 s m #[Value.ref b] below meth c H1 locs1 (cells + (kc + 1)) (slots + (ks + 6)) Q (F0 m 1962 ls [.int x])
  refine tlI K h hl hthr (cdI hrv hrm hlv) ⟨by show cells + (kc + 1) ≤ 601024; omega, by show slots + (ks + 6) ≤ 7293034; omega⟩ dL_law__1962 dL_law__1964 dL_law__1965 dL_law__1968 dL_law__1970 dL_law__1975 dL_law__1977 dL_law__1980 dL_law__1981 dL_law__1982 dL_law__1983 dL_law__1985 dL_law__1986 dL_law__1987 dL_law__1992 (by decide) (fun H2 locs2 ls' h hl => ?_)
  exact kk oa' aa' sh' ln' bb a f' H2 locs2 (cells + (kc + 1)) (slots + (ks + 6)) ls' e00 h hRel (fun s hs => (HS.lf0 _ _ _ _ _ _ hg s hs).trans (hS s hs)) (by omega) (by omega) hP3 hl
set_option maxHeartbeats 4000000 in
set_option maxRecDepth 100000 in
theorem br_29 {p : Program} {l : Launch} {e : Env} {s : State} {m : MethodId} {below : List Frame} {meth : Method} {c : Code} {H : Heap} {locs : List Loc} {cells slots : Nat} {Q : State → Prop} {ls : Array Slot} {D : va_G} {tc : Nat → ClassId} {ro : Ro} {oa : Ky → Nat} {aa : Nat → Nat} {ad : Nat → Nat} {sh : Sh} {ln : Nat → Nat} {A : Nat → Prop} {μk μq : Mm} {b o L i : Nat} {xs : Nat → Int32} {f : Nat → Int64} {V n N w0 : Nat} {r0 : Nat → Int32} {Λo : Option LW} {j d t c0 z : Nat} {T : Nat → Nat} (K : LCw p s m c D tc ro A b L xs) (hs : l.stackTraces = false) (hi : i + 6 ≤ L) (h : L3 D tc s A oa aa sh ln μk ad μq o f H locs) (hR : RLL sh ln μq μk V n N w0 r0 Λo j d t c0 T z) (hS : S11 sh) (hNF : NF sh μk) (h4 : sh 4 2 < 600) (hb1 : cells + POc sh ln + 3 ≤ 601024) (hb2 : slots + POs sh ln + 520 ≤ 7293034) (hl : lv_has ls 7 (lb b (oa (0, 0)) (ad 0) o i)) (kk : Kt p l e s m below meth c Q D tc A b o i ad oa sh ln cells slots) : W p l e room_1 s m #[Value.ref b] below meth c H locs cells slots Q (F0 m 1995 ls []) := by
  have C := K.1
  have hx := K.1.1.1
  have hb := K.1.1.2.1
  have hwf : WfS sh := hR.wf
  obtain ⟨r, x, a, sh', ln', bb, kc, ks, hg, hq, hrv, hthr, hrm, hRel, hP1, hP2, hP3⟩ := STP.uni (md := fun _ => 0) (s_quiet hR )
  obtain ⟨v, rfl⟩ : ∃ v, r = .inl v := by
    cases r with
    | inl v => exact ⟨v, rfl⟩
    | inr cn => exact absurd (hrm cn rfl).1 (by decide)
  have ev := hrv v rfl
  obtain ⟨rm, ⟨b1, b2, b3, b4⟩, hM⟩ := G_X10_quiet hwf (D := D) (tc := tc) (ro := ro) (oa := oa) _ _ _ _ _ _ hg
  refine lv_aload_n hx hb dL_law__1995 rfl (lv_at hl 1 rfl) ?_
  refine r_lawG C K.2.2.2.2.1 K.2.2.2.2.2.1 h hl lk_L_245 hM ⟨by show rm.frames + 1 ≤ 2048; omega, by show 8 + (3 + 11) + rm.locals ≤ 84000; omega⟩ (As := []) (rest := []) rfl rfl (Nat.le_of_ble_eq_true rfl) dL_law__1996 ⟨by show cells + rm.cells ≤ 601024; omega, by show slots + rm.slots ≤ 7293034; omega⟩ (fun oa' aa' H1 locs1 e00 h => ?_)
  show W p l e room_1 s m #[Value.ref b] below meth c H1 locs1 (cells + rm.cells) (slots + rm.slots) Q (F0 m 1999 ls [.int v])
  refine lv_aload_n hx hb dL_law__1999 rfl (lv_at hl 2 rfl) ?_
  refine r_lawQ C h hl lkq_248 (c_X11_quiet hq) ⟨rfl, rfl⟩ ⟨(Nat.le_of_ble_eq_true rfl), (Nat.le_of_ble_eq_true rfl)⟩ (As := []) (rest := [.int v]) rfl rfl (Nat.le_of_ble_eq_true rfl) dL_law__2000 ⟨by show cells + rm.cells ≤ 601024; omega, by show slots + rm.slots ≤ 7293034; omega⟩ (fun H1 locs1 h => ?_)
  show W p l e room_1 s m #[Value.ref b] below meth c H1 locs1 (cells + rm.cells) (slots + rm.slots) Q (F0 m 2003 ls [.int x, .int v])
  refine lv_icmp_eq (tgt := 2913) hx hb dL_law__2003 (by decide) (fun c1 => ?_) (fun c1 => by first | exact absurd ev c1 | exact absurd ev.symm c1)
  exact kk oa' aa' sh' ln' bb a f H1 locs1 (cells + rm.cells) (slots + rm.slots) ls e00 h hRel (fun s hs => (HS.lfn _ _ _ _ _ _ hg s hs).trans (hS s hs)) (by omega) (by omega) hP3 hl
set_option maxHeartbeats 4000000 in
set_option maxRecDepth 100000 in
theorem br_30 {p : Program} {l : Launch} {e : Env} {s : State} {m : MethodId} {below : List Frame} {meth : Method} {c : Code} {H : Heap} {locs : List Loc} {cells slots : Nat} {Q : State → Prop} {ls : Array Slot} {D : va_G} {tc : Nat → ClassId} {ro : Ro} {oa : Ky → Nat} {aa : Nat → Nat} {ad : Nat → Nat} {sh : Sh} {ln : Nat → Nat} {A : Nat → Prop} {μk μq : Mm} {b o L i : Nat} {xs : Nat → Int32} {f : Nat → Int64} {V n N w0 : Nat} {r0 : Nat → Int32} {Λo : Option LW} {j d t c0 z : Nat} {T : Nat → Nat} (K : LCw p s m c D tc ro A b L xs) (hs : l.stackTraces = false) (hi : i + 6 ≤ L) (h : L3 D tc s A oa aa sh ln μk ad μq o f H locs) (hR : RLL sh ln μq μk V n N w0 r0 Λo j d t c0 T z) (hS : S11 sh) (hNF : NF sh μk) (h4 : sh 4 2 < 600) (hb1 : cells + POc sh ln + 3 ≤ 601024) (hb2 : slots + POs sh ln + 520 ≤ 7293034) (hl : lv_has ls 7 (lb b (oa (0, 0)) (ad 0) o i)) (kk : Kt p l e s m below meth c Q D tc A b o i ad oa sh ln cells slots) : W p l e room_1 s m #[Value.ref b] below meth c H locs cells slots Q (F0 m 2008 ls []) := by
  have C := K.1
  have hx := K.1.1.1
  have hb := K.1.1.2.1
  have hwf : WfS sh := hR.wf
  obtain ⟨r, x, a, sh', ln', bb, kc, ks, hg, hq, hrv, hthr, hrm, hRel, hP1, hP2, hP3⟩ := STP.uni (md := mdI) (s_game hR (xs (i + 1)) (decide (xs (i + 2) ≠ 0)))
  refine lv_aload_n hx hb dL_law__2008 rfl (lv_at hl 1 rfl) ?_
  refine r_scr K h.1.2.1 (lv_at hl 0 rfl) (lv_at hl 4 rfl) 1 hi (by decide) dL_law__2009 dL_law__2010 dL_law__2012 (by decide) dL_law__2013 dL_law__2014 ?_
  refine r_scr K h.1.2.1 (lv_at hl 0 rfl) (lv_at hl 4 rfl) 2 hi (by decide) dL_law__2015 dL_law__2016 dL_law__2018 (by decide) dL_law__2019 dL_law__2020 ?_
  refine r_bool K dL_law__2021 dL_law__2024 dL_law__2025 dL_law__2028 ?_
  refine lv_aload_n hx hb dL_law__2029 rfl (lv_at hl 3 rfl) ?_
  refine r_lawW C K.2.2.2.2.1 K.2.2.2.2.2.1 K.2.2.2.2.2.2.1 h hl lkw_249 (cW_game (G_X10_game hs hwf) hg (fun cn e => (hrm cn e).1)) ⟨(Nat.le_of_ble_eq_true rfl), (Nat.le_of_ble_eq_true rfl)⟩ (As := [.int (xs (i + 1)), .int (bI (decide (xs (i + 2) ≠ 0)))]) (rest := []) rfl rfl (Nat.le_of_ble_eq_true rfl) dL_law__2030 ⟨by show cells + (kc + 1) ≤ 601024; omega, by show slots + (ks + 6) ≤ 7293034; omega⟩ (fun oa' aa' f' H1 locs1 e00 hlv h => ?_)
  show W p l e room_1 s m #[Value.ref b] below meth c H1 locs1 (cells + (kc + 1)) (slots + (ks + 6)) Q (F0 m 2033 ls [.int (cdW mdI r)])
  refine lv_istore (lv' := (5, .int (cdW mdI r)) :: lb b (oa (0, 0)) (ad 0) o i) hx hb dL_law__2033 hl (by decide) rfl (fun ls hl => ?_)
  refine lv_aload_n hx hb dL_law__2035 rfl (lv_at hl 3 rfl) ?_
  refine r_scr K h.1.2.1 (lv_at hl 1 rfl) (lv_at hl 5 rfl) 1 hi (by decide) dL_law__2036 dL_law__2037 dL_law__2039 (by decide) dL_law__2040 dL_law__2041 ?_
  refine r_scr K h.1.2.1 (lv_at hl 1 rfl) (lv_at hl 5 rfl) 2 hi (by decide) dL_law__2042 dL_law__2043 dL_law__2045 (by decide) dL_law__2046 dL_law__2047 ?_
  refine r_bool K dL_law__2048 dL_law__2051 dL_law__2052 dL_law__2055 ?_
  refine r_lawQ C h hl lkq_252 (c_X11_game hq) ⟨rfl, rfl⟩ ⟨(Nat.le_of_ble_eq_true rfl), (Nat.le_of_ble_eq_true rfl)⟩ (As := [.int (xs (i + 1)), .int (bI (decide (xs (i + 2) ≠ 0)))]) (rest := []) rfl rfl (Nat.le_of_ble_eq_true rfl) dL_law__2056 ⟨by show cells + (kc + 1) ≤ 601024; omega, by show slots + (ks + 6) ≤ 7293034; omega⟩ (fun H1 locs1 h => ?_)
  show W p l e room_1 s m #[Value.ref b] below meth c H1 locs1 (cells + (kc + 1)) (slots + (ks + 6)) Q (F0 m 2059 ls [.int x])
  refine tlI K h hl hthr (cdI hrv hrm hlv) ⟨by show cells + (kc + 1) ≤ 601024; omega, by show slots + (ks + 6) ≤ 7293034; omega⟩ dL_law__2059 dL_law__2061 dL_law__2062 dL_law__2065 dL_law__2067 dL_law__2072 dL_law__2074 dL_law__2077 dL_law__2078 dL_law__2079 dL_law__2080 dL_law__2082 dL_law__2083 dL_law__2084 dL_law__2089 (by decide) (fun H2 locs2 ls' h hl => ?_)
  exact kk oa' aa' sh' ln' bb a f' H2 locs2 (cells + (kc + 1)) (slots + (ks + 6)) ls' e00 h hRel (fun s hs => (HS.lf0 _ _ _ _ _ _ hg s hs).trans (hS s hs)) (by omega) (by omega) hP3 hl
set_option maxHeartbeats 4000000 in
set_option maxRecDepth 100000 in
theorem br_31 {p : Program} {l : Launch} {e : Env} {s : State} {m : MethodId} {below : List Frame} {meth : Method} {c : Code} {H : Heap} {locs : List Loc} {cells slots : Nat} {Q : State → Prop} {ls : Array Slot} {D : va_G} {tc : Nat → ClassId} {ro : Ro} {oa : Ky → Nat} {aa : Nat → Nat} {ad : Nat → Nat} {sh : Sh} {ln : Nat → Nat} {A : Nat → Prop} {μk μq : Mm} {b o L i : Nat} {xs : Nat → Int32} {f : Nat → Int64} {V n N w0 : Nat} {r0 : Nat → Int32} {Λo : Option LW} {j d t c0 z : Nat} {T : Nat → Nat} (K : LCw p s m c D tc ro A b L xs) (hs : l.stackTraces = false) (hi : i + 6 ≤ L) (h : L3 D tc s A oa aa sh ln μk ad μq o f H locs) (hR : RLL sh ln μq μk V n N w0 r0 Λo j d t c0 T z) (hS : S11 sh) (hNF : NF sh μk) (h4 : sh 4 2 < 600) (hb1 : cells + POc sh ln + 3 ≤ 601024) (hb2 : slots + POs sh ln + 520 ≤ 7293034) (hl : lv_has ls 7 (lb b (oa (0, 0)) (ad 0) o i)) (kk : Kt p l e s m below meth c Q D tc A b o i ad oa sh ln cells slots) : W p l e room_1 s m #[Value.ref b] below meth c H locs cells slots Q (F0 m 2092 ls []) := by
  have C := K.1
  have hx := K.1.1.1
  have hb := K.1.1.2.1
  have hwf : WfS sh := hR.wf
  obtain ⟨r, x, a, sh', ln', bb, kc, ks, hg, hq, hrv, hthr, hrm, hRel, hP1, hP2, hP3⟩ := STP.uni (md := mdI) (s_steps hR (xs (i + 1)) (xs (i + 2)))
  refine lv_aload_n hx hb dL_law__2092 rfl (lv_at hl 1 rfl) ?_
  refine r_scr K h.1.2.1 (lv_at hl 0 rfl) (lv_at hl 4 rfl) 1 hi (by decide) dL_law__2093 dL_law__2094 dL_law__2096 (by decide) dL_law__2097 dL_law__2098 ?_
  refine r_scr K h.1.2.1 (lv_at hl 0 rfl) (lv_at hl 4 rfl) 2 hi (by decide) dL_law__2099 dL_law__2100 dL_law__2102 (by decide) dL_law__2103 dL_law__2104 ?_
  refine lv_aload_n hx hb dL_law__2105 rfl (lv_at hl 3 rfl) ?_
  refine r_lawW C K.2.2.2.2.1 K.2.2.2.2.2.1 K.2.2.2.2.2.2.1 h hl lkw_253 (cW_steps (G_X10_steps hs hwf) hg (fun cn e => (hrm cn e).1)) ⟨(Nat.le_of_ble_eq_true rfl), (Nat.le_of_ble_eq_true rfl)⟩ (As := [.int (xs (i + 1)), .int (xs (i + 2))]) (rest := []) rfl rfl (Nat.le_of_ble_eq_true rfl) dL_law__2106 ⟨by show cells + (kc + 1) ≤ 601024; omega, by show slots + (ks + 6) ≤ 7293034; omega⟩ (fun oa' aa' f' H1 locs1 e00 hlv h => ?_)
  show W p l e room_1 s m #[Value.ref b] below meth c H1 locs1 (cells + (kc + 1)) (slots + (ks + 6)) Q (F0 m 2109 ls [.int (cdW mdI r)])
  refine lv_istore (lv' := (5, .int (cdW mdI r)) :: lb b (oa (0, 0)) (ad 0) o i) hx hb dL_law__2109 hl (by decide) rfl (fun ls hl => ?_)
  refine lv_aload_n hx hb dL_law__2111 rfl (lv_at hl 3 rfl) ?_
  refine r_scr K h.1.2.1 (lv_at hl 1 rfl) (lv_at hl 5 rfl) 1 hi (by decide) dL_law__2112 dL_law__2113 dL_law__2115 (by decide) dL_law__2116 dL_law__2117 ?_
  refine r_scr K h.1.2.1 (lv_at hl 1 rfl) (lv_at hl 5 rfl) 2 hi (by decide) dL_law__2118 dL_law__2119 dL_law__2121 (by decide) dL_law__2122 dL_law__2123 ?_
  refine r_lawQ C h hl lkq_255 (c_X11_steps hq) ⟨rfl, rfl⟩ ⟨(Nat.le_of_ble_eq_true rfl), (Nat.le_of_ble_eq_true rfl)⟩ (As := [.int (xs (i + 1)), .int (xs (i + 2))]) (rest := []) rfl rfl (Nat.le_of_ble_eq_true rfl) dL_law__2124 ⟨by show cells + (kc + 1) ≤ 601024; omega, by show slots + (ks + 6) ≤ 7293034; omega⟩ (fun H1 locs1 h => ?_)
  show W p l e room_1 s m #[Value.ref b] below meth c H1 locs1 (cells + (kc + 1)) (slots + (ks + 6)) Q (F0 m 2127 ls [.int x])
  refine tlI K h hl hthr (cdI hrv hrm hlv) ⟨by show cells + (kc + 1) ≤ 601024; omega, by show slots + (ks + 6) ≤ 7293034; omega⟩ dL_law__2127 dL_law__2129 dL_law__2130 dL_law__2133 dL_law__2135 dL_law__2140 dL_law__2142 dL_law__2145 dL_law__2146 dL_law__2147 dL_law__2148 dL_law__2150 dL_law__2151 dL_law__2152 dL_law__2157 (by decide) (fun H2 locs2 ls' h hl => ?_)
  exact kk oa' aa' sh' ln' bb a f' H2 locs2 (cells + (kc + 1)) (slots + (ks + 6)) ls' e00 h hRel (fun s hs => (HS.lf0 _ _ _ _ _ _ hg s hs).trans (hS s hs)) (by omega) (by omega) hP3 hl
set_option maxHeartbeats 4000000 in
set_option maxRecDepth 100000 in
theorem br_32 {p : Program} {l : Launch} {e : Env} {s : State} {m : MethodId} {below : List Frame} {meth : Method} {c : Code} {H : Heap} {locs : List Loc} {cells slots : Nat} {Q : State → Prop} {ls : Array Slot} {D : va_G} {tc : Nat → ClassId} {ro : Ro} {oa : Ky → Nat} {aa : Nat → Nat} {ad : Nat → Nat} {sh : Sh} {ln : Nat → Nat} {A : Nat → Prop} {μk μq : Mm} {b o L i : Nat} {xs : Nat → Int32} {f : Nat → Int64} {V n N w0 : Nat} {r0 : Nat → Int32} {Λo : Option LW} {j d t c0 z : Nat} {T : Nat → Nat} (K : LCw p s m c D tc ro A b L xs) (hs : l.stackTraces = false) (hi : i + 6 ≤ L) (h : L3 D tc s A oa aa sh ln μk ad μq o f H locs) (hR : RLL sh ln μq μk V n N w0 r0 Λo j d t c0 T z) (hS : S11 sh) (hNF : NF sh μk) (h4 : sh 4 2 < 600) (hb1 : cells + POc sh ln + 3 ≤ 601024) (hb2 : slots + POs sh ln + 520 ≤ 7293034) (hl : lv_has ls 7 (lb b (oa (0, 0)) (ad 0) o i)) (kk : Kt p l e s m below meth c Q D tc A b o i ad oa sh ln cells slots) : W p l e room_1 s m #[Value.ref b] below meth c H locs cells slots Q (F0 m 2160 ls []) := by
  have C := K.1
  have hx := K.1.1.1
  have hb := K.1.1.2.1
  have hwf : WfS sh := hR.wf
  obtain ⟨r, x, a, sh', ln', bb, kc, ks, hg, hq, hrv, hthr, hrm, hRel, hP1, hP2, hP3⟩ := STP.uni (md := mdA) (s_trial hR (xs (i + 1)))
  refine lv_aload_n hx hb dL_law__2160 rfl (lv_at hl 1 rfl) ?_
  refine r_scr K h.1.2.1 (lv_at hl 0 rfl) (lv_at hl 4 rfl) 1 hi (by decide) dL_law__2161 dL_law__2162 dL_law__2164 (by decide) dL_law__2165 dL_law__2166 ?_
  refine lv_aload_n hx hb dL_law__2167 rfl (lv_at hl 3 rfl) ?_
  refine r_lawW C K.2.2.2.2.1 K.2.2.2.2.2.1 K.2.2.2.2.2.2.1 h hl lkw_256 (cW_trial (G_X10_trial hs hwf) hg (fun cn e => (hrm cn e).1)) ⟨(Nat.le_of_ble_eq_true rfl), (Nat.le_of_ble_eq_true rfl)⟩ (As := [.int (xs (i + 1))]) (rest := []) rfl rfl (Nat.le_of_ble_eq_true rfl) dL_law__2168 ⟨by show cells + (kc + 1) ≤ 601024; omega, by show slots + (ks + 6) ≤ 7293034; omega⟩ (fun oa' aa' f' H1 locs1 e00 hlv h => ?_)
  show W p l e room_1 s m #[Value.ref b] below meth c H1 locs1 (cells + (kc + 1)) (slots + (ks + 6)) Q (F0 m 2171 ls [.int (cdW mdA r)])
  refine lv_istore (lv' := (5, .int (cdW mdA r)) :: lb b (oa (0, 0)) (ad 0) o i) hx hb dL_law__2171 hl (by decide) rfl (fun ls hl => ?_)
  refine lv_aload_n hx hb dL_law__2173 rfl (lv_at hl 3 rfl) ?_
  refine r_scr K h.1.2.1 (lv_at hl 1 rfl) (lv_at hl 5 rfl) 1 hi (by decide) dL_law__2174 dL_law__2175 dL_law__2177 (by decide) dL_law__2178 dL_law__2179 ?_
  refine r_lawQ C h hl lkq_258 (c_X11_trial hq) ⟨rfl, rfl⟩ ⟨(Nat.le_of_ble_eq_true rfl), (Nat.le_of_ble_eq_true rfl)⟩ (As := [.int (xs (i + 1))]) (rest := []) rfl rfl (Nat.le_of_ble_eq_true rfl) dL_law__2180 ⟨by show cells + (kc + 1) ≤ 601024; omega, by show slots + (ks + 6) ≤ 7293034; omega⟩ (fun H1 locs1 h => ?_)
  show W p l e room_1 s m #[Value.ref b] below meth c H1 locs1 (cells + (kc + 1)) (slots + (ks + 6)) Q (F0 m 2183 ls [.int x])
  refine tlI K h hl hthr (cdI hrv hrm hlv) ⟨by show cells + (kc + 1) ≤ 601024; omega, by show slots + (ks + 6) ≤ 7293034; omega⟩ dL_law__2183 dL_law__2185 dL_law__2186 dL_law__2189 dL_law__2191 dL_law__2196 dL_law__2198 dL_law__2201 dL_law__2202 dL_law__2203 dL_law__2204 dL_law__2206 dL_law__2207 dL_law__2208 dL_law__2213 (by decide) (fun H2 locs2 ls' h hl => ?_)
  exact kk oa' aa' sh' ln' bb a f' H2 locs2 (cells + (kc + 1)) (slots + (ks + 6)) ls' e00 h hRel (fun s hs => (HS.trial _ _ _ _ _ _ hg s hs).trans (hS s hs)) (by omega) (by omega) hP3 hl
set_option maxHeartbeats 4000000 in
set_option maxRecDepth 100000 in
theorem br_33 {p : Program} {l : Launch} {e : Env} {s : State} {m : MethodId} {below : List Frame} {meth : Method} {c : Code} {H : Heap} {locs : List Loc} {cells slots : Nat} {Q : State → Prop} {ls : Array Slot} {D : va_G} {tc : Nat → ClassId} {ro : Ro} {oa : Ky → Nat} {aa : Nat → Nat} {ad : Nat → Nat} {sh : Sh} {ln : Nat → Nat} {A : Nat → Prop} {μk μq : Mm} {b o L i : Nat} {xs : Nat → Int32} {f : Nat → Int64} {V n N w0 : Nat} {r0 : Nat → Int32} {Λo : Option LW} {j d t c0 z : Nat} {T : Nat → Nat} (K : LCw p s m c D tc ro A b L xs) (hs : l.stackTraces = false) (hi : i + 6 ≤ L) (h : L3 D tc s A oa aa sh ln μk ad μq o f H locs) (hR : RLL sh ln μq μk V n N w0 r0 Λo j d t c0 T z) (hS : S11 sh) (hNF : NF sh μk) (h4 : sh 4 2 < 600) (hb1 : cells + POc sh ln + 3 ≤ 601024) (hb2 : slots + POs sh ln + 520 ≤ 7293034) (hl : lv_has ls 7 (lb b (oa (0, 0)) (ad 0) o i)) (kk : Kt p l e s m below meth c Q D tc A b o i ad oa sh ln cells slots) : W p l e room_1 s m #[Value.ref b] below meth c H locs cells slots Q (F0 m 2216 ls []) := by
  have C := K.1
  have hx := K.1.1.1
  have hb := K.1.1.2.1
  have hwf : WfS sh := hR.wf
  obtain ⟨r, x, a, sh', ln', bb, kc, ks, hg, hq, hrv, hthr, hrm, hRel, hP1, hP2, hP3⟩ := STP.uni (md := mdA) (s_span hR (xs (i + 1)) (decide (xs (i + 2) ≠ 0)))
  refine lv_aload_n hx hb dL_law__2216 rfl (lv_at hl 1 rfl) ?_
  refine r_scr K h.1.2.1 (lv_at hl 0 rfl) (lv_at hl 4 rfl) 1 hi (by decide) dL_law__2217 dL_law__2218 dL_law__2220 (by decide) dL_law__2221 dL_law__2222 ?_
  refine r_scr K h.1.2.1 (lv_at hl 0 rfl) (lv_at hl 4 rfl) 2 hi (by decide) dL_law__2223 dL_law__2224 dL_law__2226 (by decide) dL_law__2227 dL_law__2228 ?_
  refine r_bool K dL_law__2229 dL_law__2232 dL_law__2233 dL_law__2236 ?_
  refine lv_aload_n hx hb dL_law__2237 rfl (lv_at hl 3 rfl) ?_
  refine r_lawW C K.2.2.2.2.1 K.2.2.2.2.2.1 K.2.2.2.2.2.2.1 h hl lkw_259 (cW_span (G_X10_span hs hwf) hg (fun cn e => (hrm cn e).1)) ⟨(Nat.le_of_ble_eq_true rfl), (Nat.le_of_ble_eq_true rfl)⟩ (As := [.int (xs (i + 1)), .int (bI (decide (xs (i + 2) ≠ 0)))]) (rest := []) rfl rfl (Nat.le_of_ble_eq_true rfl) dL_law__2238 ⟨by show cells + (kc + 1) ≤ 601024; omega, by show slots + (ks + 6) ≤ 7293034; omega⟩ (fun oa' aa' f' H1 locs1 e00 hlv h => ?_)
  show W p l e room_1 s m #[Value.ref b] below meth c H1 locs1 (cells + (kc + 1)) (slots + (ks + 6)) Q (F0 m 2241 ls [.int (cdW mdA r)])
  refine lv_istore (lv' := (5, .int (cdW mdA r)) :: lb b (oa (0, 0)) (ad 0) o i) hx hb dL_law__2241 hl (by decide) rfl (fun ls hl => ?_)
  refine lv_aload_n hx hb dL_law__2243 rfl (lv_at hl 3 rfl) ?_
  refine r_scr K h.1.2.1 (lv_at hl 1 rfl) (lv_at hl 5 rfl) 1 hi (by decide) dL_law__2244 dL_law__2245 dL_law__2247 (by decide) dL_law__2248 dL_law__2249 ?_
  refine r_scr K h.1.2.1 (lv_at hl 1 rfl) (lv_at hl 5 rfl) 2 hi (by decide) dL_law__2250 dL_law__2251 dL_law__2253 (by decide) dL_law__2254 dL_law__2255 ?_
  refine r_bool K dL_law__2256 dL_law__2259 dL_law__2260 dL_law__2263 ?_
  refine r_lawQ C h hl lkq_261 (c_X11_span hq) ⟨rfl, rfl⟩ ⟨(Nat.le_of_ble_eq_true rfl), (Nat.le_of_ble_eq_true rfl)⟩ (As := [.int (xs (i + 1)), .int (bI (decide (xs (i + 2) ≠ 0)))]) (rest := []) rfl rfl (Nat.le_of_ble_eq_true rfl) dL_law__2264 ⟨by show cells + (kc + 1) ≤ 601024; omega, by show slots + (ks + 6) ≤ 7293034; omega⟩ (fun H1 locs1 h => ?_)
  show W p l e room_1 s m #[Value.ref b] below meth c H1 locs1 (cells + (kc + 1)) (slots + (ks + 6)) Q (F0 m 2267 ls [.int x])
  refine tlI K h hl hthr (cdI hrv hrm hlv) ⟨by show cells + (kc + 1) ≤ 601024; omega, by show slots + (ks + 6) ≤ 7293034; omega⟩ dL_law__2267 dL_law__2269 dL_law__2270 dL_law__2273 dL_law__2275 dL_law__2280 dL_law__2282 dL_law__2285 dL_law__2286 dL_law__2287 dL_law__2288 dL_law__2290 dL_law__2291 dL_law__2292 dL_law__2297 (by decide) (fun H2 locs2 ls' h hl => ?_)
  exact kk oa' aa' sh' ln' bb a f' H2 locs2 (cells + (kc + 1)) (slots + (ks + 6)) ls' e00 h hRel (fun s hs => (HS.span _ _ _ _ _ _ hg s hs).trans (hS s hs)) (by omega) (by omega) hP3 hl
set_option maxHeartbeats 4000000 in
set_option maxRecDepth 100000 in
theorem br_34 {p : Program} {l : Launch} {e : Env} {s : State} {m : MethodId} {below : List Frame} {meth : Method} {c : Code} {H : Heap} {locs : List Loc} {cells slots : Nat} {Q : State → Prop} {ls : Array Slot} {D : va_G} {tc : Nat → ClassId} {ro : Ro} {oa : Ky → Nat} {aa : Nat → Nat} {ad : Nat → Nat} {sh : Sh} {ln : Nat → Nat} {A : Nat → Prop} {μk μq : Mm} {b o L i : Nat} {xs : Nat → Int32} {f : Nat → Int64} {V n N w0 : Nat} {r0 : Nat → Int32} {Λo : Option LW} {j d t c0 z : Nat} {T : Nat → Nat} (K : LCw p s m c D tc ro A b L xs) (hs : l.stackTraces = false) (hi : i + 6 ≤ L) (h : L3 D tc s A oa aa sh ln μk ad μq o f H locs) (hR : RLL sh ln μq μk V n N w0 r0 Λo j d t c0 T z) (hS : S11 sh) (hNF : NF sh μk) (h4 : sh 4 2 < 600) (hb1 : cells + POc sh ln + 3 ≤ 601024) (hb2 : slots + POs sh ln + 520 ≤ 7293034) (hl : lv_has ls 7 (lb b (oa (0, 0)) (ad 0) o i)) (kk : Kt p l e s m below meth c Q D tc A b o i ad oa sh ln cells slots) : W p l e room_1 s m #[Value.ref b] below meth c H locs cells slots Q (F0 m 2300 ls []) := by
  have C := K.1
  have hx := K.1.1.1
  have hb := K.1.1.2.1
  have hwf : WfS sh := hR.wf
  obtain ⟨r, x, a, sh', ln', bb, kc, ks, hg, hq, hrv, hthr, hrm, hRel, hP1, hP2, hP3⟩ := STP.uni (md := mdI) (s_nth hR (xs (i + 1)) (xs (i + 2)))
  refine lv_aload_n hx hb dL_law__2300 rfl (lv_at hl 1 rfl) ?_
  refine r_scr K h.1.2.1 (lv_at hl 0 rfl) (lv_at hl 4 rfl) 1 hi (by decide) dL_law__2301 dL_law__2302 dL_law__2304 (by decide) dL_law__2305 dL_law__2306 ?_
  refine r_scr K h.1.2.1 (lv_at hl 0 rfl) (lv_at hl 4 rfl) 2 hi (by decide) dL_law__2307 dL_law__2308 dL_law__2310 (by decide) dL_law__2311 dL_law__2312 ?_
  refine lv_aload_n hx hb dL_law__2313 rfl (lv_at hl 3 rfl) ?_
  refine r_lawW C K.2.2.2.2.1 K.2.2.2.2.2.1 K.2.2.2.2.2.2.1 h hl lkw_262 (cW_nth (G_X10_nth hs hwf) hg (fun cn e => (hrm cn e).1)) ⟨(Nat.le_of_ble_eq_true rfl), (Nat.le_of_ble_eq_true rfl)⟩ (As := [.int (xs (i + 1)), .int (xs (i + 2))]) (rest := []) rfl rfl (Nat.le_of_ble_eq_true rfl) dL_law__2314 ⟨by show cells + (kc + 1) ≤ 601024; omega, by show slots + (ks + 6) ≤ 7293034; omega⟩ (fun oa' aa' f' H1 locs1 e00 hlv h => ?_)
  show W p l e room_1 s m #[Value.ref b] below meth c H1 locs1 (cells + (kc + 1)) (slots + (ks + 6)) Q (F0 m 2317 ls [.int (cdW mdI r)])
  refine lv_istore (lv' := (5, .int (cdW mdI r)) :: lb b (oa (0, 0)) (ad 0) o i) hx hb dL_law__2317 hl (by decide) rfl (fun ls hl => ?_)
  refine lv_aload_n hx hb dL_law__2319 rfl (lv_at hl 3 rfl) ?_
  refine r_scr K h.1.2.1 (lv_at hl 1 rfl) (lv_at hl 5 rfl) 1 hi (by decide) dL_law__2320 dL_law__2321 dL_law__2323 (by decide) dL_law__2324 dL_law__2325 ?_
  refine r_scr K h.1.2.1 (lv_at hl 1 rfl) (lv_at hl 5 rfl) 2 hi (by decide) dL_law__2326 dL_law__2327 dL_law__2329 (by decide) dL_law__2330 dL_law__2331 ?_
  refine r_lawQ C h hl lkq_264 (c_X11_nth hq) ⟨rfl, rfl⟩ ⟨(Nat.le_of_ble_eq_true rfl), (Nat.le_of_ble_eq_true rfl)⟩ (As := [.int (xs (i + 1)), .int (xs (i + 2))]) (rest := []) rfl rfl (Nat.le_of_ble_eq_true rfl) dL_law__2332 ⟨by show cells + (kc + 1) ≤ 601024; omega, by show slots + (ks + 6) ≤ 7293034; omega⟩ (fun H1 locs1 h => ?_)
  show W p l e room_1 s m #[Value.ref b] below meth c H1 locs1 (cells + (kc + 1)) (slots + (ks + 6)) Q (F0 m 2335 ls [.int x])
  refine tlI K h hl hthr (cdI hrv hrm hlv) ⟨by show cells + (kc + 1) ≤ 601024; omega, by show slots + (ks + 6) ≤ 7293034; omega⟩ dL_law__2335 dL_law__2337 dL_law__2338 dL_law__2341 dL_law__2343 dL_law__2348 dL_law__2350 dL_law__2353 dL_law__2354 dL_law__2355 dL_law__2356 dL_law__2358 dL_law__2359 dL_law__2360 dL_law__2365 (by decide) (fun H2 locs2 ls' h hl => ?_)
  exact kk oa' aa' sh' ln' bb a f' H2 locs2 (cells + (kc + 1)) (slots + (ks + 6)) ls' e00 h hRel (fun s hs => (HS.lf0 _ _ _ _ _ _ hg s hs).trans (hS s hs)) (by omega) (by omega) hP3 hl
set_option maxHeartbeats 4000000 in
set_option maxRecDepth 100000 in
theorem br_35 {p : Program} {l : Launch} {e : Env} {s : State} {m : MethodId} {below : List Frame} {meth : Method} {c : Code} {H : Heap} {locs : List Loc} {cells slots : Nat} {Q : State → Prop} {ls : Array Slot} {D : va_G} {tc : Nat → ClassId} {ro : Ro} {oa : Ky → Nat} {aa : Nat → Nat} {ad : Nat → Nat} {sh : Sh} {ln : Nat → Nat} {A : Nat → Prop} {μk μq : Mm} {b o L i : Nat} {xs : Nat → Int32} {f : Nat → Int64} {V n N w0 : Nat} {r0 : Nat → Int32} {Λo : Option LW} {j d t c0 z : Nat} {T : Nat → Nat} (K : LCw p s m c D tc ro A b L xs) (hs : l.stackTraces = false) (hi : i + 6 ≤ L) (h : L3 D tc s A oa aa sh ln μk ad μq o f H locs) (hR : RLL sh ln μq μk V n N w0 r0 Λo j d t c0 T z) (hS : S11 sh) (hNF : NF sh μk) (h4 : sh 4 2 < 600) (hb1 : cells + POc sh ln + 3 ≤ 601024) (hb2 : slots + POs sh ln + 520 ≤ 7293034) (hl : lv_has ls 7 (lb b (oa (0, 0)) (ad 0) o i)) (kk : Kt p l e s m below meth c Q D tc A b o i ad oa sh ln cells slots) : W p l e room_1 s m #[Value.ref b] below meth c H locs cells slots Q (F0 m 2368 ls []) := by
  have C := K.1
  have hx := K.1.1.1
  have hb := K.1.1.2.1
  have hwf : WfS sh := hR.wf
  obtain ⟨r, x, a, sh', ln', bb, kc, ks, hg, hq, hrv, hthr, hrm, hRel, hP1, hP2, hP3⟩ := STP.uni (md := mdI) (s_guess hR (xs (i + 1)))
  refine lv_aload_n hx hb dL_law__2368 rfl (lv_at hl 1 rfl) ?_
  refine r_scr K h.1.2.1 (lv_at hl 0 rfl) (lv_at hl 4 rfl) 1 hi (by decide) dL_law__2369 dL_law__2370 dL_law__2372 (by decide) dL_law__2373 dL_law__2374 ?_
  refine lv_aload_n hx hb dL_law__2375 rfl (lv_at hl 3 rfl) ?_
  refine r_lawW C K.2.2.2.2.1 K.2.2.2.2.2.1 K.2.2.2.2.2.2.1 h hl lkw_265 (cW_guess (G_X10_guess hs hwf) hg (fun cn e => (hrm cn e).1)) ⟨(Nat.le_of_ble_eq_true rfl), (Nat.le_of_ble_eq_true rfl)⟩ (As := [.int (xs (i + 1))]) (rest := []) rfl rfl (Nat.le_of_ble_eq_true rfl) dL_law__2376 ⟨by show cells + (kc + 1) ≤ 601024; omega, by show slots + (ks + 6) ≤ 7293034; omega⟩ (fun oa' aa' f' H1 locs1 e00 hlv h => ?_)
  show W p l e room_1 s m #[Value.ref b] below meth c H1 locs1 (cells + (kc + 1)) (slots + (ks + 6)) Q (F0 m 2379 ls [.int (cdW mdI r)])
  refine lv_istore (lv' := (5, .int (cdW mdI r)) :: lb b (oa (0, 0)) (ad 0) o i) hx hb dL_law__2379 hl (by decide) rfl (fun ls hl => ?_)
  refine lv_aload_n hx hb dL_law__2381 rfl (lv_at hl 3 rfl) ?_
  refine r_scr K h.1.2.1 (lv_at hl 1 rfl) (lv_at hl 5 rfl) 1 hi (by decide) dL_law__2382 dL_law__2383 dL_law__2385 (by decide) dL_law__2386 dL_law__2387 ?_
  refine r_lawQ C h hl lkq_267 (c_X11_guess hq) ⟨rfl, rfl⟩ ⟨(Nat.le_of_ble_eq_true rfl), (Nat.le_of_ble_eq_true rfl)⟩ (As := [.int (xs (i + 1))]) (rest := []) rfl rfl (Nat.le_of_ble_eq_true rfl) dL_law__2388 ⟨by show cells + (kc + 1) ≤ 601024; omega, by show slots + (ks + 6) ≤ 7293034; omega⟩ (fun H1 locs1 h => ?_)
  show W p l e room_1 s m #[Value.ref b] below meth c H1 locs1 (cells + (kc + 1)) (slots + (ks + 6)) Q (F0 m 2391 ls [.int x])
  refine tlI K h hl hthr (cdI hrv hrm hlv) ⟨by show cells + (kc + 1) ≤ 601024; omega, by show slots + (ks + 6) ≤ 7293034; omega⟩ dL_law__2391 dL_law__2393 dL_law__2394 dL_law__2397 dL_law__2399 dL_law__2404 dL_law__2406 dL_law__2409 dL_law__2410 dL_law__2411 dL_law__2412 dL_law__2414 dL_law__2415 dL_law__2416 dL_law__2421 (by decide) (fun H2 locs2 ls' h hl => ?_)
  exact kk oa' aa' sh' ln' bb a f' H2 locs2 (cells + (kc + 1)) (slots + (ks + 6)) ls' e00 h hRel (fun s hs => (HS.lf0 _ _ _ _ _ _ hg s hs).trans (hS s hs)) (by omega) (by omega) hP3 hl
set_option maxHeartbeats 4000000 in
set_option maxRecDepth 100000 in
theorem br_36 {p : Program} {l : Launch} {e : Env} {s : State} {m : MethodId} {below : List Frame} {meth : Method} {c : Code} {H : Heap} {locs : List Loc} {cells slots : Nat} {Q : State → Prop} {ls : Array Slot} {D : va_G} {tc : Nat → ClassId} {ro : Ro} {oa : Ky → Nat} {aa : Nat → Nat} {ad : Nat → Nat} {sh : Sh} {ln : Nat → Nat} {A : Nat → Prop} {μk μq : Mm} {b o L i : Nat} {xs : Nat → Int32} {f : Nat → Int64} {V n N w0 : Nat} {r0 : Nat → Int32} {Λo : Option LW} {j d t c0 z : Nat} {T : Nat → Nat} (K : LCw p s m c D tc ro A b L xs) (hs : l.stackTraces = false) (hi : i + 6 ≤ L) (h : L3 D tc s A oa aa sh ln μk ad μq o f H locs) (hR : RLL sh ln μq μk V n N w0 r0 Λo j d t c0 T z) (hS : S11 sh) (hNF : NF sh μk) (h4 : sh 4 2 < 600) (hb1 : cells + POc sh ln + 3 ≤ 601024) (hb2 : slots + POs sh ln + 520 ≤ 7293034) (hl : lv_has ls 7 (lb b (oa (0, 0)) (ad 0) o i)) (kk : Kt p l e s m below meth c Q D tc A b o i ad oa sh ln cells slots) : W p l e room_1 s m #[Value.ref b] below meth c H locs cells slots Q (F0 m 2424 ls []) := by
  have C := K.1
  have hx := K.1.1.1
  have hb := K.1.1.2.1
  have hwf : WfS sh := hR.wf
  obtain ⟨r, x, a, sh', ln', bb, kc, ks, hg, hq, hrv, hthr, hrm, hRel, hP1, hP2, hP3⟩ := STP.uni (md := mdI) (s_right hR (xs (i + 1)))
  refine lv_aload_n hx hb dL_law__2424 rfl (lv_at hl 1 rfl) ?_
  refine r_scr K h.1.2.1 (lv_at hl 0 rfl) (lv_at hl 4 rfl) 1 hi (by decide) dL_law__2425 dL_law__2426 dL_law__2428 (by decide) dL_law__2429 dL_law__2430 ?_
  refine lv_aload_n hx hb dL_law__2431 rfl (lv_at hl 3 rfl) ?_
  refine r_lawW C K.2.2.2.2.1 K.2.2.2.2.2.1 K.2.2.2.2.2.2.1 h hl lkw_268 (cW_right (G_X10_right hs hwf) hg (fun cn e => (hrm cn e).1)) ⟨(Nat.le_of_ble_eq_true rfl), (Nat.le_of_ble_eq_true rfl)⟩ (As := [.int (xs (i + 1))]) (rest := []) rfl rfl (Nat.le_of_ble_eq_true rfl) dL_law__2432 ⟨by show cells + (kc + 1) ≤ 601024; omega, by show slots + (ks + 6) ≤ 7293034; omega⟩ (fun oa' aa' f' H1 locs1 e00 hlv h => ?_)
  show W p l e room_1 s m #[Value.ref b] below meth c H1 locs1 (cells + (kc + 1)) (slots + (ks + 6)) Q (F0 m 2435 ls [.int (cdW mdI r)])
  refine lv_istore (lv' := (5, .int (cdW mdI r)) :: lb b (oa (0, 0)) (ad 0) o i) hx hb dL_law__2435 hl (by decide) rfl (fun ls hl => ?_)
  refine lv_aload_n hx hb dL_law__2437 rfl (lv_at hl 3 rfl) ?_
  refine r_scr K h.1.2.1 (lv_at hl 1 rfl) (lv_at hl 5 rfl) 1 hi (by decide) dL_law__2438 dL_law__2439 dL_law__2441 (by decide) dL_law__2442 dL_law__2443 ?_
  refine r_lawQ C h hl lkq_270 (c_X11_right hq) ⟨rfl, rfl⟩ ⟨(Nat.le_of_ble_eq_true rfl), (Nat.le_of_ble_eq_true rfl)⟩ (As := [.int (xs (i + 1))]) (rest := []) rfl rfl (Nat.le_of_ble_eq_true rfl) dL_law__2444 ⟨by show cells + (kc + 1) ≤ 601024; omega, by show slots + (ks + 6) ≤ 7293034; omega⟩ (fun H1 locs1 h => ?_)
  show W p l e room_1 s m #[Value.ref b] below meth c H1 locs1 (cells + (kc + 1)) (slots + (ks + 6)) Q (F0 m 2447 ls [.int x])
  refine tlI K h hl hthr (cdI hrv hrm hlv) ⟨by show cells + (kc + 1) ≤ 601024; omega, by show slots + (ks + 6) ≤ 7293034; omega⟩ dL_law__2447 dL_law__2449 dL_law__2450 dL_law__2453 dL_law__2455 dL_law__2460 dL_law__2462 dL_law__2465 dL_law__2466 dL_law__2467 dL_law__2468 dL_law__2470 dL_law__2471 dL_law__2472 dL_law__2477 (by decide) (fun H2 locs2 ls' h hl => ?_)
  exact kk oa' aa' sh' ln' bb a f' H2 locs2 (cells + (kc + 1)) (slots + (ks + 6)) ls' e00 h hRel (fun s hs => (HS.lf0 _ _ _ _ _ _ hg s hs).trans (hS s hs)) (by omega) (by omega) hP3 hl
set_option maxHeartbeats 4000000 in
set_option maxRecDepth 100000 in
theorem br_37 {p : Program} {l : Launch} {e : Env} {s : State} {m : MethodId} {below : List Frame} {meth : Method} {c : Code} {H : Heap} {locs : List Loc} {cells slots : Nat} {Q : State → Prop} {ls : Array Slot} {D : va_G} {tc : Nat → ClassId} {ro : Ro} {oa : Ky → Nat} {aa : Nat → Nat} {ad : Nat → Nat} {sh : Sh} {ln : Nat → Nat} {A : Nat → Prop} {μk μq : Mm} {b o L i : Nat} {xs : Nat → Int32} {f : Nat → Int64} {V n N w0 : Nat} {r0 : Nat → Int32} {Λo : Option LW} {j d t c0 z : Nat} {T : Nat → Nat} (K : LCw p s m c D tc ro A b L xs) (hs : l.stackTraces = false) (hi : i + 6 ≤ L) (h : L3 D tc s A oa aa sh ln μk ad μq o f H locs) (hR : RLL sh ln μq μk V n N w0 r0 Λo j d t c0 T z) (hS : S11 sh) (hNF : NF sh μk) (h4 : sh 4 2 < 600) (hb1 : cells + POc sh ln + 3 ≤ 601024) (hb2 : slots + POs sh ln + 520 ≤ 7293034) (hl : lv_has ls 7 (lb b (oa (0, 0)) (ad 0) o i)) (kk : Kt p l e s m below meth c Q D tc A b o i ad oa sh ln cells slots) : W p l e room_1 s m #[Value.ref b] below meth c H locs cells slots Q (F0 m 2480 ls []) := by
  have C := K.1
  have hx := K.1.1.1
  have hb := K.1.1.2.1
  have hwf : WfS sh := hR.wf
  obtain ⟨r, x, a, sh', ln', bb, kc, ks, hg, hq, hrv, hthr, hrm, hRel, hP1, hP2, hP3⟩ := STP.uni (md := mdA) (s_rows hR (xs (i + 1)))
  refine lv_aload_n hx hb dL_law__2480 rfl (lv_at hl 1 rfl) ?_
  refine r_scr K h.1.2.1 (lv_at hl 0 rfl) (lv_at hl 4 rfl) 1 hi (by decide) dL_law__2481 dL_law__2482 dL_law__2484 (by decide) dL_law__2485 dL_law__2486 ?_
  refine lv_aload_n hx hb dL_law__2487 rfl (lv_at hl 3 rfl) ?_
  refine r_lawW C K.2.2.2.2.1 K.2.2.2.2.2.1 K.2.2.2.2.2.2.1 h hl lkw_271 (cW_rows (G_X10_rows hs hwf) hg (fun cn e => (hrm cn e).1)) ⟨(Nat.le_of_ble_eq_true rfl), (Nat.le_of_ble_eq_true rfl)⟩ (As := [.int (xs (i + 1))]) (rest := []) rfl rfl (Nat.le_of_ble_eq_true rfl) dL_law__2488 ⟨by show cells + (kc + 1) ≤ 601024; omega, by show slots + (ks + 6) ≤ 7293034; omega⟩ (fun oa' aa' f' H1 locs1 e00 hlv h => ?_)
  show W p l e room_1 s m #[Value.ref b] below meth c H1 locs1 (cells + (kc + 1)) (slots + (ks + 6)) Q (F0 m 2491 ls [.int (cdW mdA r)])
  refine lv_istore (lv' := (5, .int (cdW mdA r)) :: lb b (oa (0, 0)) (ad 0) o i) hx hb dL_law__2491 hl (by decide) rfl (fun ls hl => ?_)
  refine lv_aload_n hx hb dL_law__2493 rfl (lv_at hl 3 rfl) ?_
  refine r_scr K h.1.2.1 (lv_at hl 1 rfl) (lv_at hl 5 rfl) 1 hi (by decide) dL_law__2494 dL_law__2495 dL_law__2497 (by decide) dL_law__2498 dL_law__2499 ?_
  refine r_lawQ C h hl lkq_273 (c_X11_rows hq) ⟨rfl, rfl⟩ ⟨(Nat.le_of_ble_eq_true rfl), (Nat.le_of_ble_eq_true rfl)⟩ (As := [.int (xs (i + 1))]) (rest := []) rfl rfl (Nat.le_of_ble_eq_true rfl) dL_law__2500 ⟨by show cells + (kc + 1) ≤ 601024; omega, by show slots + (ks + 6) ≤ 7293034; omega⟩ (fun H1 locs1 h => ?_)
  show W p l e room_1 s m #[Value.ref b] below meth c H1 locs1 (cells + (kc + 1)) (slots + (ks + 6)) Q (F0 m 2503 ls [.int x])
  refine tlI K h hl hthr (cdI hrv hrm hlv) ⟨by show cells + (kc + 1) ≤ 601024; omega, by show slots + (ks + 6) ≤ 7293034; omega⟩ dL_law__2503 dL_law__2505 dL_law__2506 dL_law__2509 dL_law__2511 dL_law__2516 dL_law__2518 dL_law__2521 dL_law__2522 dL_law__2523 dL_law__2524 dL_law__2526 dL_law__2527 dL_law__2528 dL_law__2533 (by decide) (fun H2 locs2 ls' h hl => ?_)
  exact kk oa' aa' sh' ln' bb a f' H2 locs2 (cells + (kc + 1)) (slots + (ks + 6)) ls' e00 h hRel (fun s hs => (HS.lf0 _ _ _ _ _ _ hg s hs).trans (hS s hs)) (by omega) (by omega) hP3 hl
set_option maxHeartbeats 4000000 in
set_option maxRecDepth 100000 in
theorem br_38 {p : Program} {l : Launch} {e : Env} {s : State} {m : MethodId} {below : List Frame} {meth : Method} {c : Code} {H : Heap} {locs : List Loc} {cells slots : Nat} {Q : State → Prop} {ls : Array Slot} {D : va_G} {tc : Nat → ClassId} {ro : Ro} {oa : Ky → Nat} {aa : Nat → Nat} {ad : Nat → Nat} {sh : Sh} {ln : Nat → Nat} {A : Nat → Prop} {μk μq : Mm} {b o L i : Nat} {xs : Nat → Int32} {f : Nat → Int64} {V n N w0 : Nat} {r0 : Nat → Int32} {Λo : Option LW} {j d t c0 z : Nat} {T : Nat → Nat} (K : LCw p s m c D tc ro A b L xs) (hs : l.stackTraces = false) (hi : i + 6 ≤ L) (h : L3 D tc s A oa aa sh ln μk ad μq o f H locs) (hR : RLL sh ln μq μk V n N w0 r0 Λo j d t c0 T z) (hS : S11 sh) (hNF : NF sh μk) (h4 : sh 4 2 < 600) (hb1 : cells + POc sh ln + 3 ≤ 601024) (hb2 : slots + POs sh ln + 520 ≤ 7293034) (hl : lv_has ls 7 (lb b (oa (0, 0)) (ad 0) o i)) (kk : Kt p l e s m below meth c Q D tc A b o i ad oa sh ln cells slots) : W p l e room_1 s m #[Value.ref b] below meth c H locs cells slots Q (F0 m 2536 ls []) := by
  have C := K.1
  have hx := K.1.1.1
  have hb := K.1.1.2.1
  have hwf : WfS sh := hR.wf
  obtain ⟨r, x, a, sh', ln', bb, kc, ks, hg, hq, hrv, hthr, hrm, hRel, hP1, hP2, hP3⟩ := STP.uni (md := mdA) (s_liars hR (xs (i + 1)) (decide (xs (i + 2) ≠ 0)))
  refine lv_aload_n hx hb dL_law__2536 rfl (lv_at hl 1 rfl) ?_
  refine r_scr K h.1.2.1 (lv_at hl 0 rfl) (lv_at hl 4 rfl) 1 hi (by decide) dL_law__2537 dL_law__2538 dL_law__2540 (by decide) dL_law__2541 dL_law__2542 ?_
  refine r_scr K h.1.2.1 (lv_at hl 0 rfl) (lv_at hl 4 rfl) 2 hi (by decide) dL_law__2543 dL_law__2544 dL_law__2546 (by decide) dL_law__2547 dL_law__2548 ?_
  refine r_bool K dL_law__2549 dL_law__2552 dL_law__2553 dL_law__2556 ?_
  refine lv_aload_n hx hb dL_law__2557 rfl (lv_at hl 3 rfl) ?_
  refine r_lawW C K.2.2.2.2.1 K.2.2.2.2.2.1 K.2.2.2.2.2.2.1 h hl lkw_274 (cW_liars (G_X10_liars hs hwf) hg (fun cn e => (hrm cn e).1)) ⟨(Nat.le_of_ble_eq_true rfl), (Nat.le_of_ble_eq_true rfl)⟩ (As := [.int (xs (i + 1)), .int (bI (decide (xs (i + 2) ≠ 0)))]) (rest := []) rfl rfl (Nat.le_of_ble_eq_true rfl) dL_law__2558 ⟨by show cells + (kc + 1) ≤ 601024; omega, by show slots + (ks + 6) ≤ 7293034; omega⟩ (fun oa' aa' f' H1 locs1 e00 hlv h => ?_)
  show W p l e room_1 s m #[Value.ref b] below meth c H1 locs1 (cells + (kc + 1)) (slots + (ks + 6)) Q (F0 m 2561 ls [.int (cdW mdA r)])
  refine lv_istore (lv' := (5, .int (cdW mdA r)) :: lb b (oa (0, 0)) (ad 0) o i) hx hb dL_law__2561 hl (by decide) rfl (fun ls hl => ?_)
  refine lv_aload_n hx hb dL_law__2563 rfl (lv_at hl 3 rfl) ?_
  refine r_scr K h.1.2.1 (lv_at hl 1 rfl) (lv_at hl 5 rfl) 1 hi (by decide) dL_law__2564 dL_law__2565 dL_law__2567 (by decide) dL_law__2568 dL_law__2569 ?_
  refine r_scr K h.1.2.1 (lv_at hl 1 rfl) (lv_at hl 5 rfl) 2 hi (by decide) dL_law__2570 dL_law__2571 dL_law__2573 (by decide) dL_law__2574 dL_law__2575 ?_
  refine r_bool K dL_law__2576 dL_law__2579 dL_law__2580 dL_law__2583 ?_
  refine r_lawQ C h hl lkq_276 (c_X11_liars hq) ⟨rfl, rfl⟩ ⟨(Nat.le_of_ble_eq_true rfl), (Nat.le_of_ble_eq_true rfl)⟩ (As := [.int (xs (i + 1)), .int (bI (decide (xs (i + 2) ≠ 0)))]) (rest := []) rfl rfl (Nat.le_of_ble_eq_true rfl) dL_law__2584 ⟨by show cells + (kc + 1) ≤ 601024; omega, by show slots + (ks + 6) ≤ 7293034; omega⟩ (fun H1 locs1 h => ?_)
  show W p l e room_1 s m #[Value.ref b] below meth c H1 locs1 (cells + (kc + 1)) (slots + (ks + 6)) Q (F0 m 2587 ls [.int x])
  refine tlI K h hl hthr (cdI hrv hrm hlv) ⟨by show cells + (kc + 1) ≤ 601024; omega, by show slots + (ks + 6) ≤ 7293034; omega⟩ dL_law__2587 dL_law__2589 dL_law__2590 dL_law__2593 dL_law__2595 dL_law__2600 dL_law__2602 dL_law__2605 dL_law__2606 dL_law__2607 dL_law__2608 dL_law__2610 dL_law__2611 dL_law__2612 dL_law__2617 (by decide) (fun H2 locs2 ls' h hl => ?_)
  exact kk oa' aa' sh' ln' bb a f' H2 locs2 (cells + (kc + 1)) (slots + (ks + 6)) ls' e00 h hRel (fun s hs => (HS.lf0 _ _ _ _ _ _ hg s hs).trans (hS s hs)) (by omega) (by omega) hP3 hl
set_option maxHeartbeats 4000000 in
set_option maxRecDepth 100000 in
theorem br_39 {p : Program} {l : Launch} {e : Env} {s : State} {m : MethodId} {below : List Frame} {meth : Method} {c : Code} {H : Heap} {locs : List Loc} {cells slots : Nat} {Q : State → Prop} {ls : Array Slot} {D : va_G} {tc : Nat → ClassId} {ro : Ro} {oa : Ky → Nat} {aa : Nat → Nat} {ad : Nat → Nat} {sh : Sh} {ln : Nat → Nat} {A : Nat → Prop} {μk μq : Mm} {b o L i : Nat} {xs : Nat → Int32} {f : Nat → Int64} {V n N w0 : Nat} {r0 : Nat → Int32} {Λo : Option LW} {j d t c0 z : Nat} {T : Nat → Nat} (K : LCw p s m c D tc ro A b L xs) (hs : l.stackTraces = false) (hi : i + 6 ≤ L) (h : L3 D tc s A oa aa sh ln μk ad μq o f H locs) (hR : RLL sh ln μq μk V n N w0 r0 Λo j d t c0 T z) (hS : S11 sh) (hNF : NF sh μk) (h4 : sh 4 2 < 600) (hb1 : cells + POc sh ln + 3 ≤ 601024) (hb2 : slots + POs sh ln + 520 ≤ 7293034) (hl : lv_has ls 7 (lb b (oa (0, 0)) (ad 0) o i)) (kk : Kt p l e s m below meth c Q D tc A b o i ad oa sh ln cells slots) : W p l e room_1 s m #[Value.ref b] below meth c H locs cells slots Q (F0 m 2620 ls []) := by
  have C := K.1
  have hx := K.1.1.1
  have hb := K.1.1.2.1
  have hwf : WfS sh := hR.wf
  obtain ⟨r, x, a, sh', ln', bb, kc, ks, hg, hq, hrv, hthr, hrm, hRel, hP1, hP2, hP3⟩ := STP.uni (md := mdI) (s_married hR (xs (i + 1)))
  refine lv_aload_n hx hb dL_law__2620 rfl (lv_at hl 1 rfl) ?_
  refine r_scr K h.1.2.1 (lv_at hl 0 rfl) (lv_at hl 4 rfl) 1 hi (by decide) dL_law__2621 dL_law__2622 dL_law__2624 (by decide) dL_law__2625 dL_law__2626 ?_
  refine lv_aload_n hx hb dL_law__2627 rfl (lv_at hl 3 rfl) ?_
  refine r_lawW C K.2.2.2.2.1 K.2.2.2.2.2.1 K.2.2.2.2.2.2.1 h hl lkw_277 (cW_married (G_X10_married hs hwf) hg (fun cn e => (hrm cn e).1)) ⟨(Nat.le_of_ble_eq_true rfl), (Nat.le_of_ble_eq_true rfl)⟩ (As := [.int (xs (i + 1))]) (rest := []) rfl rfl (Nat.le_of_ble_eq_true rfl) dL_law__2628 ⟨by show cells + (kc + 1) ≤ 601024; omega, by show slots + (ks + 6) ≤ 7293034; omega⟩ (fun oa' aa' f' H1 locs1 e00 hlv h => ?_)
  show W p l e room_1 s m #[Value.ref b] below meth c H1 locs1 (cells + (kc + 1)) (slots + (ks + 6)) Q (F0 m 2631 ls [.int (cdW mdI r)])
  refine lv_istore (lv' := (5, .int (cdW mdI r)) :: lb b (oa (0, 0)) (ad 0) o i) hx hb dL_law__2631 hl (by decide) rfl (fun ls hl => ?_)
  refine lv_aload_n hx hb dL_law__2633 rfl (lv_at hl 3 rfl) ?_
  refine r_scr K h.1.2.1 (lv_at hl 1 rfl) (lv_at hl 5 rfl) 1 hi (by decide) dL_law__2634 dL_law__2635 dL_law__2637 (by decide) dL_law__2638 dL_law__2639 ?_
  refine r_lawQ C h hl lkq_279 (c_X11_married hq) ⟨rfl, rfl⟩ ⟨(Nat.le_of_ble_eq_true rfl), (Nat.le_of_ble_eq_true rfl)⟩ (As := [.int (xs (i + 1))]) (rest := []) rfl rfl (Nat.le_of_ble_eq_true rfl) dL_law__2640 ⟨by show cells + (kc + 1) ≤ 601024; omega, by show slots + (ks + 6) ≤ 7293034; omega⟩ (fun H1 locs1 h => ?_)
  show W p l e room_1 s m #[Value.ref b] below meth c H1 locs1 (cells + (kc + 1)) (slots + (ks + 6)) Q (F0 m 2643 ls [.int x])
  refine tlI K h hl hthr (cdI hrv hrm hlv) ⟨by show cells + (kc + 1) ≤ 601024; omega, by show slots + (ks + 6) ≤ 7293034; omega⟩ dL_law__2643 dL_law__2645 dL_law__2646 dL_law__2649 dL_law__2651 dL_law__2656 dL_law__2658 dL_law__2661 dL_law__2662 dL_law__2663 dL_law__2664 dL_law__2666 dL_law__2667 dL_law__2668 dL_law__2673 (by decide) (fun H2 locs2 ls' h hl => ?_)
  exact kk oa' aa' sh' ln' bb a f' H2 locs2 (cells + (kc + 1)) (slots + (ks + 6)) ls' e00 h hRel (fun s hs => (HS.lf0 _ _ _ _ _ _ hg s hs).trans (hS s hs)) (by omega) (by omega) hP3 hl
set_option maxHeartbeats 4000000 in
set_option maxRecDepth 100000 in
theorem br_40 {p : Program} {l : Launch} {e : Env} {s : State} {m : MethodId} {below : List Frame} {meth : Method} {c : Code} {H : Heap} {locs : List Loc} {cells slots : Nat} {Q : State → Prop} {ls : Array Slot} {D : va_G} {tc : Nat → ClassId} {ro : Ro} {oa : Ky → Nat} {aa : Nat → Nat} {ad : Nat → Nat} {sh : Sh} {ln : Nat → Nat} {A : Nat → Prop} {μk μq : Mm} {b o L i : Nat} {xs : Nat → Int32} {f : Nat → Int64} {V n N w0 : Nat} {r0 : Nat → Int32} {Λo : Option LW} {j d t c0 z : Nat} {T : Nat → Nat} (K : LCw p s m c D tc ro A b L xs) (hs : l.stackTraces = false) (hi : i + 6 ≤ L) (h : L3 D tc s A oa aa sh ln μk ad μq o f H locs) (hR : RLL sh ln μq μk V n N w0 r0 Λo j d t c0 T z) (hS : S11 sh) (hNF : NF sh μk) (h4 : sh 4 2 < 600) (hb1 : cells + POc sh ln + 3 ≤ 601024) (hb2 : slots + POs sh ln + 520 ≤ 7293034) (hl : lv_has ls 7 (lb b (oa (0, 0)) (ad 0) o i)) (kk : Kt p l e s m below meth c Q D tc A b o i ad oa sh ln cells slots) : W p l e room_1 s m #[Value.ref b] below meth c H locs cells slots Q (F0 m 2676 ls []) := by
  have C := K.1
  have hx := K.1.1.1
  have hb := K.1.1.2.1
  have hwf : WfS sh := hR.wf
  obtain ⟨r, x, a, sh', ln', bb, kc, ks, hg, hq, hrv, hthr, hrm, hRel, hP1, hP2, hP3⟩ := STP.uni (md := mdI) (s_led hR (xs (i + 1)))
  refine lv_aload_n hx hb dL_law__2676 rfl (lv_at hl 1 rfl) ?_
  refine r_scr K h.1.2.1 (lv_at hl 0 rfl) (lv_at hl 4 rfl) 1 hi (by decide) dL_law__2677 dL_law__2678 dL_law__2680 (by decide) dL_law__2681 dL_law__2682 ?_
  refine lv_aload_n hx hb dL_law__2683 rfl (lv_at hl 3 rfl) ?_
  refine r_lawW C K.2.2.2.2.1 K.2.2.2.2.2.1 K.2.2.2.2.2.2.1 h hl lkw_280 (cW_led (G_X10_led hs hwf) hg (fun cn e => (hrm cn e).1)) ⟨(Nat.le_of_ble_eq_true rfl), (Nat.le_of_ble_eq_true rfl)⟩ (As := [.int (xs (i + 1))]) (rest := []) rfl rfl (Nat.le_of_ble_eq_true rfl) dL_law__2684 ⟨by show cells + (kc + 1) ≤ 601024; omega, by show slots + (ks + 6) ≤ 7293034; omega⟩ (fun oa' aa' f' H1 locs1 e00 hlv h => ?_)
  show W p l e room_1 s m #[Value.ref b] below meth c H1 locs1 (cells + (kc + 1)) (slots + (ks + 6)) Q (F0 m 2687 ls [.int (cdW mdI r)])
  refine lv_istore (lv' := (5, .int (cdW mdI r)) :: lb b (oa (0, 0)) (ad 0) o i) hx hb dL_law__2687 hl (by decide) rfl (fun ls hl => ?_)
  refine lv_aload_n hx hb dL_law__2689 rfl (lv_at hl 3 rfl) ?_
  refine r_scr K h.1.2.1 (lv_at hl 1 rfl) (lv_at hl 5 rfl) 1 hi (by decide) dL_law__2690 dL_law__2691 dL_law__2693 (by decide) dL_law__2694 dL_law__2695 ?_
  refine r_lawQ C h hl lkq_282 (c_X11_led hq) ⟨rfl, rfl⟩ ⟨(Nat.le_of_ble_eq_true rfl), (Nat.le_of_ble_eq_true rfl)⟩ (As := [.int (xs (i + 1))]) (rest := []) rfl rfl (Nat.le_of_ble_eq_true rfl) dL_law__2696 ⟨by show cells + (kc + 1) ≤ 601024; omega, by show slots + (ks + 6) ≤ 7293034; omega⟩ (fun H1 locs1 h => ?_)
  show W p l e room_1 s m #[Value.ref b] below meth c H1 locs1 (cells + (kc + 1)) (slots + (ks + 6)) Q (F0 m 2699 ls [.int x])
  refine tlI K h hl hthr (cdI hrv hrm hlv) ⟨by show cells + (kc + 1) ≤ 601024; omega, by show slots + (ks + 6) ≤ 7293034; omega⟩ dL_law__2699 dL_law__2701 dL_law__2702 dL_law__2705 dL_law__2707 dL_law__2712 dL_law__2714 dL_law__2717 dL_law__2718 dL_law__2719 dL_law__2720 dL_law__2722 dL_law__2723 dL_law__2724 dL_law__2729 (by decide) (fun H2 locs2 ls' h hl => ?_)
  exact kk oa' aa' sh' ln' bb a f' H2 locs2 (cells + (kc + 1)) (slots + (ks + 6)) ls' e00 h hRel (fun s hs => (HS.lf0 _ _ _ _ _ _ hg s hs).trans (hS s hs)) (by omega) (by omega) hP3 hl
set_option maxHeartbeats 4000000 in
set_option maxRecDepth 100000 in
theorem br_41 {p : Program} {l : Launch} {e : Env} {s : State} {m : MethodId} {below : List Frame} {meth : Method} {c : Code} {H : Heap} {locs : List Loc} {cells slots : Nat} {Q : State → Prop} {ls : Array Slot} {D : va_G} {tc : Nat → ClassId} {ro : Ro} {oa : Ky → Nat} {aa : Nat → Nat} {ad : Nat → Nat} {sh : Sh} {ln : Nat → Nat} {A : Nat → Prop} {μk μq : Mm} {b o L i : Nat} {xs : Nat → Int32} {f : Nat → Int64} {V n N w0 : Nat} {r0 : Nat → Int32} {Λo : Option LW} {j d t c0 z : Nat} {T : Nat → Nat} (K : LCw p s m c D tc ro A b L xs) (hs : l.stackTraces = false) (hi : i + 6 ≤ L) (h : L3 D tc s A oa aa sh ln μk ad μq o f H locs) (hR : RLL sh ln μq μk V n N w0 r0 Λo j d t c0 T z) (hS : S11 sh) (hNF : NF sh μk) (h4 : sh 4 2 < 600) (hb1 : cells + POc sh ln + 3 ≤ 601024) (hb2 : slots + POs sh ln + 520 ≤ 7293034) (hl : lv_has ls 7 (lb b (oa (0, 0)) (ad 0) o i)) (kk : Kt p l e s m below meth c Q D tc A b o i ad oa sh ln cells slots) : W p l e room_1 s m #[Value.ref b] below meth c H locs cells slots Q (F0 m 2732 ls []) := by
  have C := K.1
  have hx := K.1.1.1
  have hb := K.1.1.2.1
  have hwf : WfS sh := hR.wf
  obtain ⟨r, x, a, sh', ln', bb, kc, ks, hg, hq, hrv, hthr, hrm, hRel, hP1, hP2, hP3⟩ := STP.uni (md := fun _ => 0) (s_widest hR )
  obtain ⟨v, rfl⟩ : ∃ v, r = .inl v := by
    cases r with
    | inl v => exact ⟨v, rfl⟩
    | inr cn => exact absurd (hrm cn rfl).1 (by decide)
  have ev := hrv v rfl
  obtain ⟨rm, ⟨b1, b2, b3, b4⟩, hM⟩ := G_X10_widest hwf (D := D) (tc := tc) (ro := ro) (oa := oa) _ _ _ _ _ _ hg
  refine lv_aload_n hx hb dL_law__2732 rfl (lv_at hl 1 rfl) ?_
  refine r_lawG C K.2.2.2.2.1 K.2.2.2.2.2.1 h hl lk_L_283 hM ⟨by show rm.frames + 1 ≤ 2048; omega, by show 8 + (5 + 11) + rm.locals ≤ 84000; omega⟩ (As := []) (rest := []) rfl rfl (Nat.le_of_ble_eq_true rfl) dL_law__2733 ⟨by show cells + rm.cells ≤ 601024; omega, by show slots + rm.slots ≤ 7293034; omega⟩ (fun oa' aa' H1 locs1 e00 h => ?_)
  show W p l e room_1 s m #[Value.ref b] below meth c H1 locs1 (cells + rm.cells) (slots + rm.slots) Q (F0 m 2736 ls [.int v])
  refine lv_aload_n hx hb dL_law__2736 rfl (lv_at hl 2 rfl) ?_
  refine r_lawQ C h hl lkq_286 (c_X11_widest hq) ⟨rfl, rfl⟩ ⟨(Nat.le_of_ble_eq_true rfl), (Nat.le_of_ble_eq_true rfl)⟩ (As := []) (rest := [.int v]) rfl rfl (Nat.le_of_ble_eq_true rfl) dL_law__2737 ⟨by show cells + rm.cells ≤ 601024; omega, by show slots + rm.slots ≤ 7293034; omega⟩ (fun H1 locs1 h => ?_)
  show W p l e room_1 s m #[Value.ref b] below meth c H1 locs1 (cells + rm.cells) (slots + rm.slots) Q (F0 m 2740 ls [.int x, .int v])
  refine lv_icmp_eq (tgt := 2913) hx hb dL_law__2740 (by decide) (fun c1 => ?_) (fun c1 => by first | exact absurd ev c1 | exact absurd ev.symm c1)
  exact kk oa' aa' sh' ln' bb a f H1 locs1 (cells + rm.cells) (slots + rm.slots) ls e00 h hRel (fun s hs => (HS.lfn _ _ _ _ _ _ hg s hs).trans (hS s hs)) (by omega) (by omega) hP3 hl
set_option maxHeartbeats 4000000 in
set_option maxRecDepth 100000 in
theorem br_42 {p : Program} {l : Launch} {e : Env} {s : State} {m : MethodId} {below : List Frame} {meth : Method} {c : Code} {H : Heap} {locs : List Loc} {cells slots : Nat} {Q : State → Prop} {ls : Array Slot} {D : va_G} {tc : Nat → ClassId} {ro : Ro} {oa : Ky → Nat} {aa : Nat → Nat} {ad : Nat → Nat} {sh : Sh} {ln : Nat → Nat} {A : Nat → Prop} {μk μq : Mm} {b o L i : Nat} {xs : Nat → Int32} {f : Nat → Int64} {V n N w0 : Nat} {r0 : Nat → Int32} {Λo : Option LW} {j d t c0 z : Nat} {T : Nat → Nat} (K : LCw p s m c D tc ro A b L xs) (hs : l.stackTraces = false) (hi : i + 6 ≤ L) (h : L3 D tc s A oa aa sh ln μk ad μq o f H locs) (hR : RLL sh ln μq μk V n N w0 r0 Λo j d t c0 T z) (hS : S11 sh) (hNF : NF sh μk) (h4 : sh 4 2 < 600) (hb1 : cells + POc sh ln + 3 ≤ 601024) (hb2 : slots + POs sh ln + 520 ≤ 7293034) (hl : lv_has ls 7 (lb b (oa (0, 0)) (ad 0) o i)) (kk : Kt p l e s m below meth c Q D tc A b o i ad oa sh ln cells slots) : W p l e room_1 s m #[Value.ref b] below meth c H locs cells slots Q (F0 m 2745 ls []) := by
  have C := K.1
  have hx := K.1.1.1
  have hb := K.1.1.2.1
  have hwf : WfS sh := hR.wf
  obtain ⟨r, x, a, sh', ln', bb, kc, ks, hg, hq, hrv, hthr, hrm, hRel, hP1, hP2, hP3⟩ := STP.uni (md := fun _ => 0) (s_under hR )
  obtain ⟨v, rfl⟩ : ∃ v, r = .inl v := by
    cases r with
    | inl v => exact ⟨v, rfl⟩
    | inr cn => exact absurd (hrm cn rfl).1 (by decide)
  have ev := hrv v rfl
  obtain ⟨rm, ⟨b1, b2, b3, b4⟩, hM⟩ := G_X10_under hwf (D := D) (tc := tc) (ro := ro) (oa := oa) _ _ _ _ _ _ hg
  refine lv_aload_n hx hb dL_law__2745 rfl (lv_at hl 1 rfl) ?_
  refine r_lawG C K.2.2.2.2.1 K.2.2.2.2.2.1 h hl lk_L_287 hM ⟨by show rm.frames + 1 ≤ 2048; omega, by show 8 + (5 + 11) + rm.locals ≤ 84000; omega⟩ (As := []) (rest := []) rfl rfl (Nat.le_of_ble_eq_true rfl) dL_law__2746 ⟨by show cells + rm.cells ≤ 601024; omega, by show slots + rm.slots ≤ 7293034; omega⟩ (fun oa' aa' H1 locs1 e00 h => ?_)
  show W p l e room_1 s m #[Value.ref b] below meth c H1 locs1 (cells + rm.cells) (slots + rm.slots) Q (F0 m 2749 ls [.int v])
  refine lv_aload_n hx hb dL_law__2749 rfl (lv_at hl 2 rfl) ?_
  refine r_lawQ C h hl lkq_290 (c_X11_under hq) ⟨rfl, rfl⟩ ⟨(Nat.le_of_ble_eq_true rfl), (Nat.le_of_ble_eq_true rfl)⟩ (As := []) (rest := [.int v]) rfl rfl (Nat.le_of_ble_eq_true rfl) dL_law__2750 ⟨by show cells + rm.cells ≤ 601024; omega, by show slots + rm.slots ≤ 7293034; omega⟩ (fun H1 locs1 h => ?_)
  show W p l e room_1 s m #[Value.ref b] below meth c H1 locs1 (cells + rm.cells) (slots + rm.slots) Q (F0 m 2753 ls [.int x, .int v])
  refine lv_icmp_eq (tgt := 2913) hx hb dL_law__2753 (by decide) (fun c1 => ?_) (fun c1 => by first | exact absurd ev c1 | exact absurd ev.symm c1)
  exact kk oa' aa' sh' ln' bb a f H1 locs1 (cells + rm.cells) (slots + rm.slots) ls e00 h hRel (fun s hs => (HS.lfn _ _ _ _ _ _ hg s hs).trans (hS s hs)) (by omega) (by omega) hP3 hl
set_option maxHeartbeats 4000000 in
set_option maxRecDepth 100000 in
theorem br_43 {p : Program} {l : Launch} {e : Env} {s : State} {m : MethodId} {below : List Frame} {meth : Method} {c : Code} {H : Heap} {locs : List Loc} {cells slots : Nat} {Q : State → Prop} {ls : Array Slot} {D : va_G} {tc : Nat → ClassId} {ro : Ro} {oa : Ky → Nat} {aa : Nat → Nat} {ad : Nat → Nat} {sh : Sh} {ln : Nat → Nat} {A : Nat → Prop} {μk μq : Mm} {b o L i : Nat} {xs : Nat → Int32} {f : Nat → Int64} {V n N w0 : Nat} {r0 : Nat → Int32} {Λo : Option LW} {j d t c0 z : Nat} {T : Nat → Nat} (K : LCw p s m c D tc ro A b L xs) (hs : l.stackTraces = false) (hi : i + 6 ≤ L) (h : L3 D tc s A oa aa sh ln μk ad μq o f H locs) (hR : RLL sh ln μq μk V n N w0 r0 Λo j d t c0 T z) (hS : S11 sh) (hNF : NF sh μk) (h4 : sh 4 2 < 600) (hb1 : cells + POc sh ln + 3 ≤ 601024) (hb2 : slots + POs sh ln + 520 ≤ 7293034) (hl : lv_has ls 7 (lb b (oa (0, 0)) (ad 0) o i)) (kk : Kt p l e s m below meth c Q D tc A b o i ad oa sh ln cells slots) : W p l e room_1 s m #[Value.ref b] below meth c H locs cells slots Q (F0 m 2758 ls []) := by
  have C := K.1
  have hx := K.1.1.1
  have hb := K.1.1.2.1
  have hwf : WfS sh := hR.wf
  obtain ⟨r, x, a, sh', ln', bb, kc, ks, hg, hq, hrv, hthr, hrm, hRel, hP1, hP2, hP3⟩ := STP.uni (md := mdN) (s_log hR (xs (i + 1)) (xs (i + 2)))
  refine lv_aload_n hx hb dL_law__2758 rfl (lv_at hl 1 rfl) ?_
  refine r_scr K h.1.2.1 (lv_at hl 0 rfl) (lv_at hl 4 rfl) 1 hi (by decide) dL_law__2759 dL_law__2760 dL_law__2762 (by decide) dL_law__2763 dL_law__2764 ?_
  refine r_scr K h.1.2.1 (lv_at hl 0 rfl) (lv_at hl 4 rfl) 2 hi (by decide) dL_law__2765 dL_law__2766 dL_law__2768 (by decide) dL_law__2769 dL_law__2770 ?_
  refine lv_aload_n hx hb dL_law__2771 rfl (lv_at hl 3 rfl) ?_
  refine r_lawW C K.2.2.2.2.1 K.2.2.2.2.2.1 K.2.2.2.2.2.2.1 h hl lkw_291 (cW_log (G_X10_log hs hwf) hg (fun cn e => (hrm cn e).1)) ⟨(Nat.le_of_ble_eq_true rfl), (Nat.le_of_ble_eq_true rfl)⟩ (As := [.int (xs (i + 1)), .int (xs (i + 2))]) (rest := []) rfl rfl (Nat.le_of_ble_eq_true rfl) dL_law__2772 ⟨by show cells + (kc + 1) ≤ 601024; omega, by show slots + (ks + 6) ≤ 7293034; omega⟩ (fun oa' aa' f' H1 locs1 e00 hlv h => ?_)
  show W p l e room_1 s m #[Value.ref b] below meth c H1 locs1 (cells + (kc + 1)) (slots + (ks + 6)) Q (F0 m 2775 ls [.int (cdW mdN r)])
  refine lv_istore (lv' := (5, .int (cdW mdN r)) :: lb b (oa (0, 0)) (ad 0) o i) hx hb dL_law__2775 hl (by decide) rfl (fun ls hl => ?_)
  refine lv_aload_n hx hb dL_law__2777 rfl (lv_at hl 3 rfl) ?_
  refine r_scr K h.1.2.1 (lv_at hl 1 rfl) (lv_at hl 5 rfl) 1 hi (by decide) dL_law__2778 dL_law__2779 dL_law__2781 (by decide) dL_law__2782 dL_law__2783 ?_
  refine r_scr K h.1.2.1 (lv_at hl 1 rfl) (lv_at hl 5 rfl) 2 hi (by decide) dL_law__2784 dL_law__2785 dL_law__2787 (by decide) dL_law__2788 dL_law__2789 ?_
  refine r_lawQ C h hl lkq_293 (c_X11_log hq) ⟨rfl, rfl⟩ ⟨(Nat.le_of_ble_eq_true rfl), (Nat.le_of_ble_eq_true rfl)⟩ (As := [.int (xs (i + 1)), .int (xs (i + 2))]) (rest := []) rfl rfl (Nat.le_of_ble_eq_true rfl) dL_law__2790 ⟨by show cells + (kc + 1) ≤ 601024; omega, by show slots + (ks + 6) ≤ 7293034; omega⟩ (fun H1 locs1 h => ?_)
  show W p l e room_1 s m #[Value.ref b] below meth c H1 locs1 (cells + (kc + 1)) (slots + (ks + 6)) Q (F0 m 2793 ls [.int x])
  refine tlI K h hl hthr (cdI hrv hrm hlv) ⟨by show cells + (kc + 1) ≤ 601024; omega, by show slots + (ks + 6) ≤ 7293034; omega⟩ dL_law__2793 dL_law__2795 dL_law__2796 dL_law__2799 dL_law__2801 dL_law__2806 dL_law__2808 dL_law__2811 dL_law__2812 dL_law__2813 dL_law__2814 dL_law__2816 dL_law__2817 dL_law__2818 dL_law__2823 (by decide) (fun H2 locs2 ls' h hl => ?_)
  exact kk oa' aa' sh' ln' bb a f' H2 locs2 (cells + (kc + 1)) (slots + (ks + 6)) ls' e00 h hRel (fun s hs => (HS.lf0 _ _ _ _ _ _ hg s hs).trans (hS s hs)) (by omega) (by omega) hP3 hl
set_option maxHeartbeats 4000000 in
set_option maxRecDepth 100000 in
theorem br_44 {p : Program} {l : Launch} {e : Env} {s : State} {m : MethodId} {below : List Frame} {meth : Method} {c : Code} {H : Heap} {locs : List Loc} {cells slots : Nat} {Q : State → Prop} {ls : Array Slot} {D : va_G} {tc : Nat → ClassId} {ro : Ro} {oa : Ky → Nat} {aa : Nat → Nat} {ad : Nat → Nat} {sh : Sh} {ln : Nat → Nat} {A : Nat → Prop} {μk μq : Mm} {b o L i : Nat} {xs : Nat → Int32} {f : Nat → Int64} {V n N w0 : Nat} {r0 : Nat → Int32} {Λo : Option LW} {j d t c0 z : Nat} {T : Nat → Nat} (K : LCw p s m c D tc ro A b L xs) (hs : l.stackTraces = false) (hi : i + 6 ≤ L) (h : L3 D tc s A oa aa sh ln μk ad μq o f H locs) (hR : RLL sh ln μq μk V n N w0 r0 Λo j d t c0 T z) (hS : S11 sh) (hNF : NF sh μk) (h4 : sh 4 2 < 600) (hb1 : cells + POc sh ln + 3 ≤ 601024) (hb2 : slots + POs sh ln + 520 ≤ 7293034) (hl : lv_has ls 7 (lb b (oa (0, 0)) (ad 0) o i)) (kk : Kt p l e s m below meth c Q D tc A b o i ad oa sh ln cells slots) : W p l e room_1 s m #[Value.ref b] below meth c H locs cells slots Q (F0 m 2826 ls []) := by
  have C := K.1
  have hx := K.1.1.1
  have hb := K.1.1.2.1
  have hwf : WfS sh := hR.wf
  obtain ⟨r, x, a, sh', ln', bb, kc, ks, hg, hq, hrv, hthr, hrm, hRel, hP1, hP2, hP3⟩ := STP.uni (md := fun _ => 0) (s_seed hR (xs (i + 1)))
  obtain ⟨v, rfl⟩ : ∃ v, r = .inl v := by
    cases r with
    | inl v => exact ⟨v, rfl⟩
    | inr cn => exact absurd (hrm cn rfl).1 (by decide)
  have ev := hrv v rfl
  obtain ⟨rm, ⟨b1, b2, b3, b4⟩, hM⟩ := G_X10_seed hwf (D := D) (tc := tc) (ro := ro) (oa := oa) _ _ _ _ _ _ hg
  refine lv_aload_n hx hb dL_law__2826 rfl (lv_at hl 1 rfl) ?_
  refine r_scr K h.1.2.1 (lv_at hl 0 rfl) (lv_at hl 4 rfl) 1 hi (by decide) dL_law__2827 dL_law__2828 dL_law__2830 (by decide) dL_law__2831 dL_law__2832 ?_
  refine r_lawG C K.2.2.2.2.1 K.2.2.2.2.2.1 h hl lk_L_294 hM ⟨by show rm.frames + 1 ≤ 2048; omega, by show 8 + (3 + 11) + rm.locals ≤ 84000; omega⟩ (As := [.int (xs (i + 1))]) (rest := []) rfl rfl (Nat.le_of_ble_eq_true rfl) dL_law__2833 ⟨by show cells + rm.cells ≤ 601024; omega, by show slots + rm.slots ≤ 7293034; omega⟩ (fun oa' aa' H1 locs1 e00 h => ?_)
  show W p l e room_1 s m #[Value.ref b] below meth c H1 locs1 (cells + rm.cells) (slots + rm.slots) Q (F0 m 2836 ls [.int v])
  refine lv_aload_n hx hb dL_law__2836 rfl (lv_at hl 2 rfl) ?_
  refine r_scr K h.1.2.1 (lv_at hl 0 rfl) (lv_at hl 4 rfl) 1 hi (by decide) dL_law__2837 dL_law__2838 dL_law__2840 (by decide) dL_law__2841 dL_law__2842 ?_
  refine r_lawQ C h hl lkq_297 (c_X11_seed hq) ⟨rfl, rfl⟩ ⟨(Nat.le_of_ble_eq_true rfl), (Nat.le_of_ble_eq_true rfl)⟩ (As := [.int (xs (i + 1))]) (rest := [.int v]) rfl rfl (Nat.le_of_ble_eq_true rfl) dL_law__2843 ⟨by show cells + rm.cells ≤ 601024; omega, by show slots + rm.slots ≤ 7293034; omega⟩ (fun H1 locs1 h => ?_)
  show W p l e room_1 s m #[Value.ref b] below meth c H1 locs1 (cells + rm.cells) (slots + rm.slots) Q (F0 m 2846 ls [.int x, .int v])
  refine lv_icmp_eq (tgt := 2913) hx hb dL_law__2846 (by decide) (fun c1 => ?_) (fun c1 => by first | exact absurd ev c1 | exact absurd ev.symm c1)
  exact kk oa' aa' sh' ln' bb a f H1 locs1 (cells + rm.cells) (slots + rm.slots) ls e00 h hRel (fun s hs => (HS.lfn _ _ _ _ _ _ hg s hs).trans (hS s hs)) (by omega) (by omega) hP3 hl
set_option maxHeartbeats 4000000 in
set_option maxRecDepth 100000 in
theorem br_45 {p : Program} {l : Launch} {e : Env} {s : State} {m : MethodId} {below : List Frame} {meth : Method} {c : Code} {H : Heap} {locs : List Loc} {cells slots : Nat} {Q : State → Prop} {ls : Array Slot} {D : va_G} {tc : Nat → ClassId} {ro : Ro} {oa : Ky → Nat} {aa : Nat → Nat} {ad : Nat → Nat} {sh : Sh} {ln : Nat → Nat} {A : Nat → Prop} {μk μq : Mm} {b o L i : Nat} {xs : Nat → Int32} {f : Nat → Int64} {V n N w0 : Nat} {r0 : Nat → Int32} {Λo : Option LW} {j d t c0 z : Nat} {T : Nat → Nat} (K : LCw p s m c D tc ro A b L xs) (hs : l.stackTraces = false) (hi : i + 6 ≤ L) (h : L3 D tc s A oa aa sh ln μk ad μq o f H locs) (hR : RLL sh ln μq μk V n N w0 r0 Λo j d t c0 T z) (hS : S11 sh) (hNF : NF sh μk) (h4 : sh 4 2 < 600) (hb1 : cells + POc sh ln + 3 ≤ 601024) (hb2 : slots + POs sh ln + 520 ≤ 7293034) (hl : lv_has ls 7 (lb b (oa (0, 0)) (ad 0) o i)) (kk : Kt p l e s m below meth c Q D tc A b o i ad oa sh ln cells slots) : W p l e room_1 s m #[Value.ref b] below meth c H locs cells slots Q (F0 m 2851 ls []) := by
  have C := K.1
  have hx := K.1.1.1
  have hb := K.1.1.2.1
  have hwf : WfS sh := hR.wf
  obtain ⟨r, x, a, sh', ln', bb, kc, ks, hg, hq, hrv, hthr, hrm, hRel, hP1, hP2, hP3⟩ := STP.uni (md := fun _ => 0) (s_undo hR )
  obtain ⟨v, rfl⟩ : ∃ v, r = .inl v := by
    cases r with
    | inl v => exact ⟨v, rfl⟩
    | inr cn => exact absurd (hrm cn rfl).1 (by decide)
  have ev := hrv v rfl
  obtain ⟨rm, ⟨b1, b2, b3, b4⟩, hM⟩ := G_X10_undo hwf (D := D) (tc := tc) (ro := ro) (oa := oa) _ _ _ _ _ _ hg
  refine lv_aload_n hx hb dL_law__2851 rfl (lv_at hl 1 rfl) ?_
  refine r_lawG C K.2.2.2.2.1 K.2.2.2.2.2.1 h hl lk_L_298 hM ⟨by show rm.frames + 1 ≤ 2048; omega, by show 8 + (1 + 11) + rm.locals ≤ 84000; omega⟩ (As := []) (rest := []) rfl rfl (Nat.le_of_ble_eq_true rfl) dL_law__2852 ⟨by show cells + rm.cells ≤ 601024; omega, by show slots + rm.slots ≤ 7293034; omega⟩ (fun oa' aa' H1 locs1 e00 h => ?_)
  show W p l e room_1 s m #[Value.ref b] below meth c H1 locs1 (cells + rm.cells) (slots + rm.slots) Q (F0 m 2855 ls [.int v])
  refine lv_aload_n hx hb dL_law__2855 rfl (lv_at hl 2 rfl) ?_
  refine r_lawQ C h hl lkq_302 (c_X11_undo hq) ⟨rfl, rfl⟩ ⟨(Nat.le_of_ble_eq_true rfl), (Nat.le_of_ble_eq_true rfl)⟩ (As := []) (rest := [.int v]) rfl rfl (Nat.le_of_ble_eq_true rfl) dL_law__2856 ⟨by show cells + rm.cells ≤ 601024; omega, by show slots + rm.slots ≤ 7293034; omega⟩ (fun H1 locs1 h => ?_)
  show W p l e room_1 s m #[Value.ref b] below meth c H1 locs1 (cells + rm.cells) (slots + rm.slots) Q (F0 m 2859 ls [.int x, .int v])
  refine lv_icmp_eq (tgt := 2913) hx hb dL_law__2859 (by decide) (fun c1 => ?_) (fun c1 => by first | exact absurd ev c1 | exact absurd ev.symm c1)
  exact kk oa' aa' sh' ln' bb a f H1 locs1 (cells + rm.cells) (slots + rm.slots) ls e00 h hRel (fun s hs => (HS.lfA _ _ _ _ _ _ hg s hs).trans (hS s hs)) (by omega) (by omega) hP3 hl
set_option maxHeartbeats 4000000 in
set_option maxRecDepth 100000 in
theorem br_46 {p : Program} {l : Launch} {e : Env} {s : State} {m : MethodId} {below : List Frame} {meth : Method} {c : Code} {H : Heap} {locs : List Loc} {cells slots : Nat} {Q : State → Prop} {ls : Array Slot} {D : va_G} {tc : Nat → ClassId} {ro : Ro} {oa : Ky → Nat} {aa : Nat → Nat} {ad : Nat → Nat} {sh : Sh} {ln : Nat → Nat} {A : Nat → Prop} {μk μq : Mm} {b o L i : Nat} {xs : Nat → Int32} {f : Nat → Int64} {V n N w0 : Nat} {r0 : Nat → Int32} {Λo : Option LW} {j d t c0 z : Nat} {T : Nat → Nat} (K : LCw p s m c D tc ro A b L xs) (hs : l.stackTraces = false) (hi : i + 6 ≤ L) (h : L3 D tc s A oa aa sh ln μk ad μq o f H locs) (hR : RLL sh ln μq μk V n N w0 r0 Λo j d t c0 T z) (hS : S11 sh) (hNF : NF sh μk) (h4 : sh 4 2 < 600) (hb1 : cells + POc sh ln + 3 ≤ 601024) (hb2 : slots + POs sh ln + 520 ≤ 7293034) (hl : lv_has ls 7 (lb b (oa (0, 0)) (ad 0) o i)) (kk : Kt p l e s m below meth c Q D tc A b o i ad oa sh ln cells slots) : W p l e room_1 s m #[Value.ref b] below meth c H locs cells slots Q (F0 m 2864 ls []) := by
  have C := K.1
  have hx := K.1.1.1
  have hb := K.1.1.2.1
  have hwf : WfS sh := hR.wf
  obtain ⟨r, x, a, sh', ln', bb, kc, ks, hg, hq, hrv, hthr, hrm, hRel, hP1, hP2, hP3⟩ := STP.uni (md := fun _ => 0) (s_image hR )
  obtain ⟨v, rfl⟩ : ∃ v, r = .inl v := by
    cases r with
    | inl v => exact ⟨v, rfl⟩
    | inr cn => exact absurd (hrm cn rfl).1 (by decide)
  have ev := hrv v rfl
  obtain ⟨a2, hq, e2⟩ := map_of hq
  cases e2
  obtain ⟨rm, ⟨b1, b2, b3, b4⟩, hM⟩ := G_X10_image hs hwf hR.h9 hR.h10 hNF.1 (D := D) (tc := tc) (ro := ro) (oa := oa) _ _ _ _ _ _ hg
  refine lv_aload_n hx hb dL_law__2864 rfl (lv_at hl 1 rfl) ?_
  refine r_lawG C K.2.2.2.2.1 K.2.2.2.2.2.1 h hl lk_L_303 hM ⟨by show rm.frames + 1 ≤ 2048; omega, by show 8 + (1 + 11) + rm.locals ≤ 84000; omega⟩ (As := []) (rest := []) rfl rfl (Nat.le_of_ble_eq_true rfl) dL_law__2865 ⟨by show cells + rm.cells ≤ 601024; omega, by show slots + rm.slots ≤ 7293034; omega⟩ (fun oa' aa' H1 locs1 e00 h => ?_)
  show W p l e room_1 s m #[Value.ref b] below meth c H1 locs1 (cells + rm.cells) (slots + rm.slots) Q (F0 m 2868 ls [])
  refine lv_aload_n hx hb dL_law__2868 rfl (lv_at hl 2 rfl) ?_
  refine r_lawQ C h hl lkq_306 (c_X11_image hq) ⟨rfl, rfl⟩ ⟨(Nat.le_of_ble_eq_true rfl), (Nat.le_of_ble_eq_true rfl)⟩ (As := []) (rest := []) rfl rfl (Nat.le_of_ble_eq_true rfl) dL_law__2869 ⟨by show cells + rm.cells ≤ 601024; omega, by show slots + rm.slots ≤ 7293034; omega⟩ (fun H1 locs1 h => ?_)
  exact lv_goto (tgt := 2913) hx hb dL_law__2872 (by decide) (kk oa' aa' sh' ln' bb a f H1 locs1 (cells + rm.cells) (slots + rm.slots) ls e00 h hRel (fun s hs => (HS.image hwf _ _ _ _ _ _ hg s hs).trans (hS s hs)) (by omega) (by omega) hP3 hl)
set_option maxHeartbeats 4000000 in
set_option maxRecDepth 100000 in
theorem br_47 {p : Program} {l : Launch} {e : Env} {s : State} {m : MethodId} {below : List Frame} {meth : Method} {c : Code} {H : Heap} {locs : List Loc} {cells slots : Nat} {Q : State → Prop} {ls : Array Slot} {D : va_G} {tc : Nat → ClassId} {ro : Ro} {oa : Ky → Nat} {aa : Nat → Nat} {ad : Nat → Nat} {sh : Sh} {ln : Nat → Nat} {A : Nat → Prop} {μk μq : Mm} {b o L i : Nat} {xs : Nat → Int32} {f : Nat → Int64} {V n N w0 : Nat} {r0 : Nat → Int32} {Λo : Option LW} {j d t c0 z : Nat} {T : Nat → Nat} (K : LCw p s m c D tc ro A b L xs) (hs : l.stackTraces = false) (hi : i + 6 ≤ L) (h : L3 D tc s A oa aa sh ln μk ad μq o f H locs) (hR : RLL sh ln μq μk V n N w0 r0 Λo j d t c0 T z) (hS : S11 sh) (hNF : NF sh μk) (h4 : sh 4 2 < 600) (hb1 : cells + POc sh ln + 3 ≤ 601024) (hb2 : slots + POs sh ln + 520 ≤ 7293034) (hl : lv_has ls 7 (lb b (oa (0, 0)) (ad 0) o i)) (kk : Kt p l e s m below meth c Q D tc A b o i ad oa sh ln cells slots) : W p l e room_1 s m #[Value.ref b] below meth c H locs cells slots Q (F0 m 2875 ls []) := by
  have C := K.1
  have hx := K.1.1.1
  have hb := K.1.1.2.1
  have hwf : WfS sh := hR.wf
  obtain ⟨r, x, a, sh', ln', bb, kc, ks, hg, hq, hrv, hthr, hrm, hRel, hP1, hP2, hP3⟩ := STP.uni (md := fun _ => 0) (s_back hR )
  obtain ⟨v, rfl⟩ : ∃ v, r = .inl v := by
    cases r with
    | inl v => exact ⟨v, rfl⟩
    | inr cn => exact absurd (hrm cn rfl).1 (by decide)
  have ev := hrv v rfl
  obtain ⟨rm, ⟨b1, b2, b3, b4⟩, hM⟩ := G_X10_back hwf (D := D) (tc := tc) (ro := ro) (oa := oa) _ _ _ _ _ _ hg
  refine lv_aload_n hx hb dL_law__2875 rfl (lv_at hl 1 rfl) ?_
  refine r_lawG C K.2.2.2.2.1 K.2.2.2.2.2.1 h hl lk_L_307 hM ⟨by show rm.frames + 1 ≤ 2048; omega, by show 8 + (1 + 11) + rm.locals ≤ 84000; omega⟩ (As := []) (rest := []) rfl rfl (Nat.le_of_ble_eq_true rfl) dL_law__2876 ⟨by show cells + rm.cells ≤ 601024; omega, by show slots + rm.slots ≤ 7293034; omega⟩ (fun oa' aa' H1 locs1 e00 h => ?_)
  show W p l e room_1 s m #[Value.ref b] below meth c H1 locs1 (cells + rm.cells) (slots + rm.slots) Q (F0 m 2879 ls [.int v])
  refine lv_aload_n hx hb dL_law__2879 rfl (lv_at hl 2 rfl) ?_
  refine r_lawQ C h hl lkq_310 (c_X11_back hq) ⟨rfl, rfl⟩ ⟨(Nat.le_of_ble_eq_true rfl), (Nat.le_of_ble_eq_true rfl)⟩ (As := []) (rest := [.int v]) rfl rfl (Nat.le_of_ble_eq_true rfl) dL_law__2880 ⟨by show cells + rm.cells ≤ 601024; omega, by show slots + rm.slots ≤ 7293034; omega⟩ (fun H1 locs1 h => ?_)
  show W p l e room_1 s m #[Value.ref b] below meth c H1 locs1 (cells + rm.cells) (slots + rm.slots) Q (F0 m 2883 ls [.int x, .int v])
  refine lv_icmp_eq (tgt := 2913) hx hb dL_law__2883 (by decide) (fun c1 => ?_) (fun c1 => by first | exact absurd ev c1 | exact absurd ev.symm c1)
  exact kk oa' aa' sh' ln' bb a f H1 locs1 (cells + rm.cells) (slots + rm.slots) ls e00 h hRel (fun s hs => (HS.lfA _ _ _ _ _ _ hg s hs).trans (hS s hs)) (by omega) (by omega) hP3 hl
set_option maxHeartbeats 4000000 in
set_option maxRecDepth 100000 in
theorem br_48 {p : Program} {l : Launch} {e : Env} {s : State} {m : MethodId} {below : List Frame} {meth : Method} {c : Code} {H : Heap} {locs : List Loc} {cells slots : Nat} {Q : State → Prop} {ls : Array Slot} {D : va_G} {tc : Nat → ClassId} {ro : Ro} {oa : Ky → Nat} {aa : Nat → Nat} {ad : Nat → Nat} {sh : Sh} {ln : Nat → Nat} {A : Nat → Prop} {μk μq : Mm} {b o L i : Nat} {xs : Nat → Int32} {f : Nat → Int64} {V n N w0 : Nat} {r0 : Nat → Int32} {Λo : Option LW} {j d t c0 z : Nat} {T : Nat → Nat} (K : LCw p s m c D tc ro A b L xs) (hs : l.stackTraces = false) (hi : i + 6 ≤ L) (h : L3 D tc s A oa aa sh ln μk ad μq o f H locs) (hR : RLL sh ln μq μk V n N w0 r0 Λo j d t c0 T z) (hS : S11 sh) (hNF : NF sh μk) (h4 : sh 4 2 < 600) (hb1 : cells + POc sh ln + 3 ≤ 601024) (hb2 : slots + POs sh ln + 520 ≤ 7293034) (hl : lv_has ls 7 (lb b (oa (0, 0)) (ad 0) o i)) (kk : Kt p l e s m below meth c Q D tc A b o i ad oa sh ln cells slots) : W p l e room_1 s m #[Value.ref b] below meth c H locs cells slots Q (F0 m 2888 ls []) := by
  have C := K.1
  have hx := K.1.1.1
  have hb := K.1.1.2.1
  have hwf : WfS sh := hR.wf
  obtain ⟨r, x, a, sh', ln', bb, kc, ks, hg, hq, hrv, hthr, hrm, hRel, hP1, hP2, hP3⟩ := STP.uni (md := fun _ => 0) (s_count hR (xs (i + 1)))
  obtain ⟨v, rfl⟩ : ∃ v, r = .inl v := by
    cases r with
    | inl v => exact ⟨v, rfl⟩
    | inr cn => exact absurd (hrm cn rfl).1 (by decide)
  have ev := hrv v rfl
  obtain ⟨rm, ⟨b1, b2, b3, b4⟩, hM⟩ := G_X10_count hwf (D := D) (tc := tc) (ro := ro) (oa := oa) _ _ _ _ _ _ hg
  refine lv_aload_n hx hb dL_law__2888 rfl (lv_at hl 1 rfl) ?_
  refine r_scr K h.1.2.1 (lv_at hl 0 rfl) (lv_at hl 4 rfl) 1 hi (by decide) dL_law__2889 dL_law__2890 dL_law__2892 (by decide) dL_law__2893 dL_law__2894 ?_
  refine r_lawG C K.2.2.2.2.1 K.2.2.2.2.2.1 h hl lk_L_311 hM ⟨by show rm.frames + 1 ≤ 2048; omega, by show 8 + (2 + 11) + rm.locals ≤ 84000; omega⟩ (As := [.int (xs (i + 1))]) (rest := []) rfl rfl (Nat.le_of_ble_eq_true rfl) dL_law__2895 ⟨by show cells + rm.cells ≤ 601024; omega, by show slots + rm.slots ≤ 7293034; omega⟩ (fun oa' aa' H1 locs1 e00 h => ?_)
  show W p l e room_1 s m #[Value.ref b] below meth c H1 locs1 (cells + rm.cells) (slots + rm.slots) Q (F0 m 2898 ls [.int v])
  refine lv_aload_n hx hb dL_law__2898 rfl (lv_at hl 2 rfl) ?_
  refine r_scr K h.1.2.1 (lv_at hl 0 rfl) (lv_at hl 4 rfl) 1 hi (by decide) dL_law__2899 dL_law__2900 dL_law__2902 (by decide) dL_law__2903 dL_law__2904 ?_
  refine r_lawQ C h hl lkq_314 (c_X11_count hq) ⟨rfl, rfl⟩ ⟨(Nat.le_of_ble_eq_true rfl), (Nat.le_of_ble_eq_true rfl)⟩ (As := [.int (xs (i + 1))]) (rest := [.int v]) rfl rfl (Nat.le_of_ble_eq_true rfl) dL_law__2905 ⟨by show cells + rm.cells ≤ 601024; omega, by show slots + rm.slots ≤ 7293034; omega⟩ (fun H1 locs1 h => ?_)
  show W p l e room_1 s m #[Value.ref b] below meth c H1 locs1 (cells + rm.cells) (slots + rm.slots) Q (F0 m 2908 ls [.int x, .int v])
  refine lv_icmp_eq (tgt := 2913) hx hb dL_law__2908 (by decide) (fun c1 => ?_) (fun c1 => by first | exact absurd ev c1 | exact absurd ev.symm c1)
  exact kk oa' aa' sh' ln' bb a f H1 locs1 (cells + rm.cells) (slots + rm.slots) ls e00 h hRel (fun s hs => (HS.lfn _ _ _ _ _ _ hg s hs).trans (hS s hs)) (by omega) (by omega) hP3 hl

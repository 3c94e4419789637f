/-! The law, case by case -/
section LCS2
variable {g : jG} {hs : jH} {H : jH} {o L j : Nat} {xs : Nat → Int32} {ω : CW} {μ : MW}
theorem cs_32 (hN : jnc g) (hL : L ≤ 3072) (hj : 6 * j + 6 ≤ L) (I : LI g L xs o j H ω μ) (K : ∀ H' ω' ν, LNx g L xs o (j + 1) H' ω' ν → J g mL_law 121 hs PL 2959 (lvL g o (nI (6 * j))) [] (lh g H' o ω' ν)) : J g mL_law 121 hs PL 2103 (lvL g o (nI (6 * j))) [] (lh g H o ω μ) := by
  refine jr_aload_n 3 dL_law_2103 rfl rfl ?_
  refine js_ld (c := 1) 4 0 rfl (by omega) hL I.1.sc dL_law_2104 dL_law_2105 dL_law_2107 dL_law_2108 dL_law_2109 rfl rfl ?_
  refine jr_aload_n 1 dL_law_2110 rfl rfl ?_
  refine jr_cXi (As := [.ref o, .int (xs (6 * j + 1)), .ref (o + 414)]) (st := []) jl_L_259 km_L_bestHedge rfl rfl dL_law_2111 (Nat.le_of_ble_eq_true rfl) (Con.nx (cc_bestHedge hN I)) (fun k h' hk => ?_)
  obtain ⟨A, ω', ⟨rfl, rfl⟩, ek, H1, ω1, s, X, B, rfl, D⟩ := hk
  refine jr_istore (lv' := (5, .int k) :: lvL g o (nI (6 * j))) dL_law_2114 (by decide) rfl ?_
  refine jr_aload_n 3 dL_law_2116 rfl rfl ?_
  refine js_ld (c := 1) 5 1 rfl (by omega) hL B.sc dL_law_2117 dL_law_2118 dL_law_2120 dL_law_2121 dL_law_2122 rfl rfl ?_
  refine jr_cVi (As := [.int (xs (6 * j + 1))]) (st := []) jl_L_261 km_X12_bestHedge rfl rfl dL_law_2123 lh_mo (Nat.le_of_ble_eq_true rfl) (mc_i (fun h => v_bestHedge (d := 80) I.2.1)) (fun r h' hr => ?_)
  obtain ⟨ν, q, rfl⟩ := hr
  obtain ⟨e1, e2⟩ := fi_a (by decide) ek q D
  exact js_endI e1 e2 jl_L_158 dL_law_2126 dL_law_2128 dL_law_2129 dL_law_2132 dL_law_2134 dL_law_2139 dL_law_2141 dL_law_2144 dL_law_2145 dL_law_2146 dL_law_2147 dL_law_2149 dL_law_2150 dL_law_2151 dL_law_2156 (by decide) (K _ _ _ (I.nextk kpx.rf X B s q.2.2))
theorem cs_33 (hN : jnc g) (hL : L ≤ 3072) (hj : 6 * j + 6 ≤ L) (I : LI g L xs o j H ω μ) (K : ∀ H' ω' ν, LNx g L xs o (j + 1) H' ω' ν → J g mL_law 121 hs PL 2959 (lvL g o (nI (6 * j))) [] (lh g H' o ω' ν)) : J g mL_law 121 hs PL 2159 (lvL g o (nI (6 * j))) [] (lh g H o ω μ) := by
  refine jr_aload_n 3 dL_law_2159 rfl rfl ?_
  refine js_ld (c := 1) 4 0 rfl (by omega) hL I.1.sc dL_law_2160 dL_law_2161 dL_law_2163 dL_law_2164 dL_law_2165 rfl rfl ?_
  refine js_ld (c := 2) 4 0 rfl (by omega) hL I.1.sc dL_law_2166 dL_law_2167 dL_law_2169 dL_law_2170 dL_law_2171 rfl rfl ?_
  refine jr_aload_n 1 dL_law_2172 rfl rfl ?_
  refine jr_cXi (As := [.ref o, .int (xs (6 * j + 1)), .int (xs (6 * j + 2)), .ref (o + 414)]) (st := []) jl_L_262 km_L_saves rfl rfl dL_law_2173 (Nat.le_of_ble_eq_true rfl) (Con.nx (cc_saves hN I)) (fun k h' hk => ?_)
  obtain ⟨A, ω', ⟨rfl, rfl⟩, ek, H1, ω1, s, X, B, rfl, D⟩ := hk
  refine jr_istore (lv' := (5, .int k) :: lvL g o (nI (6 * j))) dL_law_2176 (by decide) rfl ?_
  refine jr_aload_n 3 dL_law_2178 rfl rfl ?_
  refine js_ld (c := 1) 5 1 rfl (by omega) hL B.sc dL_law_2179 dL_law_2180 dL_law_2182 dL_law_2183 dL_law_2184 rfl rfl ?_
  refine js_ld (c := 2) 5 1 rfl (by omega) hL B.sc dL_law_2185 dL_law_2186 dL_law_2188 dL_law_2189 dL_law_2190 rfl rfl ?_
  refine jr_cVi (As := [.int (xs (6 * j + 1)), .int (xs (6 * j + 2))]) (st := []) jl_L_264 km_X12_saves rfl rfl dL_law_2191 lh_mo (Nat.le_of_ble_eq_true rfl) (mc_i (fun h => v_saves (d := 80) I.2.1)) (fun r h' hr => ?_)
  obtain ⟨ν, q, rfl⟩ := hr
  obtain ⟨e1, e2⟩ := fi_a (by decide) ek q D
  exact js_endI e1 e2 jl_L_158 dL_law_2194 dL_law_2196 dL_law_2197 dL_law_2200 dL_law_2202 dL_law_2207 dL_law_2209 dL_law_2212 dL_law_2213 dL_law_2214 dL_law_2215 dL_law_2217 dL_law_2218 dL_law_2219 dL_law_2224 (by decide) (K _ _ _ (I.nextk kpx.rf X B s q.2.2))
theorem cs_34 (hN : jnc g) (hL : L ≤ 3072) (hj : 6 * j + 6 ≤ L) (I : LI g L xs o j H ω μ) (K : ∀ H' ω' ν, LNx g L xs o (j + 1) H' ω' ν → J g mL_law 121 hs PL 2959 (lvL g o (nI (6 * j))) [] (lh g H' o ω' ν)) : J g mL_law 121 hs PL 2227 (lvL g o (nI (6 * j))) [] (lh g H o ω μ) := by
  refine jr_aload_n 3 dL_law_2227 rfl rfl ?_
  refine js_ld (c := 1) 4 0 rfl (by omega) hL I.1.sc dL_law_2228 dL_law_2229 dL_law_2231 dL_law_2232 dL_law_2233 rfl rfl ?_
  refine jr_aload_n 1 dL_law_2234 rfl rfl ?_
  refine jr_cXi (As := [.ref o, .int (xs (6 * j + 1)), .ref (o + 414)]) (st := []) jl_L_265 km_L_leastLimit rfl rfl dL_law_2235 (Nat.le_of_ble_eq_true rfl) (Con.nx (cc_leastLimit hN I)) (fun k h' hk => ?_)
  obtain ⟨A, ω', ⟨rfl, rfl⟩, ek, H1, ω1, s, X, B, rfl, D⟩ := hk
  refine jr_istore (lv' := (5, .int k) :: lvL g o (nI (6 * j))) dL_law_2238 (by decide) rfl ?_
  refine jr_aload_n 3 dL_law_2240 rfl rfl ?_
  refine js_ld (c := 1) 5 1 rfl (by omega) hL B.sc dL_law_2241 dL_law_2242 dL_law_2244 dL_law_2245 dL_law_2246 rfl rfl ?_
  refine jr_cVi (As := [.int (xs (6 * j + 1))]) (st := []) jl_L_267 km_X12_leastLimit rfl rfl dL_law_2247 lh_mo (Nat.le_of_ble_eq_true rfl) (mc_i (fun h => v_leastLimit (d := 80) I.2.1)) (fun r h' hr => ?_)
  obtain ⟨ν, q, rfl⟩ := hr
  obtain ⟨e1, e2⟩ := fi_a (by decide) ek q D
  exact js_endI e1 e2 jl_L_158 dL_law_2250 dL_law_2252 dL_law_2253 dL_law_2256 dL_law_2258 dL_law_2263 dL_law_2265 dL_law_2268 dL_law_2269 dL_law_2270 dL_law_2271 dL_law_2273 dL_law_2274 dL_law_2275 dL_law_2280 (by decide) (K _ _ _ (I.nextk kpx.rf X B s q.2.2))
theorem cs_35 (hN : jnc g) (hL : L ≤ 3072) (hj : 6 * j + 6 ≤ L) (I : LI g L xs o j H ω μ) (K : ∀ H' ω' ν, LNx g L xs o (j + 1) H' ω' ν → J g mL_law 121 hs PL 2959 (lvL g o (nI (6 * j))) [] (lh g H' o ω' ν)) : J g mL_law 121 hs PL 2283 (lvL g o (nI (6 * j))) [] (lh g H o ω μ) := by
  refine jr_aload_n 3 dL_law_2283 rfl rfl ?_
  refine js_ld (c := 1) 4 0 rfl (by omega) hL I.1.sc dL_law_2284 dL_law_2285 dL_law_2287 dL_law_2288 dL_law_2289 rfl rfl ?_
  refine js_ld (c := 2) 4 0 rfl (by omega) hL I.1.sc dL_law_2290 dL_law_2291 dL_law_2293 dL_law_2294 dL_law_2295 rfl rfl ?_
  refine jr_aload_n 1 dL_law_2296 rfl rfl ?_
  refine jr_cXi (As := [.ref o, .int (xs (6 * j + 1)), .int (xs (6 * j + 2)), .ref (o + 414)]) (st := []) jl_L_268 km_L_worth rfl rfl dL_law_2297 (Nat.le_of_ble_eq_true rfl) (Con.nx (cc_worth hN I)) (fun k h' hk => ?_)
  obtain ⟨A, ω', ⟨rfl, rfl⟩, ek, H1, ω1, s, X, B, rfl, D⟩ := hk
  refine jr_istore (lv' := (5, .int k) :: lvL g o (nI (6 * j))) dL_law_2300 (by decide) rfl ?_
  refine jr_aload_n 3 dL_law_2302 rfl rfl ?_
  refine js_ld (c := 1) 5 1 rfl (by omega) hL B.sc dL_law_2303 dL_law_2304 dL_law_2306 dL_law_2307 dL_law_2308 rfl rfl ?_
  refine js_ld (c := 2) 5 1 rfl (by omega) hL B.sc dL_law_2309 dL_law_2310 dL_law_2312 dL_law_2313 dL_law_2314 rfl rfl ?_
  refine jr_cVi (As := [.int (xs (6 * j + 1)), .int (xs (6 * j + 2))]) (st := []) jl_L_270 km_X12_worth rfl rfl dL_law_2315 lh_mo (Nat.le_of_ble_eq_true rfl) (mc_i (fun h => v_worth (d := 80) I.2.1)) (fun r h' hr => ?_)
  obtain ⟨ν, q, rfl⟩ := hr
  obtain ⟨e1, e2⟩ := fi_a (by decide) ek q D
  exact js_endI e1 e2 jl_L_158 dL_law_2318 dL_law_2320 dL_law_2321 dL_law_2324 dL_law_2326 dL_law_2331 dL_law_2333 dL_law_2336 dL_law_2337 dL_law_2338 dL_law_2339 dL_law_2341 dL_law_2342 dL_law_2343 dL_law_2348 (by decide) (K _ _ _ (I.nextk kpx.rf X B s q.2.2))
theorem cs_36 (hN : jnc g) (hL : L ≤ 3072) (hj : 6 * j + 6 ≤ L) (I : LI g L xs o j H ω μ) (K : ∀ H' ω' ν, LNx g L xs o (j + 1) H' ω' ν → J g mL_law 121 hs PL 2959 (lvL g o (nI (6 * j))) [] (lh g H' o ω' ν)) : J g mL_law 121 hs PL 2351 (lvL g o (nI (6 * j))) [] (lh g H o ω μ) := by
  refine jr_aload_n 3 dL_law_2351 rfl rfl ?_
  refine js_ld (c := 1) 4 0 rfl (by omega) hL I.1.sc dL_law_2352 dL_law_2353 dL_law_2355 dL_law_2356 dL_law_2357 rfl rfl ?_
  refine jr_aload_n 1 dL_law_2358 rfl rfl ?_
  refine jr_cXi (As := [.ref o, .int (xs (6 * j + 1)), .ref (o + 414)]) (st := []) jl_L_271 km_L_pillar rfl rfl dL_law_2359 (Nat.le_of_ble_eq_true rfl) (Con.nx (cc_pillar hN I)) (fun k h' hk => ?_)
  obtain ⟨A, ω', ⟨rfl, rfl⟩, ek, H1, ω1, s, X, B, rfl, D⟩ := hk
  refine jr_istore (lv' := (5, .int k) :: lvL g o (nI (6 * j))) dL_law_2362 (by decide) rfl ?_
  refine jr_aload_n 3 dL_law_2364 rfl rfl ?_
  refine js_ld (c := 1) 5 1 rfl (by omega) hL B.sc dL_law_2365 dL_law_2366 dL_law_2368 dL_law_2369 dL_law_2370 rfl rfl ?_
  refine jr_cVi (As := [.int (xs (6 * j + 1))]) (st := []) jl_L_273 km_X12_pillar rfl rfl dL_law_2371 lh_mo (Nat.le_of_ble_eq_true rfl) (mc_i (fun h => v_pillar (d := 80) I.2.1)) (fun r h' hr => ?_)
  obtain ⟨ν, q, rfl⟩ := hr
  obtain ⟨e1, e2⟩ := fi_a (by decide) ek q D
  exact js_endI e1 e2 jl_L_158 dL_law_2374 dL_law_2376 dL_law_2377 dL_law_2380 dL_law_2382 dL_law_2387 dL_law_2389 dL_law_2392 dL_law_2393 dL_law_2394 dL_law_2395 dL_law_2397 dL_law_2398 dL_law_2399 dL_law_2404 (by decide) (K _ _ _ (I.nextk kpx.rf X B s q.2.2))
theorem cs_37 (hN : jnc g) (hL : L ≤ 3072) (hj : 6 * j + 6 ≤ L) (I : LI g L xs o j H ω μ) (K : ∀ H' ω' ν, LNx g L xs o (j + 1) H' ω' ν → J g mL_law 121 hs PL 2959 (lvL g o (nI (6 * j))) [] (lh g H' o ω' ν)) : J g mL_law 121 hs PL 2407 (lvL g o (nI (6 * j))) [] (lh g H o ω μ) := by
  refine jr_aload_n 3 dL_law_2407 rfl rfl ?_
  refine js_ld (c := 1) 4 0 rfl (by omega) hL I.1.sc dL_law_2408 dL_law_2409 dL_law_2411 dL_law_2412 dL_law_2413 rfl rfl ?_
  refine js_ld (c := 2) 4 0 rfl (by omega) hL I.1.sc dL_law_2414 dL_law_2415 dL_law_2417 dL_law_2418 dL_law_2419 rfl rfl ?_
  refine jr_aload_n 1 dL_law_2420 rfl rfl ?_
  refine jr_cXi (As := [.ref o, .int (xs (6 * j + 1)), .int (xs (6 * j + 2)), .ref (o + 414)]) (st := []) jl_L_274 km_L_seen rfl rfl dL_law_2421 (Nat.le_of_ble_eq_true rfl) (Con.nx (cc_seen hN I)) (fun k h' hk => ?_)
  obtain ⟨A, ω', ⟨rfl, rfl⟩, ek, H1, ω1, s, X, B, rfl, D⟩ := hk
  refine jr_istore (lv' := (5, .int k) :: lvL g o (nI (6 * j))) dL_law_2424 (by decide) rfl ?_
  refine jr_aload_n 3 dL_law_2426 rfl rfl ?_
  refine js_ld (c := 1) 5 1 rfl (by omega) hL B.sc dL_law_2427 dL_law_2428 dL_law_2430 dL_law_2431 dL_law_2432 rfl rfl ?_
  refine js_ld (c := 2) 5 1 rfl (by omega) hL B.sc dL_law_2433 dL_law_2434 dL_law_2436 dL_law_2437 dL_law_2438 rfl rfl ?_
  refine jr_cVi (As := [.int (xs (6 * j + 1)), .int (xs (6 * j + 2))]) (st := []) jl_L_276 km_X12_seen rfl rfl dL_law_2439 lh_mo (Nat.le_of_ble_eq_true rfl) (mc_i (fun h => v_seen (d := 80) I.2.1)) (fun r h' hr => ?_)
  obtain ⟨ν, q, rfl⟩ := hr
  obtain ⟨e1, e2⟩ := fi_a (by decide) ek q D
  exact js_endI e1 e2 jl_L_158 dL_law_2442 dL_law_2444 dL_law_2445 dL_law_2448 dL_law_2450 dL_law_2455 dL_law_2457 dL_law_2460 dL_law_2461 dL_law_2462 dL_law_2463 dL_law_2465 dL_law_2466 dL_law_2467 dL_law_2472 (by decide) (K _ _ _ (I.nextk kpx.rf X B s q.2.2))
theorem cs_38 (hN : jnc g) (hL : L ≤ 3072) (hj : 6 * j + 6 ≤ L) (I : LI g L xs o j H ω μ) (K : ∀ H' ω' ν, LNx g L xs o (j + 1) H' ω' ν → J g mL_law 121 hs PL 2959 (lvL g o (nI (6 * j))) [] (lh g H' o ω' ν)) : J g mL_law 121 hs PL 2475 (lvL g o (nI (6 * j))) [] (lh g H o ω μ) := by
  refine jr_aload_n 3 dL_law_2475 rfl rfl ?_
  refine js_ld (c := 1) 4 0 rfl (by omega) hL I.1.sc dL_law_2476 dL_law_2477 dL_law_2479 dL_law_2480 dL_law_2481 rfl rfl ?_
  refine js_ld (c := 2) 4 0 rfl (by omega) hL I.1.sc dL_law_2482 dL_law_2483 dL_law_2485 dL_law_2486 dL_law_2487 rfl rfl ?_
  refine js_ld (c := 3) 4 0 rfl (by omega) hL I.1.sc dL_law_2488 dL_law_2489 dL_law_2491 dL_law_2492 dL_law_2493 rfl rfl ?_
  refine jr_aload_n 1 dL_law_2494 rfl rfl ?_
  refine jr_cXi (As := [.ref o, .int (xs (6 * j + 1)), .int (xs (6 * j + 2)), .int (xs (6 * j + 3)), .ref (o + 414)]) (st := []) jl_L_277 km_L_hidden rfl rfl dL_law_2495 (Nat.le_of_ble_eq_true rfl) (Con.nx (cc_hidden hN I)) (fun k h' hk => ?_)
  obtain ⟨A, ω', ⟨rfl, rfl⟩, ek, H1, ω1, s, X, B, rfl, D⟩ := hk
  refine jr_istore (lv' := (5, .int k) :: lvL g o (nI (6 * j))) dL_law_2498 (by decide) rfl ?_
  refine jr_aload_n 3 dL_law_2500 rfl rfl ?_
  refine js_ld (c := 1) 5 1 rfl (by omega) hL B.sc dL_law_2501 dL_law_2502 dL_law_2504 dL_law_2505 dL_law_2506 rfl rfl ?_
  refine js_ld (c := 2) 5 1 rfl (by omega) hL B.sc dL_law_2507 dL_law_2508 dL_law_2510 dL_law_2511 dL_law_2512 rfl rfl ?_
  refine js_ld (c := 3) 5 1 rfl (by omega) hL B.sc dL_law_2513 dL_law_2514 dL_law_2516 dL_law_2517 dL_law_2518 rfl rfl ?_
  refine jr_cVi (As := [.int (xs (6 * j + 1)), .int (xs (6 * j + 2)), .int (xs (6 * j + 3))]) (st := []) jl_L_279 km_X12_hidden rfl rfl dL_law_2519 lh_mo (Nat.le_of_ble_eq_true rfl) (mc_i (fun h => v_hidden (d := 80) I.2.1)) (fun r h' hr => ?_)
  obtain ⟨ν, q, rfl⟩ := hr
  obtain ⟨e1, e2⟩ := fi_a (by decide) ek q D
  exact js_endI e1 e2 jl_L_158 dL_law_2522 dL_law_2524 dL_law_2525 dL_law_2528 dL_law_2530 dL_law_2535 dL_law_2537 dL_law_2540 dL_law_2541 dL_law_2542 dL_law_2543 dL_law_2545 dL_law_2546 dL_law_2547 dL_law_2552 (by decide) (K _ _ _ (I.nextk kpx.rf X B s q.2.2))
theorem cs_39 (hN : jnc g) (hL : L ≤ 3072) (hj : 6 * j + 6 ≤ L) (I : LI g L xs o j H ω μ) (K : ∀ H' ω' ν, LNx g L xs o (j + 1) H' ω' ν → J g mL_law 121 hs PL 2959 (lvL g o (nI (6 * j))) [] (lh g H' o ω' ν)) : J g mL_law 121 hs PL 2555 (lvL g o (nI (6 * j))) [] (lh g H o ω μ) := by
  refine jr_aload_n 3 dL_law_2555 rfl rfl ?_
  refine js_ld (c := 1) 4 0 rfl (by omega) hL I.1.sc dL_law_2556 dL_law_2557 dL_law_2559 dL_law_2560 dL_law_2561 rfl rfl ?_
  refine js_ld (c := 2) 4 0 rfl (by omega) hL I.1.sc dL_law_2562 dL_law_2563 dL_law_2565 dL_law_2566 dL_law_2567 rfl rfl ?_
  refine jr_aload_n 1 dL_law_2568 rfl rfl ?_
  refine jr_cXi (As := [.ref o, .int (xs (6 * j + 1)), .int (xs (6 * j + 2)), .ref (o + 414)]) (st := []) jl_L_280 km_L_look rfl rfl dL_law_2569 (Nat.le_of_ble_eq_true rfl) (Con.nx (cc_look hN I)) (fun k h' hk => ?_)
  obtain ⟨A, ω', ⟨rfl, rfl⟩, ek, H1, ω1, s, X, B, rfl, D⟩ := hk
  refine jr_istore (lv' := (5, .int k) :: lvL g o (nI (6 * j))) dL_law_2572 (by decide) rfl ?_
  refine jr_aload_n 3 dL_law_2574 rfl rfl ?_
  refine js_ld (c := 1) 5 1 rfl (by omega) hL B.sc dL_law_2575 dL_law_2576 dL_law_2578 dL_law_2579 dL_law_2580 rfl rfl ?_
  refine js_ld (c := 2) 5 1 rfl (by omega) hL B.sc dL_law_2581 dL_law_2582 dL_law_2584 dL_law_2585 dL_law_2586 rfl rfl ?_
  refine jr_cVi (As := [.int (xs (6 * j + 1)), .int (xs (6 * j + 2))]) (st := []) jl_L_282 km_X12_look rfl rfl dL_law_2587 lh_mo (Nat.le_of_ble_eq_true rfl) (mc_i (fun h => v_look (d := 80) I.2.1)) (fun r h' hr => ?_)
  obtain ⟨ν, q, rfl⟩ := hr
  obtain ⟨e1, e2⟩ := fi_a (by decide) ek q D
  exact js_endI e1 e2 jl_L_158 dL_law_2590 dL_law_2592 dL_law_2593 dL_law_2596 dL_law_2598 dL_law_2603 dL_law_2605 dL_law_2608 dL_law_2609 dL_law_2610 dL_law_2611 dL_law_2613 dL_law_2614 dL_law_2615 dL_law_2620 (by decide) (K _ _ _ (I.nextk kpx.rf X B s q.2.2))
theorem cs_40 (hN : jnc g) (hL : L ≤ 3072) (hj : 6 * j + 6 ≤ L) (I : LI g L xs o j H ω μ) (K : ∀ H' ω' ν, LNx g L xs o (j + 1) H' ω' ν → J g mL_law 121 hs PL 2959 (lvL g o (nI (6 * j))) [] (lh g H' o ω' ν)) : J g mL_law 121 hs PL 2623 (lvL g o (nI (6 * j))) [] (lh g H o ω μ) := by
  refine jr_aload_n 3 dL_law_2623 rfl rfl ?_
  refine js_ld (c := 1) 4 0 rfl (by omega) hL I.1.sc dL_law_2624 dL_law_2625 dL_law_2627 dL_law_2628 dL_law_2629 rfl rfl ?_
  refine js_ld (c := 2) 4 0 rfl (by omega) hL I.1.sc dL_law_2630 dL_law_2631 dL_law_2633 dL_law_2634 dL_law_2635 rfl rfl ?_
  refine js_ld (c := 3) 4 0 rfl (by omega) hL I.1.sc dL_law_2636 dL_law_2637 dL_law_2639 dL_law_2640 dL_law_2641 rfl rfl ?_
  refine jr_cXi (As := [.ref o, .int (xs (6 * j + 1)), .int (xs (6 * j + 2)), .int (xs (6 * j + 3))]) (st := []) jl_L_283 km_L_tray rfl rfl dL_law_2642 (Nat.le_of_ble_eq_true rfl) (Con.nx (cc_tray hN I)) (fun k h' hk => ?_)
  obtain ⟨A, ω', ⟨rfl, rfl⟩, ek, H1, ω1, s, X, B, rfl, D⟩ := hk
  refine jr_istore (lv' := (5, .int k) :: lvL g o (nI (6 * j))) dL_law_2645 (by decide) rfl ?_
  refine jr_aload_n 3 dL_law_2647 rfl rfl ?_
  refine js_ld (c := 1) 5 1 rfl (by omega) hL B.sc dL_law_2648 dL_law_2649 dL_law_2651 dL_law_2652 dL_law_2653 rfl rfl ?_
  refine js_ld (c := 2) 5 1 rfl (by omega) hL B.sc dL_law_2654 dL_law_2655 dL_law_2657 dL_law_2658 dL_law_2659 rfl rfl ?_
  refine js_ld (c := 3) 5 1 rfl (by omega) hL B.sc dL_law_2660 dL_law_2661 dL_law_2663 dL_law_2664 dL_law_2665 rfl rfl ?_
  refine jr_cVv (As := [.int (xs (6 * j + 1)), .int (xs (6 * j + 2)), .int (xs (6 * j + 3))]) (st := []) jl_L_286 km_X12_tray rfl rfl dL_law_2666 lh_mo (Nat.le_of_ble_eq_true rfl) (mc_v (fun h => v_tray (d := 80) I.2.1)) (fun h' hr => ?_)
  obtain ⟨ν, q, rfl⟩ := hr
  have e1 := q.1.trans ek.symm
  exact js_endV e1 jl_L_158 dL_law_2669 dL_law_2670 dL_law_2673 dL_law_2675 dL_law_2680 (by decide) (K _ _ _ (I.nextk kx_tray X B s q.2.2))
theorem cs_41 (hN : jnc g) (hL : L ≤ 3072) (hj : 6 * j + 6 ≤ L) (I : LI g L xs o j H ω μ) (K : ∀ H' ω' ν, LNx g L xs o (j + 1) H' ω' ν → J g mL_law 121 hs PL 2959 (lvL g o (nI (6 * j))) [] (lh g H' o ω' ν)) : J g mL_law 121 hs PL 2683 (lvL g o (nI (6 * j))) [] (lh g H o ω μ) := by
  refine jr_aload_n 3 dL_law_2683 rfl rfl ?_
  refine js_ld (c := 1) 4 0 rfl (by omega) hL I.1.sc dL_law_2684 dL_law_2685 dL_law_2687 dL_law_2688 dL_law_2689 rfl rfl ?_
  refine js_ld (c := 2) 4 0 rfl (by omega) hL I.1.sc dL_law_2690 dL_law_2691 dL_law_2693 dL_law_2694 dL_law_2695 rfl rfl ?_
  refine js_ld (c := 3) 4 0 rfl (by omega) hL I.1.sc dL_law_2696 dL_law_2697 dL_law_2699 dL_law_2700 dL_law_2701 rfl rfl ?_
  refine jr_i2l dL_law_2702 ?_
  refine jr_bipush (v := 32) dL_law_2703 rfl ?_
  refine jr_lshl dL_law_2705 ?_
  refine js_ld (c := 4) 4 0 rfl (by omega) hL I.1.sc dL_law_2706 dL_law_2707 dL_law_2709 dL_law_2710 dL_law_2711 rfl rfl ?_
  refine jr_i2l dL_law_2712 ?_
  refine jr_ldc2 jcL_287 dL_law_2713 ?_
  refine jr_land dL_law_2716 ?_
  refine jr_lor dL_law_2717 ?_
  refine jr_aload_n 1 dL_law_2718 rfl rfl ?_
  refine jr_cXi (As := [.ref o, .int (xs (6 * j + 1)), .int (xs (6 * j + 2)), .long (((xs (6 * j + 3)).toInt64 <<< ((32 : Int32).toInt64 &&& 63)) ||| ((xs (6 * j + 4)).toInt64 &&& 4294967295)), .ref (o + 414)]) (st := []) jl_L_289 km_L_write rfl rfl dL_law_2719 (Nat.le_of_ble_eq_true rfl) (Con.nx (cc_write hN I)) (fun k h' hk => ?_)
  obtain ⟨A, ω', ⟨rfl, rfl⟩, ek, H1, ω1, s, X, B, rfl, D⟩ := hk
  refine jr_istore (lv' := (5, .int k) :: lvL g o (nI (6 * j))) dL_law_2722 (by decide) rfl ?_
  refine jr_aload_n 3 dL_law_2724 rfl rfl ?_
  refine js_ld (c := 1) 5 1 rfl (by omega) hL B.sc dL_law_2725 dL_law_2726 dL_law_2728 dL_law_2729 dL_law_2730 rfl rfl ?_
  refine js_ld (c := 2) 5 1 rfl (by omega) hL B.sc dL_law_2731 dL_law_2732 dL_law_2734 dL_law_2735 dL_law_2736 rfl rfl ?_
  refine js_ld (c := 3) 5 1 rfl (by omega) hL B.sc dL_law_2737 dL_law_2738 dL_law_2740 dL_law_2741 dL_law_2742 rfl rfl ?_
  refine jr_i2l dL_law_2743 ?_
  refine jr_bipush (v := 32) dL_law_2744 rfl ?_
  refine jr_lshl dL_law_2746 ?_
  refine js_ld (c := 4) 5 1 rfl (by omega) hL B.sc dL_law_2747 dL_law_2748 dL_law_2750 dL_law_2751 dL_law_2752 rfl rfl ?_
  refine jr_i2l dL_law_2753 ?_
  refine jr_ldc2 jcL_287 dL_law_2754 ?_
  refine jr_land dL_law_2757 ?_
  refine jr_lor dL_law_2758 ?_
  refine jr_cVl (As := [.int (xs (6 * j + 1)), .int (xs (6 * j + 2)), .long (((xs (6 * j + 3)).toInt64 <<< ((32 : Int32).toInt64 &&& 63)) ||| ((xs (6 * j + 4)).toInt64 &&& 4294967295))]) (st := []) jl_L_292 km_X12_write rfl rfl dL_law_2759 lh_mo (Nat.le_of_ble_eq_true rfl) (mc_l (fun h => v_write (d := 80) I.2.1)) (fun r h' hr => ?_)
  obtain ⟨ν, q, rfl⟩ := hr
  obtain ⟨e1, e2⟩ := fi_a (by decide) ek q D
  exact js_endL e1 e2 jl_L_158 dL_law_2762 dL_law_2764 dL_law_2765 dL_law_2768 dL_law_2770 dL_law_2775 dL_law_2777 dL_law_2780 dL_law_2781 dL_law_2782 dL_law_2783 dL_law_2785 dL_law_2786 dL_law_2791 (by decide) (K _ _ _ (I.nextk kx_write X B s q.2.2))
theorem cs_42 (hN : jnc g) (hL : L ≤ 3072) (hj : 6 * j + 6 ≤ L) (I : LI g L xs o j H ω μ) (K : ∀ H' ω' ν, LNx g L xs o (j + 1) H' ω' ν → J g mL_law 121 hs PL 2959 (lvL g o (nI (6 * j))) [] (lh g H' o ω' ν)) : J g mL_law 121 hs PL 2794 (lvL g o (nI (6 * j))) [] (lh g H o ω μ) := by
  refine jr_aload_n 3 dL_law_2794 rfl rfl ?_
  refine js_ld (c := 1) 4 0 rfl (by omega) hL I.1.sc dL_law_2795 dL_law_2796 dL_law_2798 dL_law_2799 dL_law_2800 rfl rfl ?_
  refine js_ld (c := 2) 4 0 rfl (by omega) hL I.1.sc dL_law_2801 dL_law_2802 dL_law_2804 dL_law_2805 dL_law_2806 rfl rfl ?_
  refine jr_aload_n 1 dL_law_2807 rfl rfl ?_
  refine jr_cXi (As := [.ref o, .int (xs (6 * j + 1)), .int (xs (6 * j + 2)), .ref (o + 414)]) (st := []) jl_L_293 km_L_copy rfl rfl dL_law_2808 (Nat.le_of_ble_eq_true rfl) (Con.nx (cc_copy hN I)) (fun k h' hk => ?_)
  obtain ⟨A, ω', ⟨rfl, rfl⟩, ek, H1, ω1, s, X, B, rfl, D⟩ := hk
  refine jr_istore (lv' := (5, .int k) :: lvL g o (nI (6 * j))) dL_law_2811 (by decide) rfl ?_
  refine jr_aload_n 3 dL_law_2813 rfl rfl ?_
  refine js_ld (c := 1) 5 1 rfl (by omega) hL B.sc dL_law_2814 dL_law_2815 dL_law_2817 dL_law_2818 dL_law_2819 rfl rfl ?_
  refine js_ld (c := 2) 5 1 rfl (by omega) hL B.sc dL_law_2820 dL_law_2821 dL_law_2823 dL_law_2824 dL_law_2825 rfl rfl ?_
  refine jr_cVi (As := [.int (xs (6 * j + 1)), .int (xs (6 * j + 2))]) (st := []) jl_L_295 km_X12_copy rfl rfl dL_law_2826 lh_mo (Nat.le_of_ble_eq_true rfl) (mc_i (fun h => v_copy (d := 80) I.2.1)) (fun r h' hr => ?_)
  obtain ⟨ν, q, rfl⟩ := hr
  obtain ⟨e1, e2⟩ := fi_a (by decide) ek q D
  exact js_endI e1 e2 jl_L_158 dL_law_2829 dL_law_2831 dL_law_2832 dL_law_2835 dL_law_2837 dL_law_2842 dL_law_2844 dL_law_2847 dL_law_2848 dL_law_2849 dL_law_2850 dL_law_2852 dL_law_2853 dL_law_2854 dL_law_2859 (by decide) (K _ _ _ (I.nextk kx_copy X B s q.2.2))
theorem cs_43 (hN : jnc g) (hL : L ≤ 3072) (hj : 6 * j + 6 ≤ L) (I : LI g L xs o j H ω μ) (K : ∀ H' ω' ν, LNx g L xs o (j + 1) H' ω' ν → J g mL_law 121 hs PL 2959 (lvL g o (nI (6 * j))) [] (lh g H' o ω' ν)) : J g mL_law 121 hs PL 2862 (lvL g o (nI (6 * j))) [] (lh g H o ω μ) := by
  refine jr_aload_n 3 dL_law_2862 rfl rfl ?_
  refine js_ld (c := 1) 4 0 rfl (by omega) hL I.1.sc dL_law_2863 dL_law_2864 dL_law_2866 dL_law_2867 dL_law_2868 rfl rfl ?_
  refine jr_cXi (As := [.ref o, .int (xs (6 * j + 1))]) (st := []) jl_L_296 km_L_image rfl rfl dL_law_2869 (Nat.le_of_ble_eq_true rfl) (Con.nx (cc_image hN I)) (fun k h' hk => ?_)
  obtain ⟨A, ω', ⟨rfl, rfl⟩, ek, H1, ω1, s, X, B, rfl, D⟩ := hk
  refine jr_istore (lv' := (5, .int k) :: lvL g o (nI (6 * j))) dL_law_2872 (by decide) rfl ?_
  refine jr_aload_n 3 dL_law_2874 rfl rfl ?_
  refine js_ld (c := 1) 5 1 rfl (by omega) hL B.sc dL_law_2875 dL_law_2876 dL_law_2878 dL_law_2879 dL_law_2880 rfl rfl ?_
  refine jr_cVv (As := [.int (xs (6 * j + 1))]) (st := []) jl_L_299 km_X12_image rfl rfl dL_law_2881 lh_mo (Nat.le_of_ble_eq_true rfl) (mc_v (fun h => v_image (d := 80) I.2.1)) (fun h' hr => ?_)
  obtain ⟨ν, q, rfl⟩ := hr
  have e1 := q.1.trans ek.symm
  exact js_endV e1 jl_L_158 dL_law_2884 dL_law_2885 dL_law_2888 dL_law_2890 dL_law_2895 (by decide) (K _ _ _ (I.nextk kx_image X B s q.2.2))
theorem cs_44 (hN : jnc g) (hL : L ≤ 3072) (hj : 6 * j + 6 ≤ L) (I : LI g L xs o j H ω μ) (K : ∀ H' ω' ν, LNx g L xs o (j + 1) H' ω' ν → J g mL_law 121 hs PL 2959 (lvL g o (nI (6 * j))) [] (lh g H' o ω' ν)) : J g mL_law 121 hs PL 2898 (lvL g o (nI (6 * j))) [] (lh g H o ω μ) := by
  refine jr_aload_n 3 dL_law_2898 rfl rfl ?_
  refine js_ld (c := 1) 4 0 rfl (by omega) hL I.1.sc dL_law_2899 dL_law_2900 dL_law_2902 dL_law_2903 dL_law_2904 rfl rfl ?_
  refine jr_cXi (As := [.ref o, .int (xs (6 * j + 1))]) (st := []) jl_L_300 km_L_restore rfl rfl dL_law_2905 (Nat.le_of_ble_eq_true rfl) (Con.nx (cc_restore hN I)) (fun k h' hk => ?_)
  obtain ⟨A, ω', ⟨rfl, rfl⟩, ek, H1, ω1, s, X, B, rfl, D⟩ := hk
  refine jr_istore (lv' := (5, .int k) :: lvL g o (nI (6 * j))) dL_law_2908 (by decide) rfl ?_
  refine jr_aload_n 3 dL_law_2910 rfl rfl ?_
  refine js_ld (c := 1) 5 1 rfl (by omega) hL B.sc dL_law_2911 dL_law_2912 dL_law_2914 dL_law_2915 dL_law_2916 rfl rfl ?_
  refine jr_cVv (As := [.int (xs (6 * j + 1))]) (st := []) jl_L_302 km_X12_restore rfl rfl dL_law_2917 lh_mo (Nat.le_of_ble_eq_true rfl) (mc_v (fun h => v_restore (d := 80) I.2.1)) (fun h' hr => ?_)
  obtain ⟨ν, q, rfl⟩ := hr
  have e1 := q.1.trans ek.symm
  exact js_endV e1 jl_L_158 dL_law_2920 dL_law_2921 dL_law_2924 dL_law_2926 dL_law_2931 (by decide) (K _ _ _ (I.nextk kx_restore X B s q.2.2))
theorem cs_45 (hN : jnc g) (hL : L ≤ 3072) (hj : 6 * j + 6 ≤ L) (I : LI g L xs o j H ω μ) (K : ∀ H' ω' ν, LNx g L xs o (j + 1) H' ω' ν → J g mL_law 121 hs PL 2959 (lvL g o (nI (6 * j))) [] (lh g H' o ω' ν)) : J g mL_law 121 hs PL 2934 (lvL g o (nI (6 * j))) [] (lh g H o ω μ) := by
  refine jr_aload_n 3 dL_law_2934 rfl rfl ?_
  refine js_ld (c := 1) 4 0 rfl (by omega) hL I.1.sc dL_law_2935 dL_law_2936 dL_law_2938 dL_law_2939 dL_law_2940 rfl rfl ?_
  refine jr_cVi (As := [.int (xs (6 * j + 1))]) (st := []) jl_L_303 km_X11_count rfl rfl dL_law_2941 lh_co (Nat.le_of_ble_eq_true rfl) (Con.nx (cc_count I)) (fun k h' hk => ?_)
  obtain ⟨ek, ω1, s, rfl⟩ := hk
  refine jr_aload_n 2 dL_law_2944 rfl rfl ?_
  refine js_ld (c := 1) 4 0 rfl (by omega) hL I.1.sc dL_law_2945 dL_law_2946 dL_law_2948 dL_law_2949 dL_law_2950 rfl rfl ?_
  refine jr_cVi (As := [.int (xs (6 * j + 1))]) (st := [.int k]) jl_L_306 km_X12_count rfl rfl dL_law_2951 lh_mo (Nat.le_of_ble_eq_true rfl) (mc_i (fun h => v_count (d := 80) I.2.1)) (fun r h' hr => ?_)
  obtain ⟨ν, q, rfl⟩ := hr
  exact jr_icmp_eq (tgt := 2959) dL_law_2954 (by decide) (fun _ => K _ _ _ (I.nextk kpx.rf HXt.rf I.1 s q.2.2)) (fun c => absurd (q.2.1 _ ek).symm c)
end LCS2

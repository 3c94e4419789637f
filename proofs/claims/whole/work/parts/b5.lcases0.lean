/-! The law, case by case -/
theorem jcL_287 : Cond.constantLong RL 287 4294967295 ∈ lw_tbl := jw_in 2097 (by decide +kernel)
theorem jl_L_147 : Cond.methodLink RL 147 mX11_feed.1 ∈ lw_tbl := jw_in 429 (by decide +kernel)
theorem jl_L_151 : Cond.methodLink RL 151 mX12_feed.1 ∈ lw_tbl := jw_in 1544 (by decide +kernel)
theorem jl_L_152 : Cond.methodLink RL 152 mL_street.1 ∈ lw_tbl := jw_in 576 (by decide +kernel)
theorem jl_L_157 : Cond.methodLink RL 157 mX12_street.1 ∈ lw_tbl := jw_in 1548 (by decide +kernel)
theorem jl_L_158 : Cond.methodLink RL 158 mX12_thrown.1 ∈ lw_tbl := jw_in 1540 (by decide +kernel)
theorem jl_L_162 : Cond.methodLink RL 162 mX11_fault.1 ∈ lw_tbl := jw_in 437 (by decide +kernel)
theorem jl_L_165 : Cond.methodLink RL 165 mX12_fault.1 ∈ lw_tbl := jw_in 1679 (by decide +kernel)
theorem jl_L_166 : Cond.methodLink RL 166 mL_house.1 ∈ lw_tbl := jw_in 885 (by decide +kernel)
theorem jl_L_169 : Cond.methodLink RL 169 mX12_house.1 ∈ lw_tbl := jw_in 1683 (by decide +kernel)
theorem jl_L_170 : Cond.methodLink RL 170 mL_household.1 ∈ lw_tbl := jw_in 916 (by decide +kernel)
theorem jl_L_172 : Cond.methodLink RL 172 mX12_household.1 ∈ lw_tbl := jw_in 1700 (by decide +kernel)
theorem jl_L_173 : Cond.methodLink RL 173 mL_pays.1 ∈ lw_tbl := jw_in 924 (by decide +kernel)
theorem jl_L_175 : Cond.methodLink RL 175 mX12_pays.1 ∈ lw_tbl := jw_in 1705 (by decide +kernel)
theorem jl_L_176 : Cond.methodLink RL 176 mL_grows.1 ∈ lw_tbl := jw_in 954 (by decide +kernel)
theorem jl_L_178 : Cond.methodLink RL 178 mX12_grows.1 ∈ lw_tbl := jw_in 1740 (by decide +kernel)
theorem jl_L_179 : Cond.methodLink RL 179 mL_takes.1 ∈ lw_tbl := jw_in 968 (by decide +kernel)
theorem jl_L_181 : Cond.methodLink RL 181 mX12_takes.1 ∈ lw_tbl := jw_in 1749 (by decide +kernel)
theorem jl_L_182 : Cond.methodLink RL 182 mX11_swap.1 ∈ lw_tbl := jw_in 441 (by decide +kernel)
theorem jl_L_185 : Cond.methodLink RL 185 mX12_swap.1 ∈ lw_tbl := jw_in 1757 (by decide +kernel)
theorem jl_L_186 : Cond.methodLink RL 186 mX11_gift.1 ∈ lw_tbl := jw_in 472 (by decide +kernel)
theorem jl_L_189 : Cond.methodLink RL 189 mX12_gift.1 ∈ lw_tbl := jw_in 1773 (by decide +kernel)
theorem jl_L_190 : Cond.methodLink RL 190 mL_plant.1 ∈ lw_tbl := jw_in 976 (by decide +kernel)
theorem jl_L_192 : Cond.methodLink RL 192 mX12_plant.1 ∈ lw_tbl := jw_in 1790 (by decide +kernel)
theorem jl_L_193 : Cond.methodLink RL 193 mX11_payOff.1 ∈ lw_tbl := jw_in 492 (by decide +kernel)
theorem jl_L_196 : Cond.methodLink RL 196 mX12_payOff.1 ∈ lw_tbl := jw_in 1795 (by decide +kernel)
theorem jl_L_197 : Cond.methodLink RL 197 mL_quarters.1 ∈ lw_tbl := jw_in 983 (by decide +kernel)
theorem jl_L_199 : Cond.methodLink RL 199 mX12_quarters.1 ∈ lw_tbl := jw_in 1811 (by decide +kernel)
theorem jl_L_200 : Cond.methodLink RL 200 mL_undo.1 ∈ lw_tbl := jw_in 990 (by decide +kernel)
theorem jl_L_202 : Cond.methodLink RL 202 mX12_undo.1 ∈ lw_tbl := jw_in 1832 (by decide +kernel)
theorem jl_L_203 : Cond.methodLink RL 203 mL_judge.1 ∈ lw_tbl := jw_in 1002 (by decide +kernel)
theorem jl_L_205 : Cond.methodLink RL 205 mX12_judge.1 ∈ lw_tbl := jw_in 1837 (by decide +kernel)
theorem jl_L_206 : Cond.methodLink RL 206 mL_perform.1 ∈ lw_tbl := jw_in 1039 (by decide +kernel)
theorem jl_L_208 : Cond.methodLink RL 208 mX12_perform.1 ∈ lw_tbl := jw_in 1875 (by decide +kernel)
theorem jl_L_209 : Cond.methodLink RL 209 mL_year.1 ∈ lw_tbl := jw_in 1050 (by decide +kernel)
theorem jl_L_211 : Cond.methodLink RL 211 mX12_year.1 ∈ lw_tbl := jw_in 1879 (by decide +kernel)
theorem jl_L_212 : Cond.methodLink RL 212 mL_debtIn.1 ∈ lw_tbl := jw_in 1066 (by decide +kernel)
theorem jl_L_214 : Cond.methodLink RL 214 mX12_debtIn.1 ∈ lw_tbl := jw_in 1893 (by decide +kernel)
theorem jl_L_215 : Cond.methodLink RL 215 mL_cashIn.1 ∈ lw_tbl := jw_in 1077 (by decide +kernel)
theorem jl_L_217 : Cond.methodLink RL 217 mX12_cashIn.1 ∈ lw_tbl := jw_in 1905 (by decide +kernel)
theorem jl_L_218 : Cond.methodLink RL 218 mL_ruinIn.1 ∈ lw_tbl := jw_in 1084 (by decide +kernel)
theorem jl_L_220 : Cond.methodLink RL 220 mX12_ruinIn.1 ∈ lw_tbl := jw_in 1909 (by decide +kernel)
theorem jl_L_221 : Cond.methodLink RL 221 mL_lost.1 ∈ lw_tbl := jw_in 1091 (by decide +kernel)
theorem jl_L_223 : Cond.methodLink RL 223 mX12_lost.1 ∈ lw_tbl := jw_in 1913 (by decide +kernel)
theorem jl_L_224 : Cond.methodLink RL 224 mX11_clear.1 ∈ lw_tbl := jw_in 504 (by decide +kernel)
theorem jl_L_227 : Cond.methodLink RL 227 mX12_clear.1 ∈ lw_tbl := jw_in 1931 (by decide +kernel)
theorem jl_L_228 : Cond.methodLink RL 228 mL_seaIn.1 ∈ lw_tbl := jw_in 1111 (by decide +kernel)
theorem jl_L_230 : Cond.methodLink RL 230 mX12_seaIn.1 ∈ lw_tbl := jw_in 1935 (by decide +kernel)
theorem jl_L_231 : Cond.methodLink RL 231 mL_burden.1 ∈ lw_tbl := jw_in 1118 (by decide +kernel)
theorem jl_L_233 : Cond.methodLink RL 233 mX12_burden.1 ∈ lw_tbl := jw_in 1939 (by decide +kernel)
theorem jl_L_234 : Cond.methodLink RL 234 mL_heaviest.1 ∈ lw_tbl := jw_in 1132 (by decide +kernel)
theorem jl_L_236 : Cond.methodLink RL 236 mX12_heaviest.1 ∈ lw_tbl := jw_in 1955 (by decide +kernel)
theorem jl_L_237 : Cond.methodLink RL 237 mL_paid.1 ∈ lw_tbl := jw_in 1139 (by decide +kernel)
theorem jl_L_239 : Cond.methodLink RL 239 mX12_paid.1 ∈ lw_tbl := jw_in 1959 (by decide +kernel)
theorem jl_L_240 : Cond.methodLink RL 240 mL_order.1 ∈ lw_tbl := jw_in 1146 (by decide +kernel)
theorem jl_L_242 : Cond.methodLink RL 242 mX12_order.1 ∈ lw_tbl := jw_in 1963 (by decide +kernel)
theorem jl_L_243 : Cond.methodLink RL 243 mL_orders.1 ∈ lw_tbl := jw_in 1182 (by decide +kernel)
theorem jl_L_245 : Cond.methodLink RL 245 mX12_orders.1 ∈ lw_tbl := jw_in 1984 (by decide +kernel)
theorem jl_L_246 : Cond.methodLink RL 246 mL_bestSwap.1 ∈ lw_tbl := jw_in 1189 (by decide +kernel)
theorem jl_L_248 : Cond.methodLink RL 248 mX12_bestSwap.1 ∈ lw_tbl := jw_in 1988 (by decide +kernel)
theorem jl_L_249 : Cond.methodLink RL 249 mL_wouldSwap.1 ∈ lw_tbl := jw_in 1196 (by decide +kernel)
theorem jl_L_251 : Cond.methodLink RL 251 mX12_wouldSwap.1 ∈ lw_tbl := jw_in 1992 (by decide +kernel)
theorem jl_L_252 : Cond.methodLink RL 252 mL_bestHouse.1 ∈ lw_tbl := jw_in 1212 (by decide +kernel)
theorem jl_L_254 : Cond.methodLink RL 254 mX12_bestHouse.1 ∈ lw_tbl := jw_in 2000 (by decide +kernel)
theorem jl_L_255 : Cond.methodLink RL 255 mL_hedges.1 ∈ lw_tbl := jw_in 1219 (by decide +kernel)
theorem jl_L_258 : Cond.methodLink RL 258 mX12_hedges.1 ∈ lw_tbl := jw_in 2004 (by decide +kernel)
theorem jl_L_259 : Cond.methodLink RL 259 mL_bestHedge.1 ∈ lw_tbl := jw_in 1242 (by decide +kernel)
theorem jl_L_261 : Cond.methodLink RL 261 mX12_bestHedge.1 ∈ lw_tbl := jw_in 2012 (by decide +kernel)
theorem jl_L_262 : Cond.methodLink RL 262 mL_saves.1 ∈ lw_tbl := jw_in 1249 (by decide +kernel)
theorem jl_L_264 : Cond.methodLink RL 264 mX12_saves.1 ∈ lw_tbl := jw_in 2016 (by decide +kernel)
theorem jl_L_265 : Cond.methodLink RL 265 mL_leastLimit.1 ∈ lw_tbl := jw_in 1256 (by decide +kernel)
theorem jl_L_267 : Cond.methodLink RL 267 mX12_leastLimit.1 ∈ lw_tbl := jw_in 2024 (by decide +kernel)
theorem jl_L_268 : Cond.methodLink RL 268 mL_worth.1 ∈ lw_tbl := jw_in 1264 (by decide +kernel)
theorem jl_L_270 : Cond.methodLink RL 270 mX12_worth.1 ∈ lw_tbl := jw_in 2028 (by decide +kernel)
theorem jl_L_271 : Cond.methodLink RL 271 mL_pillar.1 ∈ lw_tbl := jw_in 1276 (by decide +kernel)
theorem jl_L_273 : Cond.methodLink RL 273 mX12_pillar.1 ∈ lw_tbl := jw_in 2036 (by decide +kernel)
theorem jl_L_274 : Cond.methodLink RL 274 mL_seen.1 ∈ lw_tbl := jw_in 1283 (by decide +kernel)
theorem jl_L_276 : Cond.methodLink RL 276 mX12_seen.1 ∈ lw_tbl := jw_in 2040 (by decide +kernel)
theorem jl_L_277 : Cond.methodLink RL 277 mL_hidden.1 ∈ lw_tbl := jw_in 1314 (by decide +kernel)
theorem jl_L_279 : Cond.methodLink RL 279 mX12_hidden.1 ∈ lw_tbl := jw_in 2057 (by decide +kernel)
theorem jl_L_280 : Cond.methodLink RL 280 mL_look.1 ∈ lw_tbl := jw_in 1322 (by decide +kernel)
theorem jl_L_282 : Cond.methodLink RL 282 mX12_look.1 ∈ lw_tbl := jw_in 2061 (by decide +kernel)
theorem jl_L_283 : Cond.methodLink RL 283 mL_tray.1 ∈ lw_tbl := jw_in 1343 (by decide +kernel)
theorem jl_L_286 : Cond.methodLink RL 286 mX12_tray.1 ∈ lw_tbl := jw_in 2069 (by decide +kernel)
theorem jl_L_289 : Cond.methodLink RL 289 mL_write.1 ∈ lw_tbl := jw_in 1355 (by decide +kernel)
theorem jl_L_292 : Cond.methodLink RL 292 mX12_write.1 ∈ lw_tbl := jw_in 2073 (by decide +kernel)
theorem jl_L_293 : Cond.methodLink RL 293 mL_copy.1 ∈ lw_tbl := jw_in 1387 (by decide +kernel)
theorem jl_L_295 : Cond.methodLink RL 295 mX12_copy.1 ∈ lw_tbl := jw_in 2081 (by decide +kernel)
theorem jl_L_296 : Cond.methodLink RL 296 mL_image.1 ∈ lw_tbl := jw_in 1394 (by decide +kernel)
theorem jl_L_299 : Cond.methodLink RL 299 mX12_image.1 ∈ lw_tbl := jw_in 2085 (by decide +kernel)
theorem jl_L_300 : Cond.methodLink RL 300 mL_restore.1 ∈ lw_tbl := jw_in 1410 (by decide +kernel)
theorem jl_L_302 : Cond.methodLink RL 302 mX12_restore.1 ∈ lw_tbl := jw_in 2089 (by decide +kernel)
theorem jl_L_303 : Cond.methodLink RL 303 mX11_count.1 ∈ lw_tbl := jw_in 572 (by decide +kernel)
theorem jl_L_306 : Cond.methodLink RL 306 mX12_count.1 ∈ lw_tbl := jw_in 2093 (by decide +kernel)
section LCS0
variable {g : jG} {hs : jH} {H : jH} {o L j : Nat} {xs : Nat → Int32} {ω : CW} {μ : MW}
theorem cs_0 (hN : jnc g) (hL : L ≤ 3072) (hj : 6 * j + 6 ≤ L) (I : LI g L xs o j H ω μ) (K : ∀ H' ω' ν, LNx g L xs o (j + 1) H' ω' ν → J g mL_law 121 hs PL 2959 (lvL g o (nI (6 * j))) [] (lh g H' o ω' ν)) : J g mL_law 121 hs PL 240 (lvL g o (nI (6 * j))) [] (lh g H o ω μ) := by
  obtain ⟨e, eL, he⟩ := I.tape
  refine jr_aload_n 3 dL_law_240 rfl rfl ?_
  refine js_ld (c := 1) 4 0 rfl (by omega) hL I.1.sc dL_law_241 dL_law_242 dL_law_244 dL_law_245 dL_law_246 rfl rfl ?_
  refine js_ld (c := 2) 4 0 rfl (by omega) hL I.1.sc dL_law_247 dL_law_248 dL_law_250 dL_law_251 dL_law_252 rfl rfl ?_
  refine js_ld (c := 3) 4 0 rfl (by omega) hL I.1.sc dL_law_253 dL_law_254 dL_law_256 dL_law_257 dL_law_258 rfl rfl ?_
  refine js_ld (c := 4) 4 0 rfl (by omega) hL I.1.sc dL_law_259 dL_law_260 dL_law_262 dL_law_263 dL_law_264 rfl rfl ?_
  refine js_ld (c := 5) 4 0 rfl (by omega) hL I.1.sc dL_law_265 dL_law_266 dL_law_268 dL_law_269 dL_law_270 rfl rfl ?_
  refine jr_cVi (As := [.int (xs (6 * j + 1)), .int (xs (6 * j + 2)), .int (xs (6 * j + 3)), .int (xs (6 * j + 4)), .int (xs (6 * j + 5))]) (st := []) jl_L_147 km_X11_feed rfl rfl dL_law_271 lh_co (Nat.le_of_ble_eq_true rfl) (Con.nx (cc_feed I eL he)) (fun k h' hk => ?_)
  obtain ⟨ek, ω1, s, rfl⟩ := hk
  refine jr_aload_n 2 dL_law_274 rfl rfl ?_
  refine js_ld (c := 1) 4 0 rfl (by omega) hL I.1.sc dL_law_275 dL_law_276 dL_law_278 dL_law_279 dL_law_280 rfl rfl ?_
  refine js_ld (c := 2) 4 0 rfl (by omega) hL I.1.sc dL_law_281 dL_law_282 dL_law_284 dL_law_285 dL_law_286 rfl rfl ?_
  refine js_ld (c := 3) 4 0 rfl (by omega) hL I.1.sc dL_law_287 dL_law_288 dL_law_290 dL_law_291 dL_law_292 rfl rfl ?_
  refine js_ld (c := 4) 4 0 rfl (by omega) hL I.1.sc dL_law_293 dL_law_294 dL_law_296 dL_law_297 dL_law_298 rfl rfl ?_
  refine js_ld (c := 5) 4 0 rfl (by omega) hL I.1.sc dL_law_299 dL_law_300 dL_law_302 dL_law_303 dL_law_304 rfl rfl ?_
  refine jr_cVi (As := [.int (xs (6 * j + 1)), .int (xs (6 * j + 2)), .int (xs (6 * j + 3)), .int (xs (6 * j + 4)), .int (xs (6 * j + 5))]) (st := [.int k]) jl_L_151 km_X12_feed rfl rfl dL_law_305 lh_mo (Nat.le_of_ble_eq_true rfl) (mc_i (fun h => v_feed (d := 80) I.2.1 eL he)) (fun r h' hr => ?_)
  obtain ⟨ν, q, rfl⟩ := hr
  exact jr_icmp_eq (tgt := 2959) dL_law_308 (by decide) (fun _ => K _ _ _ (I.nextk kx_feed HXt.rf I.1 s q.2.2)) (fun c => absurd (q.2.1 _ ek).symm c)
theorem cs_1 (hN : jnc g) (hL : L ≤ 3072) (hj : 6 * j + 6 ≤ L) (I : LI g L xs o j H ω μ) (K : ∀ H' ω' ν, LNx g L xs o (j + 1) H' ω' ν → J g mL_law 121 hs PL 2959 (lvL g o (nI (6 * j))) [] (lh g H' o ω' ν)) : J g mL_law 121 hs PL 313 (lvL g o (nI (6 * j))) [] (lh g H o ω μ) := by
  refine jr_aload_n 3 dL_law_313 rfl rfl ?_
  refine js_ld (c := 1) 4 0 rfl (by omega) hL I.1.sc dL_law_314 dL_law_315 dL_law_317 dL_law_318 dL_law_319 rfl rfl ?_
  refine jr_aload_n 1 dL_law_320 rfl rfl ?_
  refine jr_cXi (As := [.ref o, .int (xs (6 * j + 1)), .ref (o + 414)]) (st := []) jl_L_152 km_L_street rfl rfl dL_law_321 (Nat.le_of_ble_eq_true rfl) (Con.nx (cc_street hN I)) (fun k h' hk => ?_)
  obtain ⟨H1, ω1, rfl, B, fi⟩ := st_next I hk
  refine jr_istore (lv' := (5, .int k) :: lvL g o (nI (6 * j))) dL_law_324 (by decide) rfl ?_
  refine jr_aload_n 3 dL_law_326 rfl rfl ?_
  refine js_ld (c := 1) 5 1 rfl (by omega) hL B.sc dL_law_327 dL_law_328 dL_law_330 dL_law_331 dL_law_332 rfl rfl ?_
  refine jr_cVi (As := [.int (xs (6 * j + 1))]) (st := []) jl_L_157 km_X12_street rfl rfl dL_law_333 lh_mo (Nat.le_of_ble_eq_true rfl) (mc_i (fun h => v_street (d := 80) I.2.1)) (fun r h' hr => ?_)
  obtain ⟨ν, q, rfl⟩ := hr
  obtain ⟨e1, e2, ln⟩ := fi r ν q
  exact js_endI e1 e2 jl_L_158 dL_law_336 dL_law_338 dL_law_339 dL_law_342 dL_law_344 dL_law_349 dL_law_351 dL_law_354 dL_law_355 dL_law_356 dL_law_357 dL_law_359 dL_law_360 dL_law_361 dL_law_366 (by decide) (K _ _ _ (ln))
theorem cs_2 (hN : jnc g) (hL : L ≤ 3072) (hj : 6 * j + 6 ≤ L) (I : LI g L xs o j H ω μ) (K : ∀ H' ω' ν, LNx g L xs o (j + 1) H' ω' ν → J g mL_law 121 hs PL 2959 (lvL g o (nI (6 * j))) [] (lh g H' o ω' ν)) : J g mL_law 121 hs PL 369 (lvL g o (nI (6 * j))) [] (lh g H o ω μ) := by
  refine jr_aload_n 3 dL_law_369 rfl rfl ?_
  refine js_ld (c := 1) 4 0 rfl (by omega) hL I.1.sc dL_law_370 dL_law_371 dL_law_373 dL_law_374 dL_law_375 rfl rfl ?_
  refine jr_cVi (As := [.int (xs (6 * j + 1))]) (st := []) jl_L_162 km_X11_fault rfl rfl dL_law_376 lh_co (Nat.le_of_ble_eq_true rfl) (Con.nx (cc_fault I)) (fun k h' hk => ?_)
  obtain ⟨ek, ω1, s, rfl⟩ := hk
  refine jr_aload_n 2 dL_law_379 rfl rfl ?_
  refine js_ld (c := 1) 4 0 rfl (by omega) hL I.1.sc dL_law_380 dL_law_381 dL_law_383 dL_law_384 dL_law_385 rfl rfl ?_
  refine jr_cVi (As := [.int (xs (6 * j + 1))]) (st := [.int k]) jl_L_165 km_X12_fault rfl rfl dL_law_386 lh_mo (Nat.le_of_ble_eq_true rfl) (mc_i (fun h => v_fault (d := 80) I.2.1)) (fun r h' hr => ?_)
  obtain ⟨ν, q, rfl⟩ := hr
  exact jr_icmp_eq (tgt := 2959) dL_law_389 (by decide) (fun _ => K _ _ _ (I.nextk kpx.rf HXt.rf I.1 s q.2.2)) (fun c => absurd (q.2.1 _ ek).symm c)
theorem cs_3 (hN : jnc g) (hL : L ≤ 3072) (hj : 6 * j + 6 ≤ L) (I : LI g L xs o j H ω μ) (K : ∀ H' ω' ν, LNx g L xs o (j + 1) H' ω' ν → J g mL_law 121 hs PL 2959 (lvL g o (nI (6 * j))) [] (lh g H' o ω' ν)) : J g mL_law 121 hs PL 394 (lvL g o (nI (6 * j))) [] (lh g H o ω μ) := by
  refine jr_aload_n 3 dL_law_394 rfl rfl ?_
  refine js_ld (c := 1) 4 0 rfl (by omega) hL I.1.sc dL_law_395 dL_law_396 dL_law_398 dL_law_399 dL_law_400 rfl rfl ?_
  refine js_ld (c := 2) 4 0 rfl (by omega) hL I.1.sc dL_law_401 dL_law_402 dL_law_404 dL_law_405 dL_law_406 rfl rfl ?_
  refine jr_aload_n 1 dL_law_407 rfl rfl ?_
  refine jr_cXi (As := [.ref o, .int (xs (6 * j + 1)), .int (xs (6 * j + 2)), .ref (o + 414)]) (st := []) jl_L_166 km_L_house rfl rfl dL_law_408 (Nat.le_of_ble_eq_true rfl) (Con.nx (cc_house hN I)) (fun k h' hk => ?_)
  obtain ⟨A, ω', ⟨rfl, rfl⟩, ek, H1, ω1, s, X, B, rfl, D⟩ := hk
  refine jr_istore (lv' := (5, .int k) :: lvL g o (nI (6 * j))) dL_law_411 (by decide) rfl ?_
  refine jr_aload_n 3 dL_law_413 rfl rfl ?_
  refine js_ld (c := 1) 5 1 rfl (by omega) hL B.sc dL_law_414 dL_law_415 dL_law_417 dL_law_418 dL_law_419 rfl rfl ?_
  refine js_ld (c := 2) 5 1 rfl (by omega) hL B.sc dL_law_420 dL_law_421 dL_law_423 dL_law_424 dL_law_425 rfl rfl ?_
  refine jr_cVi (As := [.int (xs (6 * j + 1)), .int (xs (6 * j + 2))]) (st := []) jl_L_169 km_X12_house rfl rfl dL_law_426 lh_mo (Nat.le_of_ble_eq_true rfl) (mc_i (fun h => v_house (d := 80) I.2.1)) (fun r h' hr => ?_)
  obtain ⟨ν, q, rfl⟩ := hr
  obtain ⟨e1, e2⟩ := fi_a (by decide) ek q D
  exact js_endI e1 e2 jl_L_158 dL_law_429 dL_law_431 dL_law_432 dL_law_435 dL_law_437 dL_law_442 dL_law_444 dL_law_447 dL_law_448 dL_law_449 dL_law_450 dL_law_452 dL_law_453 dL_law_454 dL_law_459 (by decide) (K _ _ _ (I.nextk kpx.rf X B s q.2.2))
theorem cs_4 (hN : jnc g) (hL : L ≤ 3072) (hj : 6 * j + 6 ≤ L) (I : LI g L xs o j H ω μ) (K : ∀ H' ω' ν, LNx g L xs o (j + 1) H' ω' ν → J g mL_law 121 hs PL 2959 (lvL g o (nI (6 * j))) [] (lh g H' o ω' ν)) : J g mL_law 121 hs PL 462 (lvL g o (nI (6 * j))) [] (lh g H o ω μ) := by
  refine jr_aload_n 3 dL_law_462 rfl rfl ?_
  refine js_ld (c := 1) 4 0 rfl (by omega) hL I.1.sc dL_law_463 dL_law_464 dL_law_466 dL_law_467 dL_law_468 rfl rfl ?_
  refine js_ld (c := 2) 4 0 rfl (by omega) hL I.1.sc dL_law_469 dL_law_470 dL_law_472 dL_law_473 dL_law_474 rfl rfl ?_
  refine jr_aload_n 1 dL_law_475 rfl rfl ?_
  refine jr_cXi (As := [.ref o, .int (xs (6 * j + 1)), .int (xs (6 * j + 2)), .ref (o + 414)]) (st := []) jl_L_170 km_L_household rfl rfl dL_law_476 (Nat.le_of_ble_eq_true rfl) (Con.nx (cc_household hN I)) (fun k h' hk => ?_)
  obtain ⟨A, ω', ⟨rfl, rfl⟩, ek, H1, ω1, s, X, B, rfl, D⟩ := hk
  refine jr_istore (lv' := (5, .int k) :: lvL g o (nI (6 * j))) dL_law_479 (by decide) rfl ?_
  refine jr_aload_n 3 dL_law_481 rfl rfl ?_
  refine js_ld (c := 1) 5 1 rfl (by omega) hL B.sc dL_law_482 dL_law_483 dL_law_485 dL_law_486 dL_law_487 rfl rfl ?_
  refine js_ld (c := 2) 5 1 rfl (by omega) hL B.sc dL_law_488 dL_law_489 dL_law_491 dL_law_492 dL_law_493 rfl rfl ?_
  refine jr_cVi (As := [.int (xs (6 * j + 1)), .int (xs (6 * j + 2))]) (st := []) jl_L_172 km_X12_household rfl rfl dL_law_494 lh_mo (Nat.le_of_ble_eq_true rfl) (mc_i (fun h => v_household (d := 80) I.2.1)) (fun r h' hr => ?_)
  obtain ⟨ν, q, rfl⟩ := hr
  obtain ⟨e1, e2⟩ := fi_a (by decide) ek q D
  exact js_endI e1 e2 jl_L_158 dL_law_497 dL_law_499 dL_law_500 dL_law_503 dL_law_505 dL_law_510 dL_law_512 dL_law_515 dL_law_516 dL_law_517 dL_law_518 dL_law_520 dL_law_521 dL_law_522 dL_law_527 (by decide) (K _ _ _ (I.nextk kpx.rf X B s q.2.2))
theorem cs_5 (hN : jnc g) (hL : L ≤ 3072) (hj : 6 * j + 6 ≤ L) (I : LI g L xs o j H ω μ) (K : ∀ H' ω' ν, LNx g L xs o (j + 1) H' ω' ν → J g mL_law 121 hs PL 2959 (lvL g o (nI (6 * j))) [] (lh g H' o ω' ν)) : J g mL_law 121 hs PL 530 (lvL g o (nI (6 * j))) [] (lh g H o ω μ) := by
  refine jr_aload_n 3 dL_law_530 rfl rfl ?_
  refine js_ld (c := 1) 4 0 rfl (by omega) hL I.1.sc dL_law_531 dL_law_532 dL_law_534 dL_law_535 dL_law_536 rfl rfl ?_
  refine jr_aload_n 1 dL_law_537 rfl rfl ?_
  refine jr_cXi (As := [.ref o, .int (xs (6 * j + 1)), .ref (o + 414)]) (st := []) jl_L_173 km_L_pays rfl rfl dL_law_538 (Nat.le_of_ble_eq_true rfl) (Con.nx (cc_pays hN I)) (fun k h' hk => ?_)
  obtain ⟨A, ω', ⟨rfl, rfl⟩, ek, H1, ω1, s, X, B, rfl, D⟩ := hk
  refine jr_istore (lv' := (5, .int k) :: lvL g o (nI (6 * j))) dL_law_541 (by decide) rfl ?_
  refine jr_aload_n 3 dL_law_543 rfl rfl ?_
  refine js_ld (c := 1) 5 1 rfl (by omega) hL B.sc dL_law_544 dL_law_545 dL_law_547 dL_law_548 dL_law_549 rfl rfl ?_
  refine jr_cVi (As := [.int (xs (6 * j + 1))]) (st := []) jl_L_175 km_X12_pays rfl rfl dL_law_550 lh_mo (Nat.le_of_ble_eq_true rfl) (mc_i (fun h => v_pays (d := 80) I.2.1)) (fun r h' hr => ?_)
  obtain ⟨ν, q, rfl⟩ := hr
  obtain ⟨e1, e2⟩ := fi_a (by decide) ek q D
  exact js_endI e1 e2 jl_L_158 dL_law_553 dL_law_555 dL_law_556 dL_law_559 dL_law_561 dL_law_566 dL_law_568 dL_law_571 dL_law_572 dL_law_573 dL_law_574 dL_law_576 dL_law_577 dL_law_578 dL_law_583 (by decide) (K _ _ _ (I.nextk kpx.rf X B s q.2.2))
theorem cs_6 (hN : jnc g) (hL : L ≤ 3072) (hj : 6 * j + 6 ≤ L) (I : LI g L xs o j H ω μ) (K : ∀ H' ω' ν, LNx g L xs o (j + 1) H' ω' ν → J g mL_law 121 hs PL 2959 (lvL g o (nI (6 * j))) [] (lh g H' o ω' ν)) : J g mL_law 121 hs PL 586 (lvL g o (nI (6 * j))) [] (lh g H o ω μ) := by
  refine jr_aload_n 3 dL_law_586 rfl rfl ?_
  refine js_ld (c := 1) 4 0 rfl (by omega) hL I.1.sc dL_law_587 dL_law_588 dL_law_590 dL_law_591 dL_law_592 rfl rfl ?_
  refine js_ld (c := 2) 4 0 rfl (by omega) hL I.1.sc dL_law_593 dL_law_594 dL_law_596 dL_law_597 dL_law_598 rfl rfl ?_
  refine jr_aload_n 1 dL_law_599 rfl rfl ?_
  refine jr_cXi (As := [.ref o, .int (xs (6 * j + 1)), .int (xs (6 * j + 2)), .ref (o + 414)]) (st := []) jl_L_176 km_L_grows rfl rfl dL_law_600 (Nat.le_of_ble_eq_true rfl) (Con.nx (cc_grows hN I)) (fun k h' hk => ?_)
  obtain ⟨A, ω', ⟨rfl, rfl⟩, ek, H1, ω1, s, X, B, rfl, D⟩ := hk
  refine jr_istore (lv' := (5, .int k) :: lvL g o (nI (6 * j))) dL_law_603 (by decide) rfl ?_
  refine jr_aload_n 3 dL_law_605 rfl rfl ?_
  refine js_ld (c := 1) 5 1 rfl (by omega) hL B.sc dL_law_606 dL_law_607 dL_law_609 dL_law_610 dL_law_611 rfl rfl ?_
  refine js_ld (c := 2) 5 1 rfl (by omega) hL B.sc dL_law_612 dL_law_613 dL_law_615 dL_law_616 dL_law_617 rfl rfl ?_
  refine jr_cVi (As := [.int (xs (6 * j + 1)), .int (xs (6 * j + 2))]) (st := []) jl_L_178 km_X12_grows rfl rfl dL_law_618 lh_mo (Nat.le_of_ble_eq_true rfl) (mc_i (fun h => v_grows (d := 80) I.2.1)) (fun r h' hr => ?_)
  obtain ⟨ν, q, rfl⟩ := hr
  obtain ⟨e1, e2⟩ := fi_a (by decide) ek q D
  exact js_endI e1 e2 jl_L_158 dL_law_621 dL_law_623 dL_law_624 dL_law_627 dL_law_629 dL_law_634 dL_law_636 dL_law_639 dL_law_640 dL_law_641 dL_law_642 dL_law_644 dL_law_645 dL_law_646 dL_law_651 (by decide) (K _ _ _ (I.nextk kpx.rf X B s q.2.2))
theorem cs_7 (hN : jnc g) (hL : L ≤ 3072) (hj : 6 * j + 6 ≤ L) (I : LI g L xs o j H ω μ) (K : ∀ H' ω' ν, LNx g L xs o (j + 1) H' ω' ν → J g mL_law 121 hs PL 2959 (lvL g o (nI (6 * j))) [] (lh g H' o ω' ν)) : J g mL_law 121 hs PL 654 (lvL g o (nI (6 * j))) [] (lh g H o ω μ) := by
  refine jr_aload_n 3 dL_law_654 rfl rfl ?_
  refine js_ld (c := 1) 4 0 rfl (by omega) hL I.1.sc dL_law_655 dL_law_656 dL_law_658 dL_law_659 dL_law_660 rfl rfl ?_
  refine js_ld (c := 2) 4 0 rfl (by omega) hL I.1.sc dL_law_661 dL_law_662 dL_law_664 dL_law_665 dL_law_666 rfl rfl ?_
  refine jr_aload_n 1 dL_law_667 rfl rfl ?_
  refine jr_cXi (As := [.ref o, .int (xs (6 * j + 1)), .int (xs (6 * j + 2)), .ref (o + 414)]) (st := []) jl_L_179 km_L_takes rfl rfl dL_law_668 (Nat.le_of_ble_eq_true rfl) (Con.nx (cc_takes hN I)) (fun k h' hk => ?_)
  obtain ⟨A, ω', ⟨rfl, rfl⟩, ek, H1, ω1, s, X, B, rfl, D⟩ := hk
  refine jr_istore (lv' := (5, .int k) :: lvL g o (nI (6 * j))) dL_law_671 (by decide) rfl ?_
  refine jr_aload_n 3 dL_law_673 rfl rfl ?_
  refine js_ld (c := 1) 5 1 rfl (by omega) hL B.sc dL_law_674 dL_law_675 dL_law_677 dL_law_678 dL_law_679 rfl rfl ?_
  refine js_ld (c := 2) 5 1 rfl (by omega) hL B.sc dL_law_680 dL_law_681 dL_law_683 dL_law_684 dL_law_685 rfl rfl ?_
  refine jr_cVi (As := [.int (xs (6 * j + 1)), .int (xs (6 * j + 2))]) (st := []) jl_L_181 km_X12_takes rfl rfl dL_law_686 lh_mo (Nat.le_of_ble_eq_true rfl) (mc_i (fun h => v_takes (d := 80) I.2.1)) (fun r h' hr => ?_)
  obtain ⟨ν, q, rfl⟩ := hr
  obtain ⟨e1, e2⟩ := fi_a (by decide) ek q D
  exact js_endZ e1 e2 jl_L_158 dL_law_689 dL_law_691 dL_law_692 dL_law_695 dL_law_697 dL_law_702 dL_law_704 dL_law_707 dL_law_708 dL_law_709 dL_law_710 dL_law_712 dL_law_715 dL_law_716 dL_law_719 dL_law_720 dL_law_721 dL_law_726 (by decide) (K _ _ _ (I.nextk kpx.rf X B s q.2.2))
theorem cs_8 (hN : jnc g) (hL : L ≤ 3072) (hj : 6 * j + 6 ≤ L) (I : LI g L xs o j H ω μ) (K : ∀ H' ω' ν, LNx g L xs o (j + 1) H' ω' ν → J g mL_law 121 hs PL 2959 (lvL g o (nI (6 * j))) [] (lh g H' o ω' ν)) : J g mL_law 121 hs PL 729 (lvL g o (nI (6 * j))) [] (lh g H o ω μ) := by
  refine jr_aload_n 3 dL_law_729 rfl rfl ?_
  refine js_ld (c := 1) 4 0 rfl (by omega) hL I.1.sc dL_law_730 dL_law_731 dL_law_733 dL_law_734 dL_law_735 rfl rfl ?_
  refine js_ld (c := 2) 4 0 rfl (by omega) hL I.1.sc dL_law_736 dL_law_737 dL_law_739 dL_law_740 dL_law_741 rfl rfl ?_
  refine jr_cVi (As := [.int (xs (6 * j + 1)), .int (xs (6 * j + 2))]) (st := []) jl_L_182 km_X11_swap rfl rfl dL_law_742 lh_co (Nat.le_of_ble_eq_true rfl) (Con.nx (cc_swap I)) (fun k h' hk => ?_)
  obtain ⟨ek, ω1, s, rfl⟩ := hk
  refine jr_aload_n 2 dL_law_745 rfl rfl ?_
  refine js_ld (c := 1) 4 0 rfl (by omega) hL I.1.sc dL_law_746 dL_law_747 dL_law_749 dL_law_750 dL_law_751 rfl rfl ?_
  refine js_ld (c := 2) 4 0 rfl (by omega) hL I.1.sc dL_law_752 dL_law_753 dL_law_755 dL_law_756 dL_law_757 rfl rfl ?_
  refine jr_cVi (As := [.int (xs (6 * j + 1)), .int (xs (6 * j + 2))]) (st := [.int k]) jl_L_185 km_X12_swap rfl rfl dL_law_758 lh_mo (Nat.le_of_ble_eq_true rfl) (mc_i (fun h => v_swap (d := 80) I.2.1)) (fun r h' hr => ?_)
  obtain ⟨ν, q, rfl⟩ := hr
  exact jr_icmp_eq (tgt := 2959) dL_law_761 (by decide) (fun _ => K _ _ _ (I.nextk kx_swap HXt.rf I.1 s q.2.2)) (fun c => absurd (q.2.1 _ ek).symm c)
theorem cs_9 (hN : jnc g) (hL : L ≤ 3072) (hj : 6 * j + 6 ≤ L) (I : LI g L xs o j H ω μ) (K : ∀ H' ω' ν, LNx g L xs o (j + 1) H' ω' ν → J g mL_law 121 hs PL 2959 (lvL g o (nI (6 * j))) [] (lh g H' o ω' ν)) : J g mL_law 121 hs PL 766 (lvL g o (nI (6 * j))) [] (lh g H o ω μ) := by
  refine jr_aload_n 3 dL_law_766 rfl rfl ?_
  refine js_ld (c := 1) 4 0 rfl (by omega) hL I.1.sc dL_law_767 dL_law_768 dL_law_770 dL_law_771 dL_law_772 rfl rfl ?_
  refine js_ld (c := 2) 4 0 rfl (by omega) hL I.1.sc dL_law_773 dL_law_774 dL_law_776 dL_law_777 dL_law_778 rfl rfl ?_
  refine js_ld (c := 3) 4 0 rfl (by omega) hL I.1.sc dL_law_779 dL_law_780 dL_law_782 dL_law_783 dL_law_784 rfl rfl ?_
  refine jr_cVi (As := [.int (xs (6 * j + 1)), .int (xs (6 * j + 2)), .int (xs (6 * j + 3))]) (st := []) jl_L_186 km_X11_gift rfl rfl dL_law_785 lh_co (Nat.le_of_ble_eq_true rfl) (Con.nx (cc_gift I)) (fun k h' hk => ?_)
  obtain ⟨ek, ω1, s, rfl⟩ := hk
  refine jr_aload_n 2 dL_law_788 rfl rfl ?_
  refine js_ld (c := 1) 4 0 rfl (by omega) hL I.1.sc dL_law_789 dL_law_790 dL_law_792 dL_law_793 dL_law_794 rfl rfl ?_
  refine js_ld (c := 2) 4 0 rfl (by omega) hL I.1.sc dL_law_795 dL_law_796 dL_law_798 dL_law_799 dL_law_800 rfl rfl ?_
  refine js_ld (c := 3) 4 0 rfl (by omega) hL I.1.sc dL_law_801 dL_law_802 dL_law_804 dL_law_805 dL_law_806 rfl rfl ?_
  refine jr_cVi (As := [.int (xs (6 * j + 1)), .int (xs (6 * j + 2)), .int (xs (6 * j + 3))]) (st := [.int k]) jl_L_189 km_X12_gift rfl rfl dL_law_807 lh_mo (Nat.le_of_ble_eq_true rfl) (mc_i (fun h => v_gift (d := 80) I.2.1)) (fun r h' hr => ?_)
  obtain ⟨ν, q, rfl⟩ := hr
  exact jr_icmp_eq (tgt := 2959) dL_law_810 (by decide) (fun _ => K _ _ _ (I.nextk kx_gift HXt.rf I.1 s q.2.2)) (fun c => absurd (q.2.1 _ ek).symm c)
theorem cs_10 (hN : jnc g) (hL : L ≤ 3072) (hj : 6 * j + 6 ≤ L) (I : LI g L xs o j H ω μ) (K : ∀ H' ω' ν, LNx g L xs o (j + 1) H' ω' ν → J g mL_law 121 hs PL 2959 (lvL g o (nI (6 * j))) [] (lh g H' o ω' ν)) : J g mL_law 121 hs PL 815 (lvL g o (nI (6 * j))) [] (lh g H o ω μ) := by
  refine jr_aload_n 3 dL_law_815 rfl rfl ?_
  refine js_ld (c := 1) 4 0 rfl (by omega) hL I.1.sc dL_law_816 dL_law_817 dL_law_819 dL_law_820 dL_law_821 rfl rfl ?_
  refine js_ld (c := 2) 4 0 rfl (by omega) hL I.1.sc dL_law_822 dL_law_823 dL_law_825 dL_law_826 dL_law_827 rfl rfl ?_
  refine jr_aload_n 1 dL_law_828 rfl rfl ?_
  refine jr_cXi (As := [.ref o, .int (xs (6 * j + 1)), .int (xs (6 * j + 2)), .ref (o + 414)]) (st := []) jl_L_190 km_L_plant rfl rfl dL_law_829 (Nat.le_of_ble_eq_true rfl) (Con.nx (cc_plant hN I)) (fun k h' hk => ?_)
  obtain ⟨A, ω', ⟨rfl, rfl⟩, ek, H1, ω1, s, X, B, rfl, D⟩ := hk
  refine jr_istore (lv' := (5, .int k) :: lvL g o (nI (6 * j))) dL_law_832 (by decide) rfl ?_
  refine jr_aload_n 3 dL_law_834 rfl rfl ?_
  refine js_ld (c := 1) 5 1 rfl (by omega) hL B.sc dL_law_835 dL_law_836 dL_law_838 dL_law_839 dL_law_840 rfl rfl ?_
  refine js_ld (c := 2) 5 1 rfl (by omega) hL B.sc dL_law_841 dL_law_842 dL_law_844 dL_law_845 dL_law_846 rfl rfl ?_
  refine jr_cVi (As := [.int (xs (6 * j + 1)), .int (xs (6 * j + 2))]) (st := []) jl_L_192 km_X12_plant rfl rfl dL_law_847 lh_mo (Nat.le_of_ble_eq_true rfl) (mc_i (fun h => v_plant (d := 80) I.2.1)) (fun r h' hr => ?_)
  obtain ⟨ν, q, rfl⟩ := hr
  obtain ⟨e1, e2⟩ := fi_a (by decide) ek q D
  exact js_endI e1 e2 jl_L_158 dL_law_850 dL_law_852 dL_law_853 dL_law_856 dL_law_858 dL_law_863 dL_law_865 dL_law_868 dL_law_869 dL_law_870 dL_law_871 dL_law_873 dL_law_874 dL_law_875 dL_law_880 (by decide) (K _ _ _ (I.nextk kx_plant X B s q.2.2))
theorem cs_11 (hN : jnc g) (hL : L ≤ 3072) (hj : 6 * j + 6 ≤ L) (I : LI g L xs o j H ω μ) (K : ∀ H' ω' ν, LNx g L xs o (j + 1) H' ω' ν → J g mL_law 121 hs PL 2959 (lvL g o (nI (6 * j))) [] (lh g H' o ω' ν)) : J g mL_law 121 hs PL 883 (lvL g o (nI (6 * j))) [] (lh g H o ω μ) := by
  refine jr_aload_n 3 dL_law_883 rfl rfl ?_
  refine js_ld (c := 1) 4 0 rfl (by omega) hL I.1.sc dL_law_884 dL_law_885 dL_law_887 dL_law_888 dL_law_889 rfl rfl ?_
  refine js_ld (c := 2) 4 0 rfl (by omega) hL I.1.sc dL_law_890 dL_law_891 dL_law_893 dL_law_894 dL_law_895 rfl rfl ?_
  refine jr_cVi (As := [.int (xs (6 * j + 1)), .int (xs (6 * j + 2))]) (st := []) jl_L_193 km_X11_payOff rfl rfl dL_law_896 lh_co (Nat.le_of_ble_eq_true rfl) (Con.nx (cc_payOff I)) (fun k h' hk => ?_)
  obtain ⟨ek, ω1, s, rfl⟩ := hk
  refine jr_aload_n 2 dL_law_899 rfl rfl ?_
  refine js_ld (c := 1) 4 0 rfl (by omega) hL I.1.sc dL_law_900 dL_law_901 dL_law_903 dL_law_904 dL_law_905 rfl rfl ?_
  refine js_ld (c := 2) 4 0 rfl (by omega) hL I.1.sc dL_law_906 dL_law_907 dL_law_909 dL_law_910 dL_law_911 rfl rfl ?_
  refine jr_cVi (As := [.int (xs (6 * j + 1)), .int (xs (6 * j + 2))]) (st := [.int k]) jl_L_196 km_X12_payOff rfl rfl dL_law_912 lh_mo (Nat.le_of_ble_eq_true rfl) (mc_i (fun h => v_payOff (d := 80) I.2.1)) (fun r h' hr => ?_)
  obtain ⟨ν, q, rfl⟩ := hr
  exact jr_icmp_eq (tgt := 2959) dL_law_915 (by decide) (fun _ => K _ _ _ (I.nextk kx_payOff HXt.rf I.1 s q.2.2)) (fun c => absurd (q.2.1 _ ek).symm c)
theorem cs_12 (hN : jnc g) (hL : L ≤ 3072) (hj : 6 * j + 6 ≤ L) (I : LI g L xs o j H ω μ) (K : ∀ H' ω' ν, LNx g L xs o (j + 1) H' ω' ν → J g mL_law 121 hs PL 2959 (lvL g o (nI (6 * j))) [] (lh g H' o ω' ν)) : J g mL_law 121 hs PL 920 (lvL g o (nI (6 * j))) [] (lh g H o ω μ) := by
  refine jr_aload_n 3 dL_law_920 rfl rfl ?_
  refine js_ld (c := 1) 4 0 rfl (by omega) hL I.1.sc dL_law_921 dL_law_922 dL_law_924 dL_law_925 dL_law_926 rfl rfl ?_
  refine jr_aload_n 1 dL_law_927 rfl rfl ?_
  refine jr_cXi (As := [.ref o, .int (xs (6 * j + 1)), .ref (o + 414)]) (st := []) jl_L_197 km_L_quarters rfl rfl dL_law_928 (Nat.le_of_ble_eq_true rfl) (Con.nx (cc_quarters hN I)) (fun k h' hk => ?_)
  obtain ⟨A, ω', ⟨rfl, rfl⟩, ek, H1, ω1, s, X, B, rfl, D⟩ := hk
  refine jr_istore (lv' := (5, .int k) :: lvL g o (nI (6 * j))) dL_law_931 (by decide) rfl ?_
  refine jr_aload_n 3 dL_law_933 rfl rfl ?_
  refine js_ld (c := 1) 5 1 rfl (by omega) hL B.sc dL_law_934 dL_law_935 dL_law_937 dL_law_938 dL_law_939 rfl rfl ?_
  refine jr_cVi (As := [.int (xs (6 * j + 1))]) (st := []) jl_L_199 km_X12_quarters rfl rfl dL_law_940 lh_mo (Nat.le_of_ble_eq_true rfl) (mc_i (fun h => v_quarters (d := 80) I.2.1)) (fun r h' hr => ?_)
  obtain ⟨ν, q, rfl⟩ := hr
  obtain ⟨e1, e2⟩ := fi_a (by decide) ek q D
  exact js_endI e1 e2 jl_L_158 dL_law_943 dL_law_945 dL_law_946 dL_law_949 dL_law_951 dL_law_956 dL_law_958 dL_law_961 dL_law_962 dL_law_963 dL_law_964 dL_law_966 dL_law_967 dL_law_968 dL_law_973 (by decide) (K _ _ _ (I.nextk kx_quarters X B s q.2.2))
theorem cs_13 (hN : jnc g) (hL : L ≤ 3072) (hj : 6 * j + 6 ≤ L) (I : LI g L xs o j H ω μ) (K : ∀ H' ω' ν, LNx g L xs o (j + 1) H' ω' ν → J g mL_law 121 hs PL 2959 (lvL g o (nI (6 * j))) [] (lh g H' o ω' ν)) : J g mL_law 121 hs PL 976 (lvL g o (nI (6 * j))) [] (lh g H o ω μ) := by
  refine jr_aload_n 3 dL_law_976 rfl rfl ?_
  refine js_ld (c := 1) 4 0 rfl (by omega) hL I.1.sc dL_law_977 dL_law_978 dL_law_980 dL_law_981 dL_law_982 rfl rfl ?_
  refine jr_aload_n 1 dL_law_983 rfl rfl ?_
  refine jr_cXi (As := [.ref o, .int (xs (6 * j + 1)), .ref (o + 414)]) (st := []) jl_L_200 km_L_undo rfl rfl dL_law_984 (Nat.le_of_ble_eq_true rfl) (Con.nx (cc_undo hN I)) (fun k h' hk => ?_)
  obtain ⟨A, ω', ⟨rfl, rfl⟩, ek, H1, ω1, s, X, B, rfl, D⟩ := hk
  refine jr_istore (lv' := (5, .int k) :: lvL g o (nI (6 * j))) dL_law_987 (by decide) rfl ?_
  refine jr_aload_n 3 dL_law_989 rfl rfl ?_
  refine js_ld (c := 1) 5 1 rfl (by omega) hL B.sc dL_law_990 dL_law_991 dL_law_993 dL_law_994 dL_law_995 rfl rfl ?_
  refine jr_cVi (As := [.int (xs (6 * j + 1))]) (st := []) jl_L_202 km_X12_undo rfl rfl dL_law_996 lh_mo (Nat.le_of_ble_eq_true rfl) (mc_i (fun h => v_undo (d := 80) I.2.1)) (fun r h' hr => ?_)
  obtain ⟨ν, q, rfl⟩ := hr
  obtain ⟨e1, e2⟩ := fi_a (by decide) ek q D
  exact js_endI e1 e2 jl_L_158 dL_law_999 dL_law_1001 dL_law_1002 dL_law_1005 dL_law_1007 dL_law_1012 dL_law_1014 dL_law_1017 dL_law_1018 dL_law_1019 dL_law_1020 dL_law_1022 dL_law_1023 dL_law_1024 dL_law_1029 (by decide) (K _ _ _ (I.nextk kx_undo X B s q.2.2))
theorem cs_14 (hN : jnc g) (hL : L ≤ 3072) (hj : 6 * j + 6 ≤ L) (I : LI g L xs o j H ω μ) (K : ∀ H' ω' ν, LNx g L xs o (j + 1) H' ω' ν → J g mL_law 121 hs PL 2959 (lvL g o (nI (6 * j))) [] (lh g H' o ω' ν)) : J g mL_law 121 hs PL 1032 (lvL g o (nI (6 * j))) [] (lh g H o ω μ) := by
  refine jr_aload_n 3 dL_law_1032 rfl rfl ?_
  refine js_ld (c := 1) 4 0 rfl (by omega) hL I.1.sc dL_law_1033 dL_law_1034 dL_law_1036 dL_law_1037 dL_law_1038 rfl rfl ?_
  refine js_ld (c := 2) 4 0 rfl (by omega) hL I.1.sc dL_law_1039 dL_law_1040 dL_law_1042 dL_law_1043 dL_law_1044 rfl rfl ?_
  refine jr_aload_n 1 dL_law_1045 rfl rfl ?_
  refine jr_cXi (As := [.ref o, .int (xs (6 * j + 1)), .int (xs (6 * j + 2)), .ref (o + 414)]) (st := []) jl_L_203 km_L_judge rfl rfl dL_law_1046 (Nat.le_of_ble_eq_true rfl) (Con.nx (cc_judge hN I)) (fun k h' hk => ?_)
  obtain ⟨A, ω', ⟨rfl, rfl⟩, ek, H1, ω1, s, X, B, rfl, D⟩ := hk
  refine jr_istore (lv' := (5, .int k) :: lvL g o (nI (6 * j))) dL_law_1049 (by decide) rfl ?_
  refine jr_aload_n 3 dL_law_1051 rfl rfl ?_
  refine js_ld (c := 1) 5 1 rfl (by omega) hL B.sc dL_law_1052 dL_law_1053 dL_law_1055 dL_law_1056 dL_law_1057 rfl rfl ?_
  refine js_ld (c := 2) 5 1 rfl (by omega) hL B.sc dL_law_1058 dL_law_1059 dL_law_1061 dL_law_1062 dL_law_1063 rfl rfl ?_
  refine jr_cVi (As := [.int (xs (6 * j + 1)), .int (xs (6 * j + 2))]) (st := []) jl_L_205 km_X12_judge rfl rfl dL_law_1064 lh_mo (Nat.le_of_ble_eq_true rfl) (mc_i (fun h => v_judge (d := 80) I.2.1)) (fun r h' hr => ?_)
  obtain ⟨ν, q, rfl⟩ := hr
  obtain ⟨e1, e2⟩ := fi_a (by decide) ek q D
  exact js_endI e1 e2 jl_L_158 dL_law_1067 dL_law_1069 dL_law_1070 dL_law_1073 dL_law_1075 dL_law_1080 dL_law_1082 dL_law_1085 dL_law_1086 dL_law_1087 dL_law_1088 dL_law_1090 dL_law_1091 dL_law_1092 dL_law_1097 (by decide) (K _ _ _ (I.nextk kpx.rf X B s q.2.2))
theorem cs_15 (hN : jnc g) (hL : L ≤ 3072) (hj : 6 * j + 6 ≤ L) (I : LI g L xs o j H ω μ) (K : ∀ H' ω' ν, LNx g L xs o (j + 1) H' ω' ν → J g mL_law 121 hs PL 2959 (lvL g o (nI (6 * j))) [] (lh g H' o ω' ν)) : J g mL_law 121 hs PL 1100 (lvL g o (nI (6 * j))) [] (lh g H o ω μ) := by
  refine jr_aload_n 3 dL_law_1100 rfl rfl ?_
  refine js_ld (c := 1) 4 0 rfl (by omega) hL I.1.sc dL_law_1101 dL_law_1102 dL_law_1104 dL_law_1105 dL_law_1106 rfl rfl ?_
  refine jr_aload_n 1 dL_law_1107 rfl rfl ?_
  refine jr_cXi (As := [.ref o, .int (xs (6 * j + 1)), .ref (o + 414)]) (st := []) jl_L_206 km_L_perform rfl rfl dL_law_1108 (Nat.le_of_ble_eq_true rfl) (Con.nx (cc_perform hN I)) (fun k h' hk => ?_)
  obtain ⟨A, ω', ⟨rfl, rfl⟩, ek, H1, ω1, s, X, B, rfl, D⟩ := hk
  refine jr_istore (lv' := (5, .int k) :: lvL g o (nI (6 * j))) dL_law_1111 (by decide) rfl ?_
  refine jr_aload_n 3 dL_law_1113 rfl rfl ?_
  refine js_ld (c := 1) 5 1 rfl (by omega) hL B.sc dL_law_1114 dL_law_1115 dL_law_1117 dL_law_1118 dL_law_1119 rfl rfl ?_
  refine jr_cVi (As := [.int (xs (6 * j + 1))]) (st := []) jl_L_208 km_X12_perform rfl rfl dL_law_1120 lh_mo (Nat.le_of_ble_eq_true rfl) (mc_i (fun h => v_perform (d := 80) I.2.1)) (fun r h' hr => ?_)
  obtain ⟨ν, q, rfl⟩ := hr
  obtain ⟨e1, e2⟩ := fi_a (by decide) ek q D
  exact js_endI e1 e2 jl_L_158 dL_law_1123 dL_law_1125 dL_law_1126 dL_law_1129 dL_law_1131 dL_law_1136 dL_law_1138 dL_law_1141 dL_law_1142 dL_law_1143 dL_law_1144 dL_law_1146 dL_law_1147 dL_law_1148 dL_law_1153 (by decide) (K _ _ _ (I.nextk kx_perform X B s q.2.2))
end LCS0

/-! ===== the law's loop (written by wip/whole/gen/lawloop.py) ===== -/
theorem nI_c (i c : Nat) : nI i + nI c = nI (i + c) := nI_add i c
section LL
variable {l : Launch} {G : zG} {i : Nat} {I : zIM} {L : zLM}
theorem lc_0 (hR : Rel I L) (hL : G.2.2.2.1 ≤ 3072) (hi : i + 6 ≤ G.2.2.2.1) (next : ∀ I' L', Rel I' L' → zWp (zXl l G) mL_law (69, 11636) 1382 [some (.ref 1000), some (.ref 0), some (.ref 44), some (.int (nI i))] [] (zs I' L')) : zWp (zXl l G) mL_law (69, 11636) 208 [some (.ref 1000), some (.ref 0), some (.ref 44), some (.int (nI i))] [] (zs I L) := by
  refine z_aload_n (pc' := 209) (x := 0) dL_law_208 rfl rfl ?_
  refine z_aload_n (pc' := 210) (x := 1000) dL_law_209 rfl rfl ?_
  refine z_iload_n (pc' := 211) (x := nI i) dL_law_210 rfl rfl ?_
  refine z_iconst (pc' := 212) (v := (1 : Int32)) dL_law_211 rfl (by decide) ?_
  refine z_iadd (pc' := 213) dL_law_212 rfl ?_
  refine z_sld (pc' := 214) (j := i + 1) dL_law_213 rfl (show G.2.2.2.1 < 2 ^ 31 by omega) (nI_c i 1) (show i + 1 < G.2.2.2.1 by omega) ?_
  refine z_aload_n (pc' := 215) (x := 1000) dL_law_214 rfl rfl ?_
  refine z_iload_n (pc' := 216) (x := nI i) dL_law_215 rfl rfl ?_
  refine z_iconst (pc' := 217) (v := (2 : Int32)) dL_law_216 rfl (by decide) ?_
  refine z_iadd (pc' := 218) dL_law_217 rfl ?_
  refine z_sld (pc' := 219) (j := i + 2) dL_law_218 rfl (show G.2.2.2.1 < 2 ^ 31 by omega) (nI_c i 2) (show i + 2 < G.2.2.2.1 by omega) ?_
  obtain ⟨P, h1, h2⟩ := s_player (l := l) (G := G) (G.2.2.2.2.1 (i + 1)) (G.2.2.2.2.1 (i + 2)) I L hR
  refine z_callV (pc' := 222) (M' := mX8_player) (As := [.int (G.2.2.2.2.1 (i + 1)), .int (G.2.2.2.2.1 (i + 2))]) (b := 0) (ci := 8) dL_law_219 rfl ml_L_13 me_X8_player h1 rfl (by decide) rfl rfl (Nat.le_of_ble_eq_true rfl) (Nat.le_of_ble_eq_true rfl) ⟨Nat.le_of_ble_eq_true rfl, Nat.le_of_ble_eq_true rfl⟩ rfl ?_
  rintro _ _ ⟨y, I1, L1, rfl, rfl, hP⟩
  refine z_aload_n (pc' := 223) (x := 44) dL_law_222 rfl rfl ?_
  refine z_aload_n (pc' := 224) (x := 1000) dL_law_223 rfl rfl ?_
  refine z_iload_n (pc' := 225) (x := nI i) dL_law_224 rfl rfl ?_
  refine z_iconst (pc' := 226) (v := (1 : Int32)) dL_law_225 rfl (by decide) ?_
  refine z_iadd (pc' := 227) dL_law_226 rfl ?_
  refine z_sld (pc' := 228) (j := i + 1) dL_law_227 rfl (show G.2.2.2.1 < 2 ^ 31 by omega) (nI_c i 1) (show i + 1 < G.2.2.2.1 by omega) ?_
  refine z_aload_n (pc' := 229) (x := 1000) dL_law_228 rfl rfl ?_
  refine z_iload_n (pc' := 230) (x := nI i) dL_law_229 rfl rfl ?_
  refine z_iconst (pc' := 231) (v := (2 : Int32)) dL_law_230 rfl (by decide) ?_
  refine z_iadd (pc' := 232) dL_law_231 rfl ?_
  refine z_sld (pc' := 233) (j := i + 2) dL_law_232 rfl (show G.2.2.2.1 < 2 ^ 31 by omega) (nI_c i 2) (show i + 2 < G.2.2.2.1 by omega) ?_
  refine z_callV (pc' := 236) (M' := mX9_player) (As := [.int (G.2.2.2.2.1 (i + 1)), .int (G.2.2.2.2.1 (i + 2))]) (b := 44) (ci := 9) dL_law_233 rfl ml_L_17 me_X9_player (h2 y I1 L1 hP) rfl (by decide) rfl rfl (Nat.le_of_ble_eq_true rfl) (Nat.le_of_ble_eq_true rfl) ⟨Nat.le_of_ble_eq_true rfl, Nat.le_of_ble_eq_true rfl⟩ rfl ?_
  rintro _ _ ⟨y2, I2, L2, rfl, rfl, rfl, hR2⟩
  exact z_icmp_eq (pc' := 239) (tgt := 1382) dL_law_236 rfl (by decide) (fun _ => next _ _ hR2) (fun c => absurd rfl c)
theorem lc_1 (hR : Rel I L) (hL : G.2.2.2.1 ≤ 3072) (hi : i + 6 ≤ G.2.2.2.1) (next : ∀ I' L', Rel I' L' → zWp (zXl l G) mL_law (69, 11636) 1382 [some (.ref 1000), some (.ref 0), some (.ref 44), some (.int (nI i))] [] (zs I' L')) : zWp (zXl l G) mL_law (69, 11636) 241 [some (.ref 1000), some (.ref 0), some (.ref 44), some (.int (nI i))] [] (zs I L) := by
  refine z_aload_n (pc' := 242) (x := 0) dL_law_241 rfl rfl ?_
  refine z_aload_n (pc' := 243) (x := 1000) dL_law_242 rfl rfl ?_
  refine z_iload_n (pc' := 244) (x := nI i) dL_law_243 rfl rfl ?_
  refine z_iconst (pc' := 245) (v := (1 : Int32)) dL_law_244 rfl (by decide) ?_
  refine z_iadd (pc' := 246) dL_law_245 rfl ?_
  refine z_sld (pc' := 247) (j := i + 1) dL_law_246 rfl (show G.2.2.2.1 < 2 ^ 31 by omega) (nI_c i 1) (show i + 1 < G.2.2.2.1 by omega) ?_
  refine z_aload_n (pc' := 248) (x := 1000) dL_law_247 rfl rfl ?_
  refine z_iload_n (pc' := 249) (x := nI i) dL_law_248 rfl rfl ?_
  refine z_iconst (pc' := 250) (v := (2 : Int32)) dL_law_249 rfl (by decide) ?_
  refine z_iadd (pc' := 251) dL_law_250 rfl ?_
  refine z_sld (pc' := 252) (j := i + 2) dL_law_251 rfl (show G.2.2.2.1 < 2 ^ 31 by omega) (nI_c i 2) (show i + 2 < G.2.2.2.1 by omega) ?_
  refine z_aload_n (pc' := 253) (x := 1000) dL_law_252 rfl rfl ?_
  refine z_iload_n (pc' := 254) (x := nI i) dL_law_253 rfl rfl ?_
  refine z_iconst (pc' := 255) (v := (3 : Int32)) dL_law_254 rfl (by decide) ?_
  refine z_iadd (pc' := 256) dL_law_255 rfl ?_
  refine z_sld (pc' := 257) (j := i + 3) dL_law_256 rfl (show G.2.2.2.1 < 2 ^ 31 by omega) (nI_c i 3) (show i + 3 < G.2.2.2.1 by omega) ?_
  obtain ⟨P, h1, h2⟩ := s_players (l := l) (G := G) (G.2.2.2.2.1 (i + 1)) (G.2.2.2.2.1 (i + 2)) (G.2.2.2.2.1 (i + 3)) I L hR
  refine z_callV (pc' := 260) (M' := mX8_players) (As := [.int (G.2.2.2.2.1 (i + 1)), .int (G.2.2.2.2.1 (i + 2)), .int (G.2.2.2.2.1 (i + 3))]) (b := 0) (ci := 8) dL_law_257 rfl ml_L_18 me_X8_players h1 rfl (by decide) rfl rfl (Nat.le_of_ble_eq_true rfl) (Nat.le_of_ble_eq_true rfl) ⟨Nat.le_of_ble_eq_true rfl, Nat.le_of_ble_eq_true rfl⟩ rfl ?_
  rintro _ _ ⟨y, I1, L1, rfl, rfl, hP⟩
  refine z_aload_n (pc' := 261) (x := 44) dL_law_260 rfl rfl ?_
  refine z_aload_n (pc' := 262) (x := 1000) dL_law_261 rfl rfl ?_
  refine z_iload_n (pc' := 263) (x := nI i) dL_law_262 rfl rfl ?_
  refine z_iconst (pc' := 264) (v := (1 : Int32)) dL_law_263 rfl (by decide) ?_
  refine z_iadd (pc' := 265) dL_law_264 rfl ?_
  refine z_sld (pc' := 266) (j := i + 1) dL_law_265 rfl (show G.2.2.2.1 < 2 ^ 31 by omega) (nI_c i 1) (show i + 1 < G.2.2.2.1 by omega) ?_
  refine z_aload_n (pc' := 267) (x := 1000) dL_law_266 rfl rfl ?_
  refine z_iload_n (pc' := 268) (x := nI i) dL_law_267 rfl rfl ?_
  refine z_iconst (pc' := 269) (v := (2 : Int32)) dL_law_268 rfl (by decide) ?_
  refine z_iadd (pc' := 270) dL_law_269 rfl ?_
  refine z_sld (pc' := 271) (j := i + 2) dL_law_270 rfl (show G.2.2.2.1 < 2 ^ 31 by omega) (nI_c i 2) (show i + 2 < G.2.2.2.1 by omega) ?_
  refine z_aload_n (pc' := 272) (x := 1000) dL_law_271 rfl rfl ?_
  refine z_iload_n (pc' := 273) (x := nI i) dL_law_272 rfl rfl ?_
  refine z_iconst (pc' := 274) (v := (3 : Int32)) dL_law_273 rfl (by decide) ?_
  refine z_iadd (pc' := 275) dL_law_274 rfl ?_
  refine z_sld (pc' := 276) (j := i + 3) dL_law_275 rfl (show G.2.2.2.1 < 2 ^ 31 by omega) (nI_c i 3) (show i + 3 < G.2.2.2.1 by omega) ?_
  refine z_callV (pc' := 279) (M' := mX9_players) (As := [.int (G.2.2.2.2.1 (i + 1)), .int (G.2.2.2.2.1 (i + 2)), .int (G.2.2.2.2.1 (i + 3))]) (b := 44) (ci := 9) dL_law_276 rfl ml_L_22 me_X9_players (h2 y I1 L1 hP) rfl (by decide) rfl rfl (Nat.le_of_ble_eq_true rfl) (Nat.le_of_ble_eq_true rfl) ⟨Nat.le_of_ble_eq_true rfl, Nat.le_of_ble_eq_true rfl⟩ rfl ?_
  rintro _ _ ⟨y2, I2, L2, rfl, rfl, rfl, hR2⟩
  exact z_icmp_eq (pc' := 282) (tgt := 1382) dL_law_279 rfl (by decide) (fun _ => next _ _ hR2) (fun c => absurd rfl c)
theorem lc_2 (hR : Rel I L) (hL : G.2.2.2.1 ≤ 3072) (hi : i + 6 ≤ G.2.2.2.1) (next : ∀ I' L', Rel I' L' → zWp (zXl l G) mL_law (69, 11636) 1382 [some (.ref 1000), some (.ref 0), some (.ref 44), some (.int (nI i))] [] (zs I' L')) : zWp (zXl l G) mL_law (69, 11636) 284 [some (.ref 1000), some (.ref 0), some (.ref 44), some (.int (nI i))] [] (zs I L) := by
  refine z_aload_n (pc' := 285) (x := 0) dL_law_284 rfl rfl ?_
  refine z_aload_n (pc' := 286) (x := 1000) dL_law_285 rfl rfl ?_
  refine z_iload_n (pc' := 287) (x := nI i) dL_law_286 rfl rfl ?_
  refine z_iconst (pc' := 288) (v := (1 : Int32)) dL_law_287 rfl (by decide) ?_
  refine z_iadd (pc' := 289) dL_law_288 rfl ?_
  refine z_sld (pc' := 290) (j := i + 1) dL_law_289 rfl (show G.2.2.2.1 < 2 ^ 31 by omega) (nI_c i 1) (show i + 1 < G.2.2.2.1 by omega) ?_
  refine z_aload_n (pc' := 291) (x := 1000) dL_law_290 rfl rfl ?_
  refine z_iload_n (pc' := 292) (x := nI i) dL_law_291 rfl rfl ?_
  refine z_iconst (pc' := 293) (v := (2 : Int32)) dL_law_292 rfl (by decide) ?_
  refine z_iadd (pc' := 294) dL_law_293 rfl ?_
  refine z_sld (pc' := 295) (j := i + 2) dL_law_294 rfl (show G.2.2.2.1 < 2 ^ 31 by omega) (nI_c i 2) (show i + 2 < G.2.2.2.1 by omega) ?_
  refine z_aload_n (pc' := 296) (x := 1000) dL_law_295 rfl rfl ?_
  refine z_iload_n (pc' := 297) (x := nI i) dL_law_296 rfl rfl ?_
  refine z_iconst (pc' := 298) (v := (3 : Int32)) dL_law_297 rfl (by decide) ?_
  refine z_iadd (pc' := 299) dL_law_298 rfl ?_
  refine z_sld (pc' := 300) (j := i + 3) dL_law_299 rfl (show G.2.2.2.1 < 2 ^ 31 by omega) (nI_c i 3) (show i + 3 < G.2.2.2.1 by omega) ?_
  obtain ⟨P, h1, h2⟩ := s_mend (l := l) (G := G) (G.2.2.2.2.1 (i + 1)) (G.2.2.2.2.1 (i + 2)) (G.2.2.2.2.1 (i + 3)) I L hR
  refine z_callV (pc' := 303) (M' := mX8_mend) (As := [.int (G.2.2.2.2.1 (i + 1)), .int (G.2.2.2.2.1 (i + 2)), .int (G.2.2.2.2.1 (i + 3))]) (b := 0) (ci := 8) dL_law_300 rfl ml_L_23 me_X8_mend h1 rfl (by decide) rfl rfl (Nat.le_of_ble_eq_true rfl) (Nat.le_of_ble_eq_true rfl) ⟨Nat.le_of_ble_eq_true rfl, Nat.le_of_ble_eq_true rfl⟩ rfl ?_
  rintro _ _ ⟨y, I1, L1, rfl, rfl, hP⟩
  refine z_aload_n (pc' := 304) (x := 44) dL_law_303 rfl rfl ?_
  refine z_aload_n (pc' := 305) (x := 1000) dL_law_304 rfl rfl ?_
  refine z_iload_n (pc' := 306) (x := nI i) dL_law_305 rfl rfl ?_
  refine z_iconst (pc' := 307) (v := (1 : Int32)) dL_law_306 rfl (by decide) ?_
  refine z_iadd (pc' := 308) dL_law_307 rfl ?_
  refine z_sld (pc' := 309) (j := i + 1) dL_law_308 rfl (show G.2.2.2.1 < 2 ^ 31 by omega) (nI_c i 1) (show i + 1 < G.2.2.2.1 by omega) ?_
  refine z_aload_n (pc' := 310) (x := 1000) dL_law_309 rfl rfl ?_
  refine z_iload_n (pc' := 311) (x := nI i) dL_law_310 rfl rfl ?_
  refine z_iconst (pc' := 312) (v := (2 : Int32)) dL_law_311 rfl (by decide) ?_
  refine z_iadd (pc' := 313) dL_law_312 rfl ?_
  refine z_sld (pc' := 314) (j := i + 2) dL_law_313 rfl (show G.2.2.2.1 < 2 ^ 31 by omega) (nI_c i 2) (show i + 2 < G.2.2.2.1 by omega) ?_
  refine z_aload_n (pc' := 315) (x := 1000) dL_law_314 rfl rfl ?_
  refine z_iload_n (pc' := 316) (x := nI i) dL_law_315 rfl rfl ?_
  refine z_iconst (pc' := 317) (v := (3 : Int32)) dL_law_316 rfl (by decide) ?_
  refine z_iadd (pc' := 318) dL_law_317 rfl ?_
  refine z_sld (pc' := 319) (j := i + 3) dL_law_318 rfl (show G.2.2.2.1 < 2 ^ 31 by omega) (nI_c i 3) (show i + 3 < G.2.2.2.1 by omega) ?_
  refine z_callV (pc' := 322) (M' := mX9_mend) (As := [.int (G.2.2.2.2.1 (i + 1)), .int (G.2.2.2.2.1 (i + 2)), .int (G.2.2.2.2.1 (i + 3))]) (b := 44) (ci := 9) dL_law_319 rfl ml_L_26 me_X9_mend (h2 y I1 L1 hP) rfl (by decide) rfl rfl (Nat.le_of_ble_eq_true rfl) (Nat.le_of_ble_eq_true rfl) ⟨Nat.le_of_ble_eq_true rfl, Nat.le_of_ble_eq_true rfl⟩ rfl ?_
  rintro _ _ ⟨y2, I2, L2, rfl, rfl, rfl, hR2⟩
  exact z_icmp_eq (pc' := 325) (tgt := 1382) dL_law_322 rfl (by decide) (fun _ => next _ _ hR2) (fun c => absurd rfl c)
theorem lc_3 (hR : Rel I L) (hL : G.2.2.2.1 ≤ 3072) (hi : i + 6 ≤ G.2.2.2.1) (next : ∀ I' L', Rel I' L' → zWp (zXl l G) mL_law (69, 11636) 1382 [some (.ref 1000), some (.ref 0), some (.ref 44), some (.int (nI i))] [] (zs I' L')) : zWp (zXl l G) mL_law (69, 11636) 327 [some (.ref 1000), some (.ref 0), some (.ref 44), some (.int (nI i))] [] (zs I L) := by
  refine z_aload_n (pc' := 328) (x := 0) dL_law_327 rfl rfl ?_
  refine z_aload_n (pc' := 329) (x := 1000) dL_law_328 rfl rfl ?_
  refine z_iload_n (pc' := 330) (x := nI i) dL_law_329 rfl rfl ?_
  refine z_iconst (pc' := 331) (v := (1 : Int32)) dL_law_330 rfl (by decide) ?_
  refine z_iadd (pc' := 332) dL_law_331 rfl ?_
  refine z_sld (pc' := 333) (j := i + 1) dL_law_332 rfl (show G.2.2.2.1 < 2 ^ 31 by omega) (nI_c i 1) (show i + 1 < G.2.2.2.1 by omega) ?_
  obtain ⟨P, h1, h2⟩ := s_order (l := l) (G := G) (G.2.2.2.2.1 (i + 1)) I L hR
  refine z_callV (pc' := 336) (M' := mX8_order) (As := [.int (G.2.2.2.2.1 (i + 1))]) (b := 0) (ci := 8) dL_law_333 rfl ml_L_27 me_X8_order h1 rfl (by decide) rfl rfl (Nat.le_of_ble_eq_true rfl) (Nat.le_of_ble_eq_true rfl) ⟨Nat.le_of_ble_eq_true rfl, Nat.le_of_ble_eq_true rfl⟩ rfl ?_
  rintro _ _ ⟨y, I1, L1, rfl, rfl, hP⟩
  refine z_aload_n (pc' := 337) (x := 44) dL_law_336 rfl rfl ?_
  refine z_aload_n (pc' := 338) (x := 1000) dL_law_337 rfl rfl ?_
  refine z_iload_n (pc' := 339) (x := nI i) dL_law_338 rfl rfl ?_
  refine z_iconst (pc' := 340) (v := (1 : Int32)) dL_law_339 rfl (by decide) ?_
  refine z_iadd (pc' := 341) dL_law_340 rfl ?_
  refine z_sld (pc' := 342) (j := i + 1) dL_law_341 rfl (show G.2.2.2.1 < 2 ^ 31 by omega) (nI_c i 1) (show i + 1 < G.2.2.2.1 by omega) ?_
  refine z_callV (pc' := 345) (M' := mX9_order) (As := [.int (G.2.2.2.2.1 (i + 1))]) (b := 44) (ci := 9) dL_law_342 rfl ml_L_31 me_X9_order (h2 y I1 L1 hP) rfl (by decide) rfl rfl (Nat.le_of_ble_eq_true rfl) (Nat.le_of_ble_eq_true rfl) ⟨Nat.le_of_ble_eq_true rfl, Nat.le_of_ble_eq_true rfl⟩ rfl ?_
  rintro _ _ ⟨y2, I2, L2, rfl, rfl, rfl, hR2⟩
  exact z_icmp_eq (pc' := 348) (tgt := 1382) dL_law_345 rfl (by decide) (fun _ => next _ _ hR2) (fun c => absurd rfl c)
theorem lc_4 (hR : Rel I L) (hL : G.2.2.2.1 ≤ 3072) (hi : i + 6 ≤ G.2.2.2.1) (next : ∀ I' L', Rel I' L' → zWp (zXl l G) mL_law (69, 11636) 1382 [some (.ref 1000), some (.ref 0), some (.ref 44), some (.int (nI i))] [] (zs I' L')) : zWp (zXl l G) mL_law (69, 11636) 350 [some (.ref 1000), some (.ref 0), some (.ref 44), some (.int (nI i))] [] (zs I L) := by
  refine z_aload_n (pc' := 351) (x := 0) dL_law_350 rfl rfl ?_
  refine z_aload_n (pc' := 352) (x := 1000) dL_law_351 rfl rfl ?_
  refine z_iload_n (pc' := 353) (x := nI i) dL_law_352 rfl rfl ?_
  refine z_iconst (pc' := 354) (v := (1 : Int32)) dL_law_353 rfl (by decide) ?_
  refine z_iadd (pc' := 355) dL_law_354 rfl ?_
  refine z_sld (pc' := 356) (j := i + 1) dL_law_355 rfl (show G.2.2.2.1 < 2 ^ 31 by omega) (nI_c i 1) (show i + 1 < G.2.2.2.1 by omega) ?_
  obtain ⟨P, h1, h2⟩ := s_bell (l := l) (G := G) (G.2.2.2.2.1 (i + 1)) I L hR
  refine z_callV (pc' := 359) (M' := mX8_bell) (As := [.int (G.2.2.2.2.1 (i + 1))]) (b := 0) (ci := 8) dL_law_356 rfl ml_L_32 me_X8_bell h1 rfl (by decide) rfl rfl (Nat.le_of_ble_eq_true rfl) (Nat.le_of_ble_eq_true rfl) ⟨Nat.le_of_ble_eq_true rfl, Nat.le_of_ble_eq_true rfl⟩ rfl ?_
  rintro _ _ ⟨y, I1, L1, rfl, rfl, hP⟩
  refine z_aload_n (pc' := 360) (x := 44) dL_law_359 rfl rfl ?_
  refine z_aload_n (pc' := 361) (x := 1000) dL_law_360 rfl rfl ?_
  refine z_iload_n (pc' := 362) (x := nI i) dL_law_361 rfl rfl ?_
  refine z_iconst (pc' := 363) (v := (1 : Int32)) dL_law_362 rfl (by decide) ?_
  refine z_iadd (pc' := 364) dL_law_363 rfl ?_
  refine z_sld (pc' := 365) (j := i + 1) dL_law_364 rfl (show G.2.2.2.1 < 2 ^ 31 by omega) (nI_c i 1) (show i + 1 < G.2.2.2.1 by omega) ?_
  refine z_callV (pc' := 368) (M' := mX9_bell) (As := [.int (G.2.2.2.2.1 (i + 1))]) (b := 44) (ci := 9) dL_law_365 rfl ml_L_35 me_X9_bell (h2 y I1 L1 hP) rfl (by decide) rfl rfl (Nat.le_of_ble_eq_true rfl) (Nat.le_of_ble_eq_true rfl) ⟨Nat.le_of_ble_eq_true rfl, Nat.le_of_ble_eq_true rfl⟩ rfl ?_
  rintro _ _ ⟨y2, I2, L2, rfl, rfl, rfl, hR2⟩
  exact z_icmp_eq (pc' := 371) (tgt := 1382) dL_law_368 rfl (by decide) (fun _ => next _ _ hR2) (fun c => absurd rfl c)
theorem lc_5 (hR : Rel I L) (hL : G.2.2.2.1 ≤ 3072) (hi : i + 6 ≤ G.2.2.2.1) (next : ∀ I' L', Rel I' L' → zWp (zXl l G) mL_law (69, 11636) 1382 [some (.ref 1000), some (.ref 0), some (.ref 44), some (.int (nI i))] [] (zs I' L')) : zWp (zXl l G) mL_law (69, 11636) 373 [some (.ref 1000), some (.ref 0), some (.ref 44), some (.int (nI i))] [] (zs I L) := by
  refine z_aload_n (pc' := 374) (x := 0) dL_law_373 rfl rfl ?_
  refine z_aload_n (pc' := 375) (x := 1000) dL_law_374 rfl rfl ?_
  refine z_iload_n (pc' := 376) (x := nI i) dL_law_375 rfl rfl ?_
  refine z_iconst (pc' := 377) (v := (1 : Int32)) dL_law_376 rfl (by decide) ?_
  refine z_iadd (pc' := 378) dL_law_377 rfl ?_
  refine z_sld (pc' := 379) (j := i + 1) dL_law_378 rfl (show G.2.2.2.1 < 2 ^ 31 by omega) (nI_c i 1) (show i + 1 < G.2.2.2.1 by omega) ?_
  refine z_aload_n (pc' := 380) (x := 1000) dL_law_379 rfl rfl ?_
  refine z_iload_n (pc' := 381) (x := nI i) dL_law_380 rfl rfl ?_
  refine z_iconst (pc' := 382) (v := (2 : Int32)) dL_law_381 rfl (by decide) ?_
  refine z_iadd (pc' := 383) dL_law_382 rfl ?_
  refine z_sld (pc' := 384) (j := i + 2) dL_law_383 rfl (show G.2.2.2.1 < 2 ^ 31 by omega) (nI_c i 2) (show i + 2 < G.2.2.2.1 by omega) ?_
  obtain ⟨P, h1, h2⟩ := s_prize (l := l) (G := G) (G.2.2.2.2.1 (i + 1)) (G.2.2.2.2.1 (i + 2)) I L hR
  refine z_callV (pc' := 387) (M' := mX8_prize) (As := [.int (G.2.2.2.2.1 (i + 1)), .int (G.2.2.2.2.1 (i + 2))]) (b := 0) (ci := 8) dL_law_384 rfl ml_L_36 me_X8_prize h1 rfl (by decide) rfl rfl (Nat.le_of_ble_eq_true rfl) (Nat.le_of_ble_eq_true rfl) ⟨Nat.le_of_ble_eq_true rfl, Nat.le_of_ble_eq_true rfl⟩ rfl ?_
  rintro _ _ ⟨y, I1, L1, rfl, rfl, hP⟩
  refine z_aload_n (pc' := 388) (x := 44) dL_law_387 rfl rfl ?_
  refine z_aload_n (pc' := 389) (x := 1000) dL_law_388 rfl rfl ?_
  refine z_iload_n (pc' := 390) (x := nI i) dL_law_389 rfl rfl ?_
  refine z_iconst (pc' := 391) (v := (1 : Int32)) dL_law_390 rfl (by decide) ?_
  refine z_iadd (pc' := 392) dL_law_391 rfl ?_
  refine z_sld (pc' := 393) (j := i + 1) dL_law_392 rfl (show G.2.2.2.1 < 2 ^ 31 by omega) (nI_c i 1) (show i + 1 < G.2.2.2.1 by omega) ?_
  refine z_aload_n (pc' := 394) (x := 1000) dL_law_393 rfl rfl ?_
  refine z_iload_n (pc' := 395) (x := nI i) dL_law_394 rfl rfl ?_
  refine z_iconst (pc' := 396) (v := (2 : Int32)) dL_law_395 rfl (by decide) ?_
  refine z_iadd (pc' := 397) dL_law_396 rfl ?_
  refine z_sld (pc' := 398) (j := i + 2) dL_law_397 rfl (show G.2.2.2.1 < 2 ^ 31 by omega) (nI_c i 2) (show i + 2 < G.2.2.2.1 by omega) ?_
  refine z_callV (pc' := 401) (M' := mX9_prize) (As := [.int (G.2.2.2.2.1 (i + 1)), .int (G.2.2.2.2.1 (i + 2))]) (b := 44) (ci := 9) dL_law_398 rfl ml_L_39 me_X9_prize (h2 y I1 L1 hP) rfl (by decide) rfl rfl (Nat.le_of_ble_eq_true rfl) (Nat.le_of_ble_eq_true rfl) ⟨Nat.le_of_ble_eq_true rfl, Nat.le_of_ble_eq_true rfl⟩ rfl ?_
  rintro _ _ ⟨y2, I2, L2, rfl, rfl, rfl, hR2⟩
  exact z_icmp_eq (pc' := 404) (tgt := 1382) dL_law_401 rfl (by decide) (fun _ => next _ _ hR2) (fun c => absurd rfl c)
theorem lc_6 (hR : Rel I L) (hL : G.2.2.2.1 ≤ 3072) (hi : i + 6 ≤ G.2.2.2.1) (next : ∀ I' L', Rel I' L' → zWp (zXl l G) mL_law (69, 11636) 1382 [some (.ref 1000), some (.ref 0), some (.ref 44), some (.int (nI i))] [] (zs I' L')) : zWp (zXl l G) mL_law (69, 11636) 406 [some (.ref 1000), some (.ref 0), some (.ref 44), some (.int (nI i))] [] (zs I L) := by
  refine z_aload_n (pc' := 407) (x := 0) dL_law_406 rfl rfl ?_
  refine z_aload_n (pc' := 408) (x := 1000) dL_law_407 rfl rfl ?_
  refine z_iload_n (pc' := 409) (x := nI i) dL_law_408 rfl rfl ?_
  refine z_iconst (pc' := 410) (v := (1 : Int32)) dL_law_409 rfl (by decide) ?_
  refine z_iadd (pc' := 411) dL_law_410 rfl ?_
  refine z_sld (pc' := 412) (j := i + 1) dL_law_411 rfl (show G.2.2.2.1 < 2 ^ 31 by omega) (nI_c i 1) (show i + 1 < G.2.2.2.1 by omega) ?_
  refine z_aload_n (pc' := 413) (x := 1000) dL_law_412 rfl rfl ?_
  refine z_iload_n (pc' := 414) (x := nI i) dL_law_413 rfl rfl ?_
  refine z_iconst (pc' := 415) (v := (2 : Int32)) dL_law_414 rfl (by decide) ?_
  refine z_iadd (pc' := 416) dL_law_415 rfl ?_
  refine z_sld (pc' := 417) (j := i + 2) dL_law_416 rfl (show G.2.2.2.1 < 2 ^ 31 by omega) (nI_c i 2) (show i + 2 < G.2.2.2.1 by omega) ?_
  obtain ⟨P, h1, h2⟩ := s_of (l := l) (G := G) (G.2.2.2.2.1 (i + 1)) (G.2.2.2.2.1 (i + 2)) I L hR
  refine z_callV (pc' := 420) (M' := mX8_of) (As := [.int (G.2.2.2.2.1 (i + 1)), .int (G.2.2.2.2.1 (i + 2))]) (b := 0) (ci := 8) dL_law_417 rfl ml_L_40 me_X8_of h1 rfl (by decide) rfl rfl (Nat.le_of_ble_eq_true rfl) (Nat.le_of_ble_eq_true rfl) ⟨Nat.le_of_ble_eq_true rfl, Nat.le_of_ble_eq_true rfl⟩ rfl ?_
  rintro _ _ ⟨y, I1, L1, rfl, rfl, hP⟩
  refine z_aload_n (pc' := 421) (x := 44) dL_law_420 rfl rfl ?_
  refine z_aload_n (pc' := 422) (x := 1000) dL_law_421 rfl rfl ?_
  refine z_iload_n (pc' := 423) (x := nI i) dL_law_422 rfl rfl ?_
  refine z_iconst (pc' := 424) (v := (1 : Int32)) dL_law_423 rfl (by decide) ?_
  refine z_iadd (pc' := 425) dL_law_424 rfl ?_
  refine z_sld (pc' := 426) (j := i + 1) dL_law_425 rfl (show G.2.2.2.1 < 2 ^ 31 by omega) (nI_c i 1) (show i + 1 < G.2.2.2.1 by omega) ?_
  refine z_aload_n (pc' := 427) (x := 1000) dL_law_426 rfl rfl ?_
  refine z_iload_n (pc' := 428) (x := nI i) dL_law_427 rfl rfl ?_
  refine z_iconst (pc' := 429) (v := (2 : Int32)) dL_law_428 rfl (by decide) ?_
  refine z_iadd (pc' := 430) dL_law_429 rfl ?_
  refine z_sld (pc' := 431) (j := i + 2) dL_law_430 rfl (show G.2.2.2.1 < 2 ^ 31 by omega) (nI_c i 2) (show i + 2 < G.2.2.2.1 by omega) ?_
  refine z_callV (pc' := 434) (M' := mX9_of) (As := [.int (G.2.2.2.2.1 (i + 1)), .int (G.2.2.2.2.1 (i + 2))]) (b := 44) (ci := 9) dL_law_431 rfl ml_L_43 me_X9_of (h2 y I1 L1 hP) rfl (by decide) rfl rfl (Nat.le_of_ble_eq_true rfl) (Nat.le_of_ble_eq_true rfl) ⟨Nat.le_of_ble_eq_true rfl, Nat.le_of_ble_eq_true rfl⟩ rfl ?_
  rintro _ _ ⟨y2, I2, L2, rfl, rfl, rfl, hR2⟩
  exact z_icmp_eq (pc' := 437) (tgt := 1382) dL_law_434 rfl (by decide) (fun _ => next _ _ hR2) (fun c => absurd rfl c)
theorem lc_7 (hR : Rel I L) (hL : G.2.2.2.1 ≤ 3072) (hi : i + 6 ≤ G.2.2.2.1) (next : ∀ I' L', Rel I' L' → zWp (zXl l G) mL_law (69, 11636) 1382 [some (.ref 1000), some (.ref 0), some (.ref 44), some (.int (nI i))] [] (zs I' L')) : zWp (zXl l G) mL_law (69, 11636) 439 [some (.ref 1000), some (.ref 0), some (.ref 44), some (.int (nI i))] [] (zs I L) := by
  refine z_aload_n (pc' := 440) (x := 0) dL_law_439 rfl rfl ?_
  refine z_aload_n (pc' := 441) (x := 1000) dL_law_440 rfl rfl ?_
  refine z_iload_n (pc' := 442) (x := nI i) dL_law_441 rfl rfl ?_
  refine z_iconst (pc' := 443) (v := (1 : Int32)) dL_law_442 rfl (by decide) ?_
  refine z_iadd (pc' := 444) dL_law_443 rfl ?_
  refine z_sld (pc' := 445) (j := i + 1) dL_law_444 rfl (show G.2.2.2.1 < 2 ^ 31 by omega) (nI_c i 1) (show i + 1 < G.2.2.2.1 by omega) ?_
  obtain ⟨P, h1, h2⟩ := s_feed (l := l) (G := G) (G.2.2.2.2.1 (i + 1)) I L hR
  refine z_callV (pc' := 448) (M' := mX8_feed) (As := [.int (G.2.2.2.2.1 (i + 1))]) (b := 0) (ci := 8) dL_law_445 rfl ml_L_44 me_X8_feed h1 rfl (by decide) rfl rfl (Nat.le_of_ble_eq_true rfl) (Nat.le_of_ble_eq_true rfl) ⟨Nat.le_of_ble_eq_true rfl, Nat.le_of_ble_eq_true rfl⟩ rfl ?_
  rintro _ _ ⟨y, I1, L1, rfl, rfl, hP⟩
  refine z_aload_n (pc' := 449) (x := 44) dL_law_448 rfl rfl ?_
  refine z_aload_n (pc' := 450) (x := 1000) dL_law_449 rfl rfl ?_
  refine z_iload_n (pc' := 451) (x := nI i) dL_law_450 rfl rfl ?_
  refine z_iconst (pc' := 452) (v := (1 : Int32)) dL_law_451 rfl (by decide) ?_
  refine z_iadd (pc' := 453) dL_law_452 rfl ?_
  refine z_sld (pc' := 454) (j := i + 1) dL_law_453 rfl (show G.2.2.2.1 < 2 ^ 31 by omega) (nI_c i 1) (show i + 1 < G.2.2.2.1 by omega) ?_
  refine z_callV (pc' := 457) (M' := mX9_feed) (As := [.int (G.2.2.2.2.1 (i + 1))]) (b := 44) (ci := 9) dL_law_454 rfl ml_L_47 me_X9_feed (h2 y I1 L1 hP) rfl (by decide) rfl rfl (Nat.le_of_ble_eq_true rfl) (Nat.le_of_ble_eq_true rfl) ⟨Nat.le_of_ble_eq_true rfl, Nat.le_of_ble_eq_true rfl⟩ rfl ?_
  rintro _ _ ⟨y2, I2, L2, rfl, rfl, rfl, hR2⟩
  exact z_icmp_eq (pc' := 460) (tgt := 1382) dL_law_457 rfl (by decide) (fun _ => next _ _ hR2) (fun c => absurd rfl c)
theorem lc_8 (hR : Rel I L) (hL : G.2.2.2.1 ≤ 3072) (hi : i + 6 ≤ G.2.2.2.1) (next : ∀ I' L', Rel I' L' → zWp (zXl l G) mL_law (69, 11636) 1382 [some (.ref 1000), some (.ref 0), some (.ref 44), some (.int (nI i))] [] (zs I' L')) : zWp (zXl l G) mL_law (69, 11636) 462 [some (.ref 1000), some (.ref 0), some (.ref 44), some (.int (nI i))] [] (zs I L) := by
  refine z_aload_n (pc' := 463) (x := 0) dL_law_462 rfl rfl ?_
  obtain ⟨P, h1, h2⟩ := s_law (l := l) (G := G)  I L hR
  refine z_callV (pc' := 466) (M' := mX8_law) (As := []) (b := 0) (ci := 8) dL_law_463 rfl ml_L_48 me_X8_law h1 rfl (by decide) rfl rfl (Nat.le_of_ble_eq_true rfl) (Nat.le_of_ble_eq_true rfl) ⟨Nat.le_of_ble_eq_true rfl, Nat.le_of_ble_eq_true rfl⟩ rfl ?_
  rintro _ _ ⟨y, I1, L1, rfl, rfl, hP⟩
  refine z_aload_n (pc' := 467) (x := 44) dL_law_466 rfl rfl ?_
  refine z_callV (pc' := 470) (M' := mX9_law) (As := []) (b := 44) (ci := 9) dL_law_467 rfl ml_L_52 me_X9_law (h2 y I1 L1 hP) rfl (by decide) rfl rfl (Nat.le_of_ble_eq_true rfl) (Nat.le_of_ble_eq_true rfl) ⟨Nat.le_of_ble_eq_true rfl, Nat.le_of_ble_eq_true rfl⟩ rfl ?_
  rintro _ _ ⟨y2, I2, L2, rfl, rfl, rfl, hR2⟩
  exact z_icmp_eq (pc' := 473) (tgt := 1382) dL_law_470 rfl (by decide) (fun _ => next _ _ hR2) (fun c => absurd rfl c)
theorem lc_9 (hR : Rel I L) (hL : G.2.2.2.1 ≤ 3072) (hi : i + 6 ≤ G.2.2.2.1) (next : ∀ I' L', Rel I' L' → zWp (zXl l G) mL_law (69, 11636) 1382 [some (.ref 1000), some (.ref 0), some (.ref 44), some (.int (nI i))] [] (zs I' L')) : zWp (zXl l G) mL_law (69, 11636) 475 [some (.ref 1000), some (.ref 0), some (.ref 44), some (.int (nI i))] [] (zs I L) := by
  refine z_aload_n (pc' := 476) (x := 0) dL_law_475 rfl rfl ?_
  refine z_aload_n (pc' := 477) (x := 1000) dL_law_476 rfl rfl ?_
  refine z_iload_n (pc' := 478) (x := nI i) dL_law_477 rfl rfl ?_
  refine z_iconst (pc' := 479) (v := (1 : Int32)) dL_law_478 rfl (by decide) ?_
  refine z_iadd (pc' := 480) dL_law_479 rfl ?_
  refine z_sld (pc' := 481) (j := i + 1) dL_law_480 rfl (show G.2.2.2.1 < 2 ^ 31 by omega) (nI_c i 1) (show i + 1 < G.2.2.2.1 by omega) ?_
  refine z_aload_n (pc' := 482) (x := 1000) dL_law_481 rfl rfl ?_
  refine z_iload_n (pc' := 483) (x := nI i) dL_law_482 rfl rfl ?_
  refine z_iconst (pc' := 484) (v := (2 : Int32)) dL_law_483 rfl (by decide) ?_
  refine z_iadd (pc' := 485) dL_law_484 rfl ?_
  refine z_sld (pc' := 486) (j := i + 2) dL_law_485 rfl (show G.2.2.2.1 < 2 ^ 31 by omega) (nI_c i 2) (show i + 2 < G.2.2.2.1 by omega) ?_
  refine z_aload_n (pc' := 487) (x := 1000) dL_law_486 rfl rfl ?_
  refine z_iload_n (pc' := 488) (x := nI i) dL_law_487 rfl rfl ?_
  refine z_iconst (pc' := 489) (v := (3 : Int32)) dL_law_488 rfl (by decide) ?_
  refine z_iadd (pc' := 490) dL_law_489 rfl ?_
  refine z_sld (pc' := 491) (j := i + 3) dL_law_490 rfl (show G.2.2.2.1 < 2 ^ 31 by omega) (nI_c i 3) (show i + 3 < G.2.2.2.1 by omega) ?_
  obtain ⟨P, h1, h2⟩ := s_worth (l := l) (G := G) (G.2.2.2.2.1 (i + 1)) (G.2.2.2.2.1 (i + 2)) (G.2.2.2.2.1 (i + 3)) I L hR
  refine z_callV (pc' := 494) (M' := mX8_worth) (As := [.int (G.2.2.2.2.1 (i + 1)), .int (G.2.2.2.2.1 (i + 2)), .int (G.2.2.2.2.1 (i + 3))]) (b := 0) (ci := 8) dL_law_491 rfl ml_L_53 me_X8_worth h1 rfl (by decide) rfl rfl (Nat.le_of_ble_eq_true rfl) (Nat.le_of_ble_eq_true rfl) ⟨Nat.le_of_ble_eq_true rfl, Nat.le_of_ble_eq_true rfl⟩ rfl ?_
  rintro _ _ ⟨y, I1, L1, rfl, rfl, hP⟩
  refine z_aload_n (pc' := 495) (x := 44) dL_law_494 rfl rfl ?_
  refine z_aload_n (pc' := 496) (x := 1000) dL_law_495 rfl rfl ?_
  refine z_iload_n (pc' := 497) (x := nI i) dL_law_496 rfl rfl ?_
  refine z_iconst (pc' := 498) (v := (1 : Int32)) dL_law_497 rfl (by decide) ?_
  refine z_iadd (pc' := 499) dL_law_498 rfl ?_
  refine z_sld (pc' := 500) (j := i + 1) dL_law_499 rfl (show G.2.2.2.1 < 2 ^ 31 by omega) (nI_c i 1) (show i + 1 < G.2.2.2.1 by omega) ?_
  refine z_aload_n (pc' := 501) (x := 1000) dL_law_500 rfl rfl ?_
  refine z_iload_n (pc' := 502) (x := nI i) dL_law_501 rfl rfl ?_
  refine z_iconst (pc' := 503) (v := (2 : Int32)) dL_law_502 rfl (by decide) ?_
  refine z_iadd (pc' := 504) dL_law_503 rfl ?_
  refine z_sld (pc' := 505) (j := i + 2) dL_law_504 rfl (show G.2.2.2.1 < 2 ^ 31 by omega) (nI_c i 2) (show i + 2 < G.2.2.2.1 by omega) ?_
  refine z_aload_n (pc' := 506) (x := 1000) dL_law_505 rfl rfl ?_
  refine z_iload_n (pc' := 507) (x := nI i) dL_law_506 rfl rfl ?_
  refine z_iconst (pc' := 508) (v := (3 : Int32)) dL_law_507 rfl (by decide) ?_
  refine z_iadd (pc' := 509) dL_law_508 rfl ?_
  refine z_sld (pc' := 510) (j := i + 3) dL_law_509 rfl (show G.2.2.2.1 < 2 ^ 31 by omega) (nI_c i 3) (show i + 3 < G.2.2.2.1 by omega) ?_
  refine z_callV (pc' := 513) (M' := mX9_worth) (As := [.int (G.2.2.2.2.1 (i + 1)), .int (G.2.2.2.2.1 (i + 2)), .int (G.2.2.2.2.1 (i + 3))]) (b := 44) (ci := 9) dL_law_510 rfl ml_L_57 me_X9_worth (h2 y I1 L1 hP) rfl (by decide) rfl rfl (Nat.le_of_ble_eq_true rfl) (Nat.le_of_ble_eq_true rfl) ⟨Nat.le_of_ble_eq_true rfl, Nat.le_of_ble_eq_true rfl⟩ rfl ?_
  rintro _ _ ⟨y2, I2, L2, rfl, rfl, rfl, hR2⟩
  exact z_lc_eq (pc' := 517) (tgt := 1382) dL_law_513 dL_law_514 rfl (by decide) (fun _ => next _ _ hR2) (fun c => absurd rfl c)
theorem lc_10 (hR : Rel I L) (hL : G.2.2.2.1 ≤ 3072) (hi : i + 6 ≤ G.2.2.2.1) (next : ∀ I' L', Rel I' L' → zWp (zXl l G) mL_law (69, 11636) 1382 [some (.ref 1000), some (.ref 0), some (.ref 44), some (.int (nI i))] [] (zs I' L')) : zWp (zXl l G) mL_law (69, 11636) 519 [some (.ref 1000), some (.ref 0), some (.ref 44), some (.int (nI i))] [] (zs I L) := by
  refine z_aload_n (pc' := 520) (x := 0) dL_law_519 rfl rfl ?_
  refine z_aload_n (pc' := 521) (x := 1000) dL_law_520 rfl rfl ?_
  refine z_iload_n (pc' := 522) (x := nI i) dL_law_521 rfl rfl ?_
  refine z_iconst (pc' := 523) (v := (1 : Int32)) dL_law_522 rfl (by decide) ?_
  refine z_iadd (pc' := 524) dL_law_523 rfl ?_
  refine z_sld (pc' := 525) (j := i + 1) dL_law_524 rfl (show G.2.2.2.1 < 2 ^ 31 by omega) (nI_c i 1) (show i + 1 < G.2.2.2.1 by omega) ?_
  refine z_aload_n (pc' := 526) (x := 1000) dL_law_525 rfl rfl ?_
  refine z_iload_n (pc' := 527) (x := nI i) dL_law_526 rfl rfl ?_
  refine z_iconst (pc' := 528) (v := (2 : Int32)) dL_law_527 rfl (by decide) ?_
  refine z_iadd (pc' := 529) dL_law_528 rfl ?_
  refine z_sld (pc' := 530) (j := i + 2) dL_law_529 rfl (show G.2.2.2.1 < 2 ^ 31 by omega) (nI_c i 2) (show i + 2 < G.2.2.2.1 by omega) ?_
  obtain ⟨P, h1, h2⟩ := s_just (l := l) (G := G) (G.2.2.2.2.1 (i + 1)) (G.2.2.2.2.1 (i + 2)) I L hR
  refine z_callV (pc' := 533) (M' := mX8_just) (As := [.int (G.2.2.2.2.1 (i + 1)), .int (G.2.2.2.2.1 (i + 2))]) (b := 0) (ci := 8) dL_law_530 rfl ml_L_58 me_X8_just h1 rfl (by decide) rfl rfl (Nat.le_of_ble_eq_true rfl) (Nat.le_of_ble_eq_true rfl) ⟨Nat.le_of_ble_eq_true rfl, Nat.le_of_ble_eq_true rfl⟩ rfl ?_
  rintro _ _ ⟨y, I1, L1, rfl, rfl, hP⟩
  refine z_aload_n (pc' := 534) (x := 44) dL_law_533 rfl rfl ?_
  refine z_aload_n (pc' := 535) (x := 1000) dL_law_534 rfl rfl ?_
  refine z_iload_n (pc' := 536) (x := nI i) dL_law_535 rfl rfl ?_
  refine z_iconst (pc' := 537) (v := (1 : Int32)) dL_law_536 rfl (by decide) ?_
  refine z_iadd (pc' := 538) dL_law_537 rfl ?_
  refine z_sld (pc' := 539) (j := i + 1) dL_law_538 rfl (show G.2.2.2.1 < 2 ^ 31 by omega) (nI_c i 1) (show i + 1 < G.2.2.2.1 by omega) ?_
  refine z_aload_n (pc' := 540) (x := 1000) dL_law_539 rfl rfl ?_
  refine z_iload_n (pc' := 541) (x := nI i) dL_law_540 rfl rfl ?_
  refine z_iconst (pc' := 542) (v := (2 : Int32)) dL_law_541 rfl (by decide) ?_
  refine z_iadd (pc' := 543) dL_law_542 rfl ?_
  refine z_sld (pc' := 544) (j := i + 2) dL_law_543 rfl (show G.2.2.2.1 < 2 ^ 31 by omega) (nI_c i 2) (show i + 2 < G.2.2.2.1 by omega) ?_
  refine z_callV (pc' := 547) (M' := mX9_just) (As := [.int (G.2.2.2.2.1 (i + 1)), .int (G.2.2.2.2.1 (i + 2))]) (b := 44) (ci := 9) dL_law_544 rfl ml_L_62 me_X9_just (h2 y I1 L1 hP) rfl (by decide) rfl rfl (Nat.le_of_ble_eq_true rfl) (Nat.le_of_ble_eq_true rfl) ⟨Nat.le_of_ble_eq_true rfl, Nat.le_of_ble_eq_true rfl⟩ rfl ?_
  rintro _ _ ⟨y2, I2, L2, rfl, rfl, rfl, hR2⟩
  exact z_lc_eq (pc' := 551) (tgt := 1382) dL_law_547 dL_law_548 rfl (by decide) (fun _ => next _ _ hR2) (fun c => absurd rfl c)
theorem lc_11 (hR : Rel I L) (hL : G.2.2.2.1 ≤ 3072) (hi : i + 6 ≤ G.2.2.2.1) (next : ∀ I' L', Rel I' L' → zWp (zXl l G) mL_law (69, 11636) 1382 [some (.ref 1000), some (.ref 0), some (.ref 44), some (.int (nI i))] [] (zs I' L')) : zWp (zXl l G) mL_law (69, 11636) 553 [some (.ref 1000), some (.ref 0), some (.ref 44), some (.int (nI i))] [] (zs I L) := by
  refine z_aload_n (pc' := 554) (x := 0) dL_law_553 rfl rfl ?_
  refine z_aload_n (pc' := 555) (x := 1000) dL_law_554 rfl rfl ?_
  refine z_iload_n (pc' := 556) (x := nI i) dL_law_555 rfl rfl ?_
  refine z_iconst (pc' := 557) (v := (1 : Int32)) dL_law_556 rfl (by decide) ?_
  refine z_iadd (pc' := 558) dL_law_557 rfl ?_
  refine z_sld (pc' := 559) (j := i + 1) dL_law_558 rfl (show G.2.2.2.1 < 2 ^ 31 by omega) (nI_c i 1) (show i + 1 < G.2.2.2.1 by omega) ?_
  refine z_aload_n (pc' := 560) (x := 1000) dL_law_559 rfl rfl ?_
  refine z_iload_n (pc' := 561) (x := nI i) dL_law_560 rfl rfl ?_
  refine z_iconst (pc' := 562) (v := (2 : Int32)) dL_law_561 rfl (by decide) ?_
  refine z_iadd (pc' := 563) dL_law_562 rfl ?_
  refine z_sld (pc' := 564) (j := i + 2) dL_law_563 rfl (show G.2.2.2.1 < 2 ^ 31 by omega) (nI_c i 2) (show i + 2 < G.2.2.2.1 by omega) ?_
  refine z_aload_n (pc' := 565) (x := 1000) dL_law_564 rfl rfl ?_
  refine z_iload_n (pc' := 566) (x := nI i) dL_law_565 rfl rfl ?_
  refine z_iconst (pc' := 567) (v := (3 : Int32)) dL_law_566 rfl (by decide) ?_
  refine z_iadd (pc' := 568) dL_law_567 rfl ?_
  refine z_sld (pc' := 569) (j := i + 3) dL_law_568 rfl (show G.2.2.2.1 < 2 ^ 31 by omega) (nI_c i 3) (show i + 3 < G.2.2.2.1 by omega) ?_
  obtain ⟨P, h1, h2⟩ := s_aims (l := l) (G := G) (G.2.2.2.2.1 (i + 1)) (G.2.2.2.2.1 (i + 2)) (G.2.2.2.2.1 (i + 3)) I L hR
  refine z_callV (pc' := 572) (M' := mX8_aims) (As := [.int (G.2.2.2.2.1 (i + 1)), .int (G.2.2.2.2.1 (i + 2)), .int (G.2.2.2.2.1 (i + 3))]) (b := 0) (ci := 8) dL_law_569 rfl ml_L_63 me_X8_aims h1 rfl (by decide) rfl rfl (Nat.le_of_ble_eq_true rfl) (Nat.le_of_ble_eq_true rfl) ⟨Nat.le_of_ble_eq_true rfl, Nat.le_of_ble_eq_true rfl⟩ rfl ?_
  rintro _ _ ⟨y, I1, L1, rfl, rfl, hP⟩
  refine z_aload_n (pc' := 573) (x := 44) dL_law_572 rfl rfl ?_
  refine z_aload_n (pc' := 574) (x := 1000) dL_law_573 rfl rfl ?_
  refine z_iload_n (pc' := 575) (x := nI i) dL_law_574 rfl rfl ?_
  refine z_iconst (pc' := 576) (v := (1 : Int32)) dL_law_575 rfl (by decide) ?_
  refine z_iadd (pc' := 577) dL_law_576 rfl ?_
  refine z_sld (pc' := 578) (j := i + 1) dL_law_577 rfl (show G.2.2.2.1 < 2 ^ 31 by omega) (nI_c i 1) (show i + 1 < G.2.2.2.1 by omega) ?_
  refine z_aload_n (pc' := 579) (x := 1000) dL_law_578 rfl rfl ?_
  refine z_iload_n (pc' := 580) (x := nI i) dL_law_579 rfl rfl ?_
  refine z_iconst (pc' := 581) (v := (2 : Int32)) dL_law_580 rfl (by decide) ?_
  refine z_iadd (pc' := 582) dL_law_581 rfl ?_
  refine z_sld (pc' := 583) (j := i + 2) dL_law_582 rfl (show G.2.2.2.1 < 2 ^ 31 by omega) (nI_c i 2) (show i + 2 < G.2.2.2.1 by omega) ?_
  refine z_aload_n (pc' := 584) (x := 1000) dL_law_583 rfl rfl ?_
  refine z_iload_n (pc' := 585) (x := nI i) dL_law_584 rfl rfl ?_
  refine z_iconst (pc' := 586) (v := (3 : Int32)) dL_law_585 rfl (by decide) ?_
  refine z_iadd (pc' := 587) dL_law_586 rfl ?_
  refine z_sld (pc' := 588) (j := i + 3) dL_law_587 rfl (show G.2.2.2.1 < 2 ^ 31 by omega) (nI_c i 3) (show i + 3 < G.2.2.2.1 by omega) ?_
  refine z_callV (pc' := 591) (M' := mX9_aims) (As := [.int (G.2.2.2.2.1 (i + 1)), .int (G.2.2.2.2.1 (i + 2)), .int (G.2.2.2.2.1 (i + 3))]) (b := 44) (ci := 9) dL_law_588 rfl ml_L_66 me_X9_aims (h2 y I1 L1 hP) rfl (by decide) rfl rfl (Nat.le_of_ble_eq_true rfl) (Nat.le_of_ble_eq_true rfl) ⟨Nat.le_of_ble_eq_true rfl, Nat.le_of_ble_eq_true rfl⟩ rfl ?_
  rintro _ _ ⟨y2, I2, L2, rfl, rfl, rfl, hR2⟩
  exact z_icmp_eq (pc' := 594) (tgt := 1382) dL_law_591 rfl (by decide) (fun _ => next _ _ hR2) (fun c => absurd rfl c)
theorem lc_12 (hR : Rel I L) (hL : G.2.2.2.1 ≤ 3072) (hi : i + 6 ≤ G.2.2.2.1) (next : ∀ I' L', Rel I' L' → zWp (zXl l G) mL_law (69, 11636) 1382 [some (.ref 1000), some (.ref 0), some (.ref 44), some (.int (nI i))] [] (zs I' L')) : zWp (zXl l G) mL_law (69, 11636) 596 [some (.ref 1000), some (.ref 0), some (.ref 44), some (.int (nI i))] [] (zs I L) := by
  refine z_aload_n (pc' := 597) (x := 0) dL_law_596 rfl rfl ?_
  refine z_aload_n (pc' := 598) (x := 1000) dL_law_597 rfl rfl ?_
  refine z_iload_n (pc' := 599) (x := nI i) dL_law_598 rfl rfl ?_
  refine z_iconst (pc' := 600) (v := (1 : Int32)) dL_law_599 rfl (by decide) ?_
  refine z_iadd (pc' := 601) dL_law_600 rfl ?_
  refine z_sld (pc' := 602) (j := i + 1) dL_law_601 rfl (show G.2.2.2.1 < 2 ^ 31 by omega) (nI_c i 1) (show i + 1 < G.2.2.2.1 by omega) ?_
  obtain ⟨P, h1, h2⟩ := s_begin (l := l) (G := G) (G.2.2.2.2.1 (i + 1)) I L hR
  refine z_callV (pc' := 605) (M' := mX8_begin) (As := [.int (G.2.2.2.2.1 (i + 1))]) (b := 0) (ci := 8) dL_law_602 rfl ml_L_67 me_X8_begin h1 rfl (by decide) rfl rfl (Nat.le_of_ble_eq_true rfl) (Nat.le_of_ble_eq_true rfl) ⟨Nat.le_of_ble_eq_true rfl, Nat.le_of_ble_eq_true rfl⟩ rfl ?_
  rintro _ _ ⟨y, I1, L1, rfl, rfl, hP⟩
  refine z_aload_n (pc' := 606) (x := 44) dL_law_605 rfl rfl ?_
  refine z_aload_n (pc' := 607) (x := 1000) dL_law_606 rfl rfl ?_
  refine z_iload_n (pc' := 608) (x := nI i) dL_law_607 rfl rfl ?_
  refine z_iconst (pc' := 609) (v := (1 : Int32)) dL_law_608 rfl (by decide) ?_
  refine z_iadd (pc' := 610) dL_law_609 rfl ?_
  refine z_sld (pc' := 611) (j := i + 1) dL_law_610 rfl (show G.2.2.2.1 < 2 ^ 31 by omega) (nI_c i 1) (show i + 1 < G.2.2.2.1 by omega) ?_
  refine z_callV (pc' := 614) (M' := mX9_begin) (As := [.int (G.2.2.2.2.1 (i + 1))]) (b := 44) (ci := 9) dL_law_611 rfl ml_L_70 me_X9_begin (h2 y I1 L1 hP) rfl (by decide) rfl rfl (Nat.le_of_ble_eq_true rfl) (Nat.le_of_ble_eq_true rfl) ⟨Nat.le_of_ble_eq_true rfl, Nat.le_of_ble_eq_true rfl⟩ rfl ?_
  rintro _ _ ⟨y2, I2, L2, rfl, rfl, rfl, hR2⟩
  exact z_icmp_eq (pc' := 617) (tgt := 1382) dL_law_614 rfl (by decide) (fun _ => next _ _ hR2) (fun c => absurd rfl c)
theorem lc_13 (hR : Rel I L) (hL : G.2.2.2.1 ≤ 3072) (hi : i + 6 ≤ G.2.2.2.1) (next : ∀ I' L', Rel I' L' → zWp (zXl l G) mL_law (69, 11636) 1382 [some (.ref 1000), some (.ref 0), some (.ref 44), some (.int (nI i))] [] (zs I' L')) : zWp (zXl l G) mL_law (69, 11636) 619 [some (.ref 1000), some (.ref 0), some (.ref 44), some (.int (nI i))] [] (zs I L) := by
  refine z_aload_n (pc' := 620) (x := 0) dL_law_619 rfl rfl ?_
  obtain ⟨P, h1, h2⟩ := s_fair (l := l) (G := G)  I L hR
  refine z_callV (pc' := 623) (M' := mX8_fair) (As := []) (b := 0) (ci := 8) dL_law_620 rfl ml_L_71 me_X8_fair h1 rfl (by decide) rfl rfl (Nat.le_of_ble_eq_true rfl) (Nat.le_of_ble_eq_true rfl) ⟨Nat.le_of_ble_eq_true rfl, Nat.le_of_ble_eq_true rfl⟩ rfl ?_
  rintro _ _ ⟨y, I1, L1, rfl, rfl, hP⟩
  refine z_aload_n (pc' := 624) (x := 44) dL_law_623 rfl rfl ?_
  refine z_callV (pc' := 627) (M' := mX9_fair) (As := []) (b := 44) (ci := 9) dL_law_624 rfl ml_L_74 me_X9_fair (h2 y I1 L1 hP) rfl (by decide) rfl rfl (Nat.le_of_ble_eq_true rfl) (Nat.le_of_ble_eq_true rfl) ⟨Nat.le_of_ble_eq_true rfl, Nat.le_of_ble_eq_true rfl⟩ rfl ?_
  rintro _ _ ⟨y2, I2, L2, rfl, rfl, rfl, hR2⟩
  exact z_icmp_eq (pc' := 630) (tgt := 1382) dL_law_627 rfl (by decide) (fun _ => next _ _ hR2) (fun c => absurd rfl c)
theorem lc_14 (hR : Rel I L) (hL : G.2.2.2.1 ≤ 3072) (hi : i + 6 ≤ G.2.2.2.1) (next : ∀ I' L', Rel I' L' → zWp (zXl l G) mL_law (69, 11636) 1382 [some (.ref 1000), some (.ref 0), some (.ref 44), some (.int (nI i))] [] (zs I' L')) : zWp (zXl l G) mL_law (69, 11636) 632 [some (.ref 1000), some (.ref 0), some (.ref 44), some (.int (nI i))] [] (zs I L) := by
  refine z_aload_n (pc' := 633) (x := 0) dL_law_632 rfl rfl ?_
  refine z_aload_n (pc' := 634) (x := 1000) dL_law_633 rfl rfl ?_
  refine z_iload_n (pc' := 635) (x := nI i) dL_law_634 rfl rfl ?_
  refine z_iconst (pc' := 636) (v := (1 : Int32)) dL_law_635 rfl (by decide) ?_
  refine z_iadd (pc' := 637) dL_law_636 rfl ?_
  refine z_sld (pc' := 638) (j := i + 1) dL_law_637 rfl (show G.2.2.2.1 < 2 ^ 31 by omega) (nI_c i 1) (show i + 1 < G.2.2.2.1 by omega) ?_
  obtain ⟨P, h1, h2⟩ := s_would (l := l) (G := G) (G.2.2.2.2.1 (i + 1)) I L hR
  refine z_callV (pc' := 641) (M' := mX8_would) (As := [.int (G.2.2.2.2.1 (i + 1))]) (b := 0) (ci := 8) dL_law_638 rfl ml_L_75 me_X8_would h1 rfl (by decide) rfl rfl (Nat.le_of_ble_eq_true rfl) (Nat.le_of_ble_eq_true rfl) ⟨Nat.le_of_ble_eq_true rfl, Nat.le_of_ble_eq_true rfl⟩ rfl ?_
  rintro _ _ ⟨y, I1, L1, rfl, rfl, hP⟩
  refine z_aload_n (pc' := 642) (x := 44) dL_law_641 rfl rfl ?_
  refine z_aload_n (pc' := 643) (x := 1000) dL_law_642 rfl rfl ?_
  refine z_iload_n (pc' := 644) (x := nI i) dL_law_643 rfl rfl ?_
  refine z_iconst (pc' := 645) (v := (1 : Int32)) dL_law_644 rfl (by decide) ?_
  refine z_iadd (pc' := 646) dL_law_645 rfl ?_
  refine z_sld (pc' := 647) (j := i + 1) dL_law_646 rfl (show G.2.2.2.1 < 2 ^ 31 by omega) (nI_c i 1) (show i + 1 < G.2.2.2.1 by omega) ?_
  refine z_callV (pc' := 650) (M' := mX9_would) (As := [.int (G.2.2.2.2.1 (i + 1))]) (b := 44) (ci := 9) dL_law_647 rfl ml_L_78 me_X9_would (h2 y I1 L1 hP) rfl (by decide) rfl rfl (Nat.le_of_ble_eq_true rfl) (Nat.le_of_ble_eq_true rfl) ⟨Nat.le_of_ble_eq_true rfl, Nat.le_of_ble_eq_true rfl⟩ rfl ?_
  rintro _ _ ⟨y2, I2, L2, rfl, rfl, rfl, hR2⟩
  exact z_icmp_eq (pc' := 653) (tgt := 1382) dL_law_650 rfl (by decide) (fun _ => next _ _ hR2) (fun c => absurd rfl c)
theorem lc_15 (hR : Rel I L) (hL : G.2.2.2.1 ≤ 3072) (hi : i + 6 ≤ G.2.2.2.1) (next : ∀ I' L', Rel I' L' → zWp (zXl l G) mL_law (69, 11636) 1382 [some (.ref 1000), some (.ref 0), some (.ref 44), some (.int (nI i))] [] (zs I' L')) : zWp (zXl l G) mL_law (69, 11636) 655 [some (.ref 1000), some (.ref 0), some (.ref 44), some (.int (nI i))] [] (zs I L) := by
  refine z_aload_n (pc' := 656) (x := 0) dL_law_655 rfl rfl ?_
  obtain ⟨P, h1, h2⟩ := s_rest (l := l) (G := G)  I L hR
  refine z_callV (pc' := 659) (M' := mX8_rest) (As := []) (b := 0) (ci := 8) dL_law_656 rfl ml_L_79 me_X8_rest h1 rfl (by decide) rfl rfl (Nat.le_of_ble_eq_true rfl) (Nat.le_of_ble_eq_true rfl) ⟨Nat.le_of_ble_eq_true rfl, Nat.le_of_ble_eq_true rfl⟩ rfl ?_
  rintro _ _ ⟨y, I1, L1, rfl, rfl, hP⟩
  refine z_aload_n (pc' := 660) (x := 44) dL_law_659 rfl rfl ?_
  refine z_callV (pc' := 663) (M' := mX9_rest) (As := []) (b := 44) (ci := 9) dL_law_660 rfl ml_L_82 me_X9_rest (h2 y I1 L1 hP) rfl (by decide) rfl rfl (Nat.le_of_ble_eq_true rfl) (Nat.le_of_ble_eq_true rfl) ⟨Nat.le_of_ble_eq_true rfl, Nat.le_of_ble_eq_true rfl⟩ rfl ?_
  rintro _ _ ⟨y2, I2, L2, rfl, rfl, rfl, hR2⟩
  exact z_icmp_eq (pc' := 666) (tgt := 1382) dL_law_663 rfl (by decide) (fun _ => next _ _ hR2) (fun c => absurd rfl c)
theorem lc_16 (hR : Rel I L) (hL : G.2.2.2.1 ≤ 3072) (hi : i + 6 ≤ G.2.2.2.1) (next : ∀ I' L', Rel I' L' → zWp (zXl l G) mL_law (69, 11636) 1382 [some (.ref 1000), some (.ref 0), some (.ref 44), some (.int (nI i))] [] (zs I' L')) : zWp (zXl l G) mL_law (69, 11636) 668 [some (.ref 1000), some (.ref 0), some (.ref 44), some (.int (nI i))] [] (zs I L) := by
  refine z_aload_n (pc' := 669) (x := 0) dL_law_668 rfl rfl ?_
  refine z_aload_n (pc' := 670) (x := 1000) dL_law_669 rfl rfl ?_
  refine z_iload_n (pc' := 671) (x := nI i) dL_law_670 rfl rfl ?_
  refine z_iconst (pc' := 672) (v := (1 : Int32)) dL_law_671 rfl (by decide) ?_
  refine z_iadd (pc' := 673) dL_law_672 rfl ?_
  refine z_sld (pc' := 674) (j := i + 1) dL_law_673 rfl (show G.2.2.2.1 < 2 ^ 31 by omega) (nI_c i 1) (show i + 1 < G.2.2.2.1 by omega) ?_
  obtain ⟨P, h1, h2⟩ := s_settle (l := l) (G := G) (G.2.2.2.2.1 (i + 1)) I L hR
  refine z_callV (pc' := 677) (M' := mX8_settle) (As := [.int (G.2.2.2.2.1 (i + 1))]) (b := 0) (ci := 8) dL_law_674 rfl ml_L_83 me_X8_settle h1 rfl (by decide) rfl rfl (Nat.le_of_ble_eq_true rfl) (Nat.le_of_ble_eq_true rfl) ⟨Nat.le_of_ble_eq_true rfl, Nat.le_of_ble_eq_true rfl⟩ rfl ?_
  rintro _ _ ⟨y, I1, L1, rfl, rfl, hP⟩
  refine z_aload_n (pc' := 678) (x := 44) dL_law_677 rfl rfl ?_
  refine z_aload_n (pc' := 679) (x := 1000) dL_law_678 rfl rfl ?_
  refine z_iload_n (pc' := 680) (x := nI i) dL_law_679 rfl rfl ?_
  refine z_iconst (pc' := 681) (v := (1 : Int32)) dL_law_680 rfl (by decide) ?_
  refine z_iadd (pc' := 682) dL_law_681 rfl ?_
  refine z_sld (pc' := 683) (j := i + 1) dL_law_682 rfl (show G.2.2.2.1 < 2 ^ 31 by omega) (nI_c i 1) (show i + 1 < G.2.2.2.1 by omega) ?_
  refine z_callV (pc' := 686) (M' := mX9_settle) (As := [.int (G.2.2.2.2.1 (i + 1))]) (b := 44) (ci := 9) dL_law_683 rfl ml_L_86 me_X9_settle (h2 y I1 L1 hP) rfl (by decide) rfl rfl (Nat.le_of_ble_eq_true rfl) (Nat.le_of_ble_eq_true rfl) ⟨Nat.le_of_ble_eq_true rfl, Nat.le_of_ble_eq_true rfl⟩ rfl ?_
  rintro _ _ ⟨y2, I2, L2, rfl, rfl, rfl, hR2⟩
  exact z_icmp_eq (pc' := 689) (tgt := 1382) dL_law_686 rfl (by decide) (fun _ => next _ _ hR2) (fun c => absurd rfl c)
theorem lc_17 (hR : Rel I L) (hL : G.2.2.2.1 ≤ 3072) (hi : i + 6 ≤ G.2.2.2.1) (next : ∀ I' L', Rel I' L' → zWp (zXl l G) mL_law (69, 11636) 1382 [some (.ref 1000), some (.ref 0), some (.ref 44), some (.int (nI i))] [] (zs I' L')) : zWp (zXl l G) mL_law (69, 11636) 691 [some (.ref 1000), some (.ref 0), some (.ref 44), some (.int (nI i))] [] (zs I L) := by
  refine z_aload_n (pc' := 692) (x := 0) dL_law_691 rfl rfl ?_
  refine z_aload_n (pc' := 693) (x := 1000) dL_law_692 rfl rfl ?_
  refine z_iload_n (pc' := 694) (x := nI i) dL_law_693 rfl rfl ?_
  refine z_iconst (pc' := 695) (v := (1 : Int32)) dL_law_694 rfl (by decide) ?_
  refine z_iadd (pc' := 696) dL_law_695 rfl ?_
  refine z_sld (pc' := 697) (j := i + 1) dL_law_696 rfl (show G.2.2.2.1 < 2 ^ 31 by omega) (nI_c i 1) (show i + 1 < G.2.2.2.1 by omega) ?_
  obtain ⟨P, h1, h2⟩ := s_even (l := l) (G := G) (G.2.2.2.2.1 (i + 1)) I L hR
  refine z_callV (pc' := 700) (M' := mX8_even) (As := [.int (G.2.2.2.2.1 (i + 1))]) (b := 0) (ci := 8) dL_law_697 rfl ml_L_87 me_X8_even h1 rfl (by decide) rfl rfl (Nat.le_of_ble_eq_true rfl) (Nat.le_of_ble_eq_true rfl) ⟨Nat.le_of_ble_eq_true rfl, Nat.le_of_ble_eq_true rfl⟩ rfl ?_
  rintro _ _ ⟨y, I1, L1, rfl, rfl, hP⟩
  refine z_aload_n (pc' := 701) (x := 44) dL_law_700 rfl rfl ?_
  refine z_aload_n (pc' := 702) (x := 1000) dL_law_701 rfl rfl ?_
  refine z_iload_n (pc' := 703) (x := nI i) dL_law_702 rfl rfl ?_
  refine z_iconst (pc' := 704) (v := (1 : Int32)) dL_law_703 rfl (by decide) ?_
  refine z_iadd (pc' := 705) dL_law_704 rfl ?_
  refine z_sld (pc' := 706) (j := i + 1) dL_law_705 rfl (show G.2.2.2.1 < 2 ^ 31 by omega) (nI_c i 1) (show i + 1 < G.2.2.2.1 by omega) ?_
  refine z_callV (pc' := 709) (M' := mX9_even) (As := [.int (G.2.2.2.2.1 (i + 1))]) (b := 44) (ci := 9) dL_law_706 rfl ml_L_90 me_X9_even (h2 y I1 L1 hP) rfl (by decide) rfl rfl (Nat.le_of_ble_eq_true rfl) (Nat.le_of_ble_eq_true rfl) ⟨Nat.le_of_ble_eq_true rfl, Nat.le_of_ble_eq_true rfl⟩ rfl ?_
  rintro _ _ ⟨y2, I2, L2, rfl, rfl, rfl, hR2⟩
  exact z_icmp_eq (pc' := 712) (tgt := 1382) dL_law_709 rfl (by decide) (fun _ => next _ _ hR2) (fun c => absurd rfl c)
theorem lc_18 (hR : Rel I L) (hL : G.2.2.2.1 ≤ 3072) (hi : i + 6 ≤ G.2.2.2.1) (next : ∀ I' L', Rel I' L' → zWp (zXl l G) mL_law (69, 11636) 1382 [some (.ref 1000), some (.ref 0), some (.ref 44), some (.int (nI i))] [] (zs I' L')) : zWp (zXl l G) mL_law (69, 11636) 714 [some (.ref 1000), some (.ref 0), some (.ref 44), some (.int (nI i))] [] (zs I L) := by
  refine z_aload_n (pc' := 715) (x := 0) dL_law_714 rfl rfl ?_
  refine z_aload_n (pc' := 716) (x := 1000) dL_law_715 rfl rfl ?_
  refine z_iload_n (pc' := 717) (x := nI i) dL_law_716 rfl rfl ?_
  refine z_iconst (pc' := 718) (v := (1 : Int32)) dL_law_717 rfl (by decide) ?_
  refine z_iadd (pc' := 719) dL_law_718 rfl ?_
  refine z_sld (pc' := 720) (j := i + 1) dL_law_719 rfl (show G.2.2.2.1 < 2 ^ 31 by omega) (nI_c i 1) (show i + 1 < G.2.2.2.1 by omega) ?_
  obtain ⟨P, h1, h2⟩ := s_league (l := l) (G := G) (G.2.2.2.2.1 (i + 1)) I L hR
  refine z_callV (pc' := 723) (M' := mX8_league) (As := [.int (G.2.2.2.2.1 (i + 1))]) (b := 0) (ci := 8) dL_law_720 rfl ml_L_91 me_X8_league h1 rfl (by decide) rfl rfl (Nat.le_of_ble_eq_true rfl) (Nat.le_of_ble_eq_true rfl) ⟨Nat.le_of_ble_eq_true rfl, Nat.le_of_ble_eq_true rfl⟩ rfl ?_
  rintro _ _ ⟨y, I1, L1, rfl, rfl, hP⟩
  refine z_aload_n (pc' := 724) (x := 44) dL_law_723 rfl rfl ?_
  refine z_aload_n (pc' := 725) (x := 1000) dL_law_724 rfl rfl ?_
  refine z_iload_n (pc' := 726) (x := nI i) dL_law_725 rfl rfl ?_
  refine z_iconst (pc' := 727) (v := (1 : Int32)) dL_law_726 rfl (by decide) ?_
  refine z_iadd (pc' := 728) dL_law_727 rfl ?_
  refine z_sld (pc' := 729) (j := i + 1) dL_law_728 rfl (show G.2.2.2.1 < 2 ^ 31 by omega) (nI_c i 1) (show i + 1 < G.2.2.2.1 by omega) ?_
  refine z_callV (pc' := 732) (M' := mX9_league) (As := [.int (G.2.2.2.2.1 (i + 1))]) (b := 44) (ci := 9) dL_law_729 rfl ml_L_94 me_X9_league (h2 y I1 L1 hP) rfl (by decide) rfl rfl (Nat.le_of_ble_eq_true rfl) (Nat.le_of_ble_eq_true rfl) ⟨Nat.le_of_ble_eq_true rfl, Nat.le_of_ble_eq_true rfl⟩ rfl ?_
  rintro _ _ ⟨y2, I2, L2, rfl, rfl, rfl, hR2⟩
  exact z_icmp_eq (pc' := 735) (tgt := 1382) dL_law_732 rfl (by decide) (fun _ => next _ _ hR2) (fun c => absurd rfl c)
theorem lc_19 (hR : Rel I L) (hL : G.2.2.2.1 ≤ 3072) (hi : i + 6 ≤ G.2.2.2.1) (next : ∀ I' L', Rel I' L' → zWp (zXl l G) mL_law (69, 11636) 1382 [some (.ref 1000), some (.ref 0), some (.ref 44), some (.int (nI i))] [] (zs I' L')) : zWp (zXl l G) mL_law (69, 11636) 737 [some (.ref 1000), some (.ref 0), some (.ref 44), some (.int (nI i))] [] (zs I L) := by
  refine z_aload_n (pc' := 738) (x := 0) dL_law_737 rfl rfl ?_
  refine z_aload_n (pc' := 739) (x := 1000) dL_law_738 rfl rfl ?_
  refine z_iload_n (pc' := 740) (x := nI i) dL_law_739 rfl rfl ?_
  refine z_iconst (pc' := 741) (v := (1 : Int32)) dL_law_740 rfl (by decide) ?_
  refine z_iadd (pc' := 742) dL_law_741 rfl ?_
  refine z_sld (pc' := 743) (j := i + 1) dL_law_742 rfl (show G.2.2.2.1 < 2 ^ 31 by omega) (nI_c i 1) (show i + 1 < G.2.2.2.1 by omega) ?_
  obtain ⟨P, h1, h2⟩ := s_points (l := l) (G := G) (G.2.2.2.2.1 (i + 1)) I L hR
  refine z_callV (pc' := 746) (M' := mX8_points) (As := [.int (G.2.2.2.2.1 (i + 1))]) (b := 0) (ci := 8) dL_law_743 rfl ml_L_95 me_X8_points h1 rfl (by decide) rfl rfl (Nat.le_of_ble_eq_true rfl) (Nat.le_of_ble_eq_true rfl) ⟨Nat.le_of_ble_eq_true rfl, Nat.le_of_ble_eq_true rfl⟩ rfl ?_
  rintro _ _ ⟨y, I1, L1, rfl, rfl, hP⟩
  refine z_aload_n (pc' := 747) (x := 44) dL_law_746 rfl rfl ?_
  refine z_aload_n (pc' := 748) (x := 1000) dL_law_747 rfl rfl ?_
  refine z_iload_n (pc' := 749) (x := nI i) dL_law_748 rfl rfl ?_
  refine z_iconst (pc' := 750) (v := (1 : Int32)) dL_law_749 rfl (by decide) ?_
  refine z_iadd (pc' := 751) dL_law_750 rfl ?_
  refine z_sld (pc' := 752) (j := i + 1) dL_law_751 rfl (show G.2.2.2.1 < 2 ^ 31 by omega) (nI_c i 1) (show i + 1 < G.2.2.2.1 by omega) ?_
  refine z_callV (pc' := 755) (M' := mX9_points) (As := [.int (G.2.2.2.2.1 (i + 1))]) (b := 44) (ci := 9) dL_law_752 rfl ml_L_98 me_X9_points (h2 y I1 L1 hP) rfl (by decide) rfl rfl (Nat.le_of_ble_eq_true rfl) (Nat.le_of_ble_eq_true rfl) ⟨Nat.le_of_ble_eq_true rfl, Nat.le_of_ble_eq_true rfl⟩ rfl ?_
  rintro _ _ ⟨y2, I2, L2, rfl, rfl, rfl, hR2⟩
  exact z_icmp_eq (pc' := 758) (tgt := 1382) dL_law_755 rfl (by decide) (fun _ => next _ _ hR2) (fun c => absurd rfl c)
theorem lc_20 (hR : Rel I L) (hL : G.2.2.2.1 ≤ 3072) (hi : i + 6 ≤ G.2.2.2.1) (next : ∀ I' L', Rel I' L' → zWp (zXl l G) mL_law (69, 11636) 1382 [some (.ref 1000), some (.ref 0), some (.ref 44), some (.int (nI i))] [] (zs I' L')) : zWp (zXl l G) mL_law (69, 11636) 760 [some (.ref 1000), some (.ref 0), some (.ref 44), some (.int (nI i))] [] (zs I L) := by
  refine z_aload_n (pc' := 761) (x := 0) dL_law_760 rfl rfl ?_
  refine z_aload_n (pc' := 762) (x := 1000) dL_law_761 rfl rfl ?_
  refine z_iload_n (pc' := 763) (x := nI i) dL_law_762 rfl rfl ?_
  refine z_iconst (pc' := 764) (v := (1 : Int32)) dL_law_763 rfl (by decide) ?_
  refine z_iadd (pc' := 765) dL_law_764 rfl ?_
  refine z_sld (pc' := 766) (j := i + 1) dL_law_765 rfl (show G.2.2.2.1 < 2 ^ 31 by omega) (nI_c i 1) (show i + 1 < G.2.2.2.1 by omega) ?_
  refine z_aload_n (pc' := 767) (x := 1000) dL_law_766 rfl rfl ?_
  refine z_iload_n (pc' := 768) (x := nI i) dL_law_767 rfl rfl ?_
  refine z_iconst (pc' := 769) (v := (2 : Int32)) dL_law_768 rfl (by decide) ?_
  refine z_iadd (pc' := 770) dL_law_769 rfl ?_
  refine z_sld (pc' := 771) (j := i + 2) dL_law_770 rfl (show G.2.2.2.1 < 2 ^ 31 by omega) (nI_c i 2) (show i + 2 < G.2.2.2.1 by omega) ?_
  obtain ⟨P, h1, h2⟩ := s_judge (l := l) (G := G) (G.2.2.2.2.1 (i + 1)) (G.2.2.2.2.1 (i + 2)) I L hR
  refine z_callV (pc' := 774) (M' := mX8_judge) (As := [.int (G.2.2.2.2.1 (i + 1)), .int (G.2.2.2.2.1 (i + 2))]) (b := 0) (ci := 8) dL_law_771 rfl ml_L_99 me_X8_judge h1 rfl (by decide) rfl rfl (Nat.le_of_ble_eq_true rfl) (Nat.le_of_ble_eq_true rfl) ⟨Nat.le_of_ble_eq_true rfl, Nat.le_of_ble_eq_true rfl⟩ rfl ?_
  rintro _ _ ⟨y, I1, L1, rfl, rfl, hP⟩
  refine z_aload_n (pc' := 775) (x := 44) dL_law_774 rfl rfl ?_
  refine z_aload_n (pc' := 776) (x := 1000) dL_law_775 rfl rfl ?_
  refine z_iload_n (pc' := 777) (x := nI i) dL_law_776 rfl rfl ?_
  refine z_iconst (pc' := 778) (v := (1 : Int32)) dL_law_777 rfl (by decide) ?_
  refine z_iadd (pc' := 779) dL_law_778 rfl ?_
  refine z_sld (pc' := 780) (j := i + 1) dL_law_779 rfl (show G.2.2.2.1 < 2 ^ 31 by omega) (nI_c i 1) (show i + 1 < G.2.2.2.1 by omega) ?_
  refine z_aload_n (pc' := 781) (x := 1000) dL_law_780 rfl rfl ?_
  refine z_iload_n (pc' := 782) (x := nI i) dL_law_781 rfl rfl ?_
  refine z_iconst (pc' := 783) (v := (2 : Int32)) dL_law_782 rfl (by decide) ?_
  refine z_iadd (pc' := 784) dL_law_783 rfl ?_
  refine z_sld (pc' := 785) (j := i + 2) dL_law_784 rfl (show G.2.2.2.1 < 2 ^ 31 by omega) (nI_c i 2) (show i + 2 < G.2.2.2.1 by omega) ?_
  refine z_callV (pc' := 788) (M' := mX9_judge) (As := [.int (G.2.2.2.2.1 (i + 1)), .int (G.2.2.2.2.1 (i + 2))]) (b := 44) (ci := 9) dL_law_785 rfl ml_L_102 me_X9_judge (h2 y I1 L1 hP) rfl (by decide) rfl rfl (Nat.le_of_ble_eq_true rfl) (Nat.le_of_ble_eq_true rfl) ⟨Nat.le_of_ble_eq_true rfl, Nat.le_of_ble_eq_true rfl⟩ rfl ?_
  rintro _ _ ⟨y2, I2, L2, rfl, rfl, rfl, hR2⟩
  exact z_icmp_eq (pc' := 791) (tgt := 1382) dL_law_788 rfl (by decide) (fun _ => next _ _ hR2) (fun c => absurd rfl c)
theorem lc_21 (hR : Rel I L) (hL : G.2.2.2.1 ≤ 3072) (hi : i + 6 ≤ G.2.2.2.1) (next : ∀ I' L', Rel I' L' → zWp (zXl l G) mL_law (69, 11636) 1382 [some (.ref 1000), some (.ref 0), some (.ref 44), some (.int (nI i))] [] (zs I' L')) : zWp (zXl l G) mL_law (69, 11636) 793 [some (.ref 1000), some (.ref 0), some (.ref 44), some (.int (nI i))] [] (zs I L) := by
  refine z_aload_n (pc' := 794) (x := 0) dL_law_793 rfl rfl ?_
  refine z_aload_n (pc' := 795) (x := 1000) dL_law_794 rfl rfl ?_
  refine z_iload_n (pc' := 796) (x := nI i) dL_law_795 rfl rfl ?_
  refine z_iconst (pc' := 797) (v := (1 : Int32)) dL_law_796 rfl (by decide) ?_
  refine z_iadd (pc' := 798) dL_law_797 rfl ?_
  refine z_sld (pc' := 799) (j := i + 1) dL_law_798 rfl (show G.2.2.2.1 < 2 ^ 31 by omega) (nI_c i 1) (show i + 1 < G.2.2.2.1 by omega) ?_
  refine z_aload_n (pc' := 800) (x := 1000) dL_law_799 rfl rfl ?_
  refine z_iload_n (pc' := 801) (x := nI i) dL_law_800 rfl rfl ?_
  refine z_iconst (pc' := 802) (v := (2 : Int32)) dL_law_801 rfl (by decide) ?_
  refine z_iadd (pc' := 803) dL_law_802 rfl ?_
  refine z_sld (pc' := 804) (j := i + 2) dL_law_803 rfl (show G.2.2.2.1 < 2 ^ 31 by omega) (nI_c i 2) (show i + 2 < G.2.2.2.1 by omega) ?_
  obtain ⟨P, h1, h2⟩ := s_chance (l := l) (G := G) (G.2.2.2.2.1 (i + 1)) (G.2.2.2.2.1 (i + 2)) I L hR
  refine z_callV (pc' := 807) (M' := mX8_chance) (As := [.int (G.2.2.2.2.1 (i + 1)), .int (G.2.2.2.2.1 (i + 2))]) (b := 0) (ci := 8) dL_law_804 rfl ml_L_103 me_X8_chance h1 rfl (by decide) rfl rfl (Nat.le_of_ble_eq_true rfl) (Nat.le_of_ble_eq_true rfl) ⟨Nat.le_of_ble_eq_true rfl, Nat.le_of_ble_eq_true rfl⟩ rfl ?_
  rintro _ _ ⟨y, I1, L1, rfl, rfl, hP⟩
  refine z_aload_n (pc' := 808) (x := 44) dL_law_807 rfl rfl ?_
  refine z_aload_n (pc' := 809) (x := 1000) dL_law_808 rfl rfl ?_
  refine z_iload_n (pc' := 810) (x := nI i) dL_law_809 rfl rfl ?_
  refine z_iconst (pc' := 811) (v := (1 : Int32)) dL_law_810 rfl (by decide) ?_
  refine z_iadd (pc' := 812) dL_law_811 rfl ?_
  refine z_sld (pc' := 813) (j := i + 1) dL_law_812 rfl (show G.2.2.2.1 < 2 ^ 31 by omega) (nI_c i 1) (show i + 1 < G.2.2.2.1 by omega) ?_
  refine z_aload_n (pc' := 814) (x := 1000) dL_law_813 rfl rfl ?_
  refine z_iload_n (pc' := 815) (x := nI i) dL_law_814 rfl rfl ?_
  refine z_iconst (pc' := 816) (v := (2 : Int32)) dL_law_815 rfl (by decide) ?_
  refine z_iadd (pc' := 817) dL_law_816 rfl ?_
  refine z_sld (pc' := 818) (j := i + 2) dL_law_817 rfl (show G.2.2.2.1 < 2 ^ 31 by omega) (nI_c i 2) (show i + 2 < G.2.2.2.1 by omega) ?_
  refine z_callV (pc' := 821) (M' := mX9_chance) (As := [.int (G.2.2.2.2.1 (i + 1)), .int (G.2.2.2.2.1 (i + 2))]) (b := 44) (ci := 9) dL_law_818 rfl ml_L_106 me_X9_chance (h2 y I1 L1 hP) rfl (by decide) rfl rfl (Nat.le_of_ble_eq_true rfl) (Nat.le_of_ble_eq_true rfl) ⟨Nat.le_of_ble_eq_true rfl, Nat.le_of_ble_eq_true rfl⟩ rfl ?_
  rintro _ _ ⟨y2, I2, L2, rfl, rfl, rfl, hR2⟩
  exact z_lc_eq (pc' := 825) (tgt := 1382) dL_law_821 dL_law_822 rfl (by decide) (fun _ => next _ _ hR2) (fun c => absurd rfl c)
theorem lc_22 (hR : Rel I L) (hL : G.2.2.2.1 ≤ 3072) (hi : i + 6 ≤ G.2.2.2.1) (next : ∀ I' L', Rel I' L' → zWp (zXl l G) mL_law (69, 11636) 1382 [some (.ref 1000), some (.ref 0), some (.ref 44), some (.int (nI i))] [] (zs I' L')) : zWp (zXl l G) mL_law (69, 11636) 827 [some (.ref 1000), some (.ref 0), some (.ref 44), some (.int (nI i))] [] (zs I L) := by
  refine z_aload_n (pc' := 828) (x := 0) dL_law_827 rfl rfl ?_
  refine z_aload_n (pc' := 829) (x := 1000) dL_law_828 rfl rfl ?_
  refine z_iload_n (pc' := 830) (x := nI i) dL_law_829 rfl rfl ?_
  refine z_iconst (pc' := 831) (v := (1 : Int32)) dL_law_830 rfl (by decide) ?_
  refine z_iadd (pc' := 832) dL_law_831 rfl ?_
  refine z_sld (pc' := 833) (j := i + 1) dL_law_832 rfl (show G.2.2.2.1 < 2 ^ 31 by omega) (nI_c i 1) (show i + 1 < G.2.2.2.1 by omega) ?_
  refine z_aload_n (pc' := 834) (x := 1000) dL_law_833 rfl rfl ?_
  refine z_iload_n (pc' := 835) (x := nI i) dL_law_834 rfl rfl ?_
  refine z_iconst (pc' := 836) (v := (2 : Int32)) dL_law_835 rfl (by decide) ?_
  refine z_iadd (pc' := 837) dL_law_836 rfl ?_
  refine z_sld (pc' := 838) (j := i + 2) dL_law_837 rfl (show G.2.2.2.1 < 2 ^ 31 by omega) (nI_c i 2) (show i + 2 < G.2.2.2.1 by omega) ?_
  obtain ⟨P, h1, h2⟩ := s_seen (l := l) (G := G) (G.2.2.2.2.1 (i + 1)) (G.2.2.2.2.1 (i + 2)) I L hR
  refine z_callV (pc' := 841) (M' := mX8_seen) (As := [.int (G.2.2.2.2.1 (i + 1)), .int (G.2.2.2.2.1 (i + 2))]) (b := 0) (ci := 8) dL_law_838 rfl ml_L_107 me_X8_seen h1 rfl (by decide) rfl rfl (Nat.le_of_ble_eq_true rfl) (Nat.le_of_ble_eq_true rfl) ⟨Nat.le_of_ble_eq_true rfl, Nat.le_of_ble_eq_true rfl⟩ rfl ?_
  rintro _ _ ⟨y, I1, L1, rfl, rfl, hP⟩
  refine z_aload_n (pc' := 842) (x := 44) dL_law_841 rfl rfl ?_
  refine z_aload_n (pc' := 843) (x := 1000) dL_law_842 rfl rfl ?_
  refine z_iload_n (pc' := 844) (x := nI i) dL_law_843 rfl rfl ?_
  refine z_iconst (pc' := 845) (v := (1 : Int32)) dL_law_844 rfl (by decide) ?_
  refine z_iadd (pc' := 846) dL_law_845 rfl ?_
  refine z_sld (pc' := 847) (j := i + 1) dL_law_846 rfl (show G.2.2.2.1 < 2 ^ 31 by omega) (nI_c i 1) (show i + 1 < G.2.2.2.1 by omega) ?_
  refine z_aload_n (pc' := 848) (x := 1000) dL_law_847 rfl rfl ?_
  refine z_iload_n (pc' := 849) (x := nI i) dL_law_848 rfl rfl ?_
  refine z_iconst (pc' := 850) (v := (2 : Int32)) dL_law_849 rfl (by decide) ?_
  refine z_iadd (pc' := 851) dL_law_850 rfl ?_
  refine z_sld (pc' := 852) (j := i + 2) dL_law_851 rfl (show G.2.2.2.1 < 2 ^ 31 by omega) (nI_c i 2) (show i + 2 < G.2.2.2.1 by omega) ?_
  refine z_callV (pc' := 855) (M' := mX9_seen) (As := [.int (G.2.2.2.2.1 (i + 1)), .int (G.2.2.2.2.1 (i + 2))]) (b := 44) (ci := 9) dL_law_852 rfl ml_L_110 me_X9_seen (h2 y I1 L1 hP) rfl (by decide) rfl rfl (Nat.le_of_ble_eq_true rfl) (Nat.le_of_ble_eq_true rfl) ⟨Nat.le_of_ble_eq_true rfl, Nat.le_of_ble_eq_true rfl⟩ rfl ?_
  rintro _ _ ⟨y2, I2, L2, rfl, rfl, rfl, hR2⟩
  exact z_icmp_eq (pc' := 858) (tgt := 1382) dL_law_855 rfl (by decide) (fun _ => next _ _ hR2) (fun c => absurd rfl c)
theorem lc_23 (hR : Rel I L) (hL : G.2.2.2.1 ≤ 3072) (hi : i + 6 ≤ G.2.2.2.1) (next : ∀ I' L', Rel I' L' → zWp (zXl l G) mL_law (69, 11636) 1382 [some (.ref 1000), some (.ref 0), some (.ref 44), some (.int (nI i))] [] (zs I' L')) : zWp (zXl l G) mL_law (69, 11636) 860 [some (.ref 1000), some (.ref 0), some (.ref 44), some (.int (nI i))] [] (zs I L) := by
  refine z_aload_n (pc' := 861) (x := 0) dL_law_860 rfl rfl ?_
  refine z_aload_n (pc' := 862) (x := 1000) dL_law_861 rfl rfl ?_
  refine z_iload_n (pc' := 863) (x := nI i) dL_law_862 rfl rfl ?_
  refine z_iconst (pc' := 864) (v := (1 : Int32)) dL_law_863 rfl (by decide) ?_
  refine z_iadd (pc' := 865) dL_law_864 rfl ?_
  refine z_sld (pc' := 866) (j := i + 1) dL_law_865 rfl (show G.2.2.2.1 < 2 ^ 31 by omega) (nI_c i 1) (show i + 1 < G.2.2.2.1 by omega) ?_
  refine z_aload_n (pc' := 867) (x := 1000) dL_law_866 rfl rfl ?_
  refine z_iload_n (pc' := 868) (x := nI i) dL_law_867 rfl rfl ?_
  refine z_iconst (pc' := 869) (v := (2 : Int32)) dL_law_868 rfl (by decide) ?_
  refine z_iadd (pc' := 870) dL_law_869 rfl ?_
  refine z_sld (pc' := 871) (j := i + 2) dL_law_870 rfl (show G.2.2.2.1 < 2 ^ 31 by omega) (nI_c i 2) (show i + 2 < G.2.2.2.1 by omega) ?_
  refine z_aload_n (pc' := 872) (x := 1000) dL_law_871 rfl rfl ?_
  refine z_iload_n (pc' := 873) (x := nI i) dL_law_872 rfl rfl ?_
  refine z_iconst (pc' := 874) (v := (3 : Int32)) dL_law_873 rfl (by decide) ?_
  refine z_iadd (pc' := 875) dL_law_874 rfl ?_
  refine z_sld (pc' := 876) (j := i + 3) dL_law_875 rfl (show G.2.2.2.1 < 2 ^ 31 by omega) (nI_c i 3) (show i + 3 < G.2.2.2.1 by omega) ?_
  obtain ⟨P, h1, h2⟩ := s_drawn (l := l) (G := G) (G.2.2.2.2.1 (i + 1)) (G.2.2.2.2.1 (i + 2)) (G.2.2.2.2.1 (i + 3)) I L hR
  refine z_callV (pc' := 879) (M' := mX8_drawn) (As := [.int (G.2.2.2.2.1 (i + 1)), .int (G.2.2.2.2.1 (i + 2)), .int (G.2.2.2.2.1 (i + 3))]) (b := 0) (ci := 8) dL_law_876 rfl ml_L_111 me_X8_drawn h1 rfl (by decide) rfl rfl (Nat.le_of_ble_eq_true rfl) (Nat.le_of_ble_eq_true rfl) ⟨Nat.le_of_ble_eq_true rfl, Nat.le_of_ble_eq_true rfl⟩ rfl ?_
  rintro _ _ ⟨y, I1, L1, rfl, rfl, hP⟩
  refine z_aload_n (pc' := 880) (x := 44) dL_law_879 rfl rfl ?_
  refine z_aload_n (pc' := 881) (x := 1000) dL_law_880 rfl rfl ?_
  refine z_iload_n (pc' := 882) (x := nI i) dL_law_881 rfl rfl ?_
  refine z_iconst (pc' := 883) (v := (1 : Int32)) dL_law_882 rfl (by decide) ?_
  refine z_iadd (pc' := 884) dL_law_883 rfl ?_
  refine z_sld (pc' := 885) (j := i + 1) dL_law_884 rfl (show G.2.2.2.1 < 2 ^ 31 by omega) (nI_c i 1) (show i + 1 < G.2.2.2.1 by omega) ?_
  refine z_aload_n (pc' := 886) (x := 1000) dL_law_885 rfl rfl ?_
  refine z_iload_n (pc' := 887) (x := nI i) dL_law_886 rfl rfl ?_
  refine z_iconst (pc' := 888) (v := (2 : Int32)) dL_law_887 rfl (by decide) ?_
  refine z_iadd (pc' := 889) dL_law_888 rfl ?_
  refine z_sld (pc' := 890) (j := i + 2) dL_law_889 rfl (show G.2.2.2.1 < 2 ^ 31 by omega) (nI_c i 2) (show i + 2 < G.2.2.2.1 by omega) ?_
  refine z_aload_n (pc' := 891) (x := 1000) dL_law_890 rfl rfl ?_
  refine z_iload_n (pc' := 892) (x := nI i) dL_law_891 rfl rfl ?_
  refine z_iconst (pc' := 893) (v := (3 : Int32)) dL_law_892 rfl (by decide) ?_
  refine z_iadd (pc' := 894) dL_law_893 rfl ?_
  refine z_sld (pc' := 895) (j := i + 3) dL_law_894 rfl (show G.2.2.2.1 < 2 ^ 31 by omega) (nI_c i 3) (show i + 3 < G.2.2.2.1 by omega) ?_
  refine z_callV (pc' := 898) (M' := mX9_drawn) (As := [.int (G.2.2.2.2.1 (i + 1)), .int (G.2.2.2.2.1 (i + 2)), .int (G.2.2.2.2.1 (i + 3))]) (b := 44) (ci := 9) dL_law_895 rfl ml_L_114 me_X9_drawn (h2 y I1 L1 hP) rfl (by decide) rfl rfl (Nat.le_of_ble_eq_true rfl) (Nat.le_of_ble_eq_true rfl) ⟨Nat.le_of_ble_eq_true rfl, Nat.le_of_ble_eq_true rfl⟩ rfl ?_
  rintro _ _ ⟨y2, I2, L2, rfl, rfl, rfl, hR2⟩
  exact z_icmp_eq (pc' := 901) (tgt := 1382) dL_law_898 rfl (by decide) (fun _ => next _ _ hR2) (fun c => absurd rfl c)
theorem lc_24 (hR : Rel I L) (hL : G.2.2.2.1 ≤ 3072) (hi : i + 6 ≤ G.2.2.2.1) (next : ∀ I' L', Rel I' L' → zWp (zXl l G) mL_law (69, 11636) 1382 [some (.ref 1000), some (.ref 0), some (.ref 44), some (.int (nI i))] [] (zs I' L')) : zWp (zXl l G) mL_law (69, 11636) 903 [some (.ref 1000), some (.ref 0), some (.ref 44), some (.int (nI i))] [] (zs I L) := by
  refine z_aload_n (pc' := 904) (x := 0) dL_law_903 rfl rfl ?_
  refine z_aload_n (pc' := 905) (x := 1000) dL_law_904 rfl rfl ?_
  refine z_iload_n (pc' := 906) (x := nI i) dL_law_905 rfl rfl ?_
  refine z_iconst (pc' := 907) (v := (1 : Int32)) dL_law_906 rfl (by decide) ?_
  refine z_iadd (pc' := 908) dL_law_907 rfl ?_
  refine z_sld (pc' := 909) (j := i + 1) dL_law_908 rfl (show G.2.2.2.1 < 2 ^ 31 by omega) (nI_c i 1) (show i + 1 < G.2.2.2.1 by omega) ?_
  obtain ⟨P, h1, h2⟩ := s_step (l := l) (G := G) (G.2.2.2.2.1 (i + 1)) I L hR
  refine z_callV (pc' := 912) (M' := mX8_step) (As := [.int (G.2.2.2.2.1 (i + 1))]) (b := 0) (ci := 8) dL_law_909 rfl ml_L_115 me_X8_step h1 rfl (by decide) rfl rfl (Nat.le_of_ble_eq_true rfl) (Nat.le_of_ble_eq_true rfl) ⟨Nat.le_of_ble_eq_true rfl, Nat.le_of_ble_eq_true rfl⟩ rfl ?_
  rintro _ _ ⟨y, I1, L1, rfl, rfl, hP⟩
  refine z_aload_n (pc' := 913) (x := 44) dL_law_912 rfl rfl ?_
  refine z_aload_n (pc' := 914) (x := 1000) dL_law_913 rfl rfl ?_
  refine z_iload_n (pc' := 915) (x := nI i) dL_law_914 rfl rfl ?_
  refine z_iconst (pc' := 916) (v := (1 : Int32)) dL_law_915 rfl (by decide) ?_
  refine z_iadd (pc' := 917) dL_law_916 rfl ?_
  refine z_sld (pc' := 918) (j := i + 1) dL_law_917 rfl (show G.2.2.2.1 < 2 ^ 31 by omega) (nI_c i 1) (show i + 1 < G.2.2.2.1 by omega) ?_
  refine z_callV (pc' := 921) (M' := mX9_step) (As := [.int (G.2.2.2.2.1 (i + 1))]) (b := 44) (ci := 9) dL_law_918 rfl ml_L_118 me_X9_step (h2 y I1 L1 hP) rfl (by decide) rfl rfl (Nat.le_of_ble_eq_true rfl) (Nat.le_of_ble_eq_true rfl) ⟨Nat.le_of_ble_eq_true rfl, Nat.le_of_ble_eq_true rfl⟩ rfl ?_
  rintro _ _ ⟨y2, I2, L2, rfl, rfl, rfl, hR2⟩
  exact z_icmp_eq (pc' := 924) (tgt := 1382) dL_law_921 rfl (by decide) (fun _ => next _ _ hR2) (fun c => absurd rfl c)
theorem lc_25 (hR : Rel I L) (hL : G.2.2.2.1 ≤ 3072) (hi : i + 6 ≤ G.2.2.2.1) (next : ∀ I' L', Rel I' L' → zWp (zXl l G) mL_law (69, 11636) 1382 [some (.ref 1000), some (.ref 0), some (.ref 44), some (.int (nI i))] [] (zs I' L')) : zWp (zXl l G) mL_law (69, 11636) 926 [some (.ref 1000), some (.ref 0), some (.ref 44), some (.int (nI i))] [] (zs I L) := by
  refine z_aload_n (pc' := 927) (x := 0) dL_law_926 rfl rfl ?_
  obtain ⟨P, h1, h2⟩ := s_anew (l := l) (G := G)  I L hR
  refine z_callV (pc' := 930) (M' := mX8_anew) (As := []) (b := 0) (ci := 8) dL_law_927 rfl ml_L_119 me_X8_anew h1 rfl (by decide) rfl rfl (Nat.le_of_ble_eq_true rfl) (Nat.le_of_ble_eq_true rfl) ⟨Nat.le_of_ble_eq_true rfl, Nat.le_of_ble_eq_true rfl⟩ rfl ?_
  rintro _ _ ⟨y, I1, L1, rfl, rfl, hP⟩
  refine z_aload_n (pc' := 931) (x := 44) dL_law_930 rfl rfl ?_
  refine z_callV (pc' := 934) (M' := mX9_anew) (As := []) (b := 44) (ci := 9) dL_law_931 rfl ml_L_122 me_X9_anew (h2 y I1 L1 hP) rfl (by decide) rfl rfl (Nat.le_of_ble_eq_true rfl) (Nat.le_of_ble_eq_true rfl) ⟨Nat.le_of_ble_eq_true rfl, Nat.le_of_ble_eq_true rfl⟩ rfl ?_
  rintro _ _ ⟨y2, I2, L2, rfl, rfl, rfl, hR2⟩
  exact z_icmp_eq (pc' := 937) (tgt := 1382) dL_law_934 rfl (by decide) (fun _ => next _ _ hR2) (fun c => absurd rfl c)
theorem lc_26 (hR : Rel I L) (hL : G.2.2.2.1 ≤ 3072) (hi : i + 6 ≤ G.2.2.2.1) (next : ∀ I' L', Rel I' L' → zWp (zXl l G) mL_law (69, 11636) 1382 [some (.ref 1000), some (.ref 0), some (.ref 44), some (.int (nI i))] [] (zs I' L')) : zWp (zXl l G) mL_law (69, 11636) 939 [some (.ref 1000), some (.ref 0), some (.ref 44), some (.int (nI i))] [] (zs I L) := by
  refine z_aload_n (pc' := 940) (x := 0) dL_law_939 rfl rfl ?_
  obtain ⟨P, h1, h2⟩ := s_image (l := l) (G := G)  I L hR
  refine z_callV (pc' := 943) (M' := mX8_image) (As := []) (b := 0) (ci := 8) dL_law_940 rfl ml_L_123 me_X8_image h1 rfl (by decide) rfl rfl (Nat.le_of_ble_eq_true rfl) (Nat.le_of_ble_eq_true rfl) ⟨Nat.le_of_ble_eq_true rfl, Nat.le_of_ble_eq_true rfl⟩ rfl ?_
  rintro _ _ ⟨y, I1, L1, rfl, rfl, hP⟩
  refine z_aload_n (pc' := 944) (x := 44) dL_law_943 rfl rfl ?_
  refine z_callV (pc' := 947) (M' := mX9_image) (As := []) (b := 44) (ci := 9) dL_law_944 rfl ml_L_126 me_X9_image (h2 y I1 L1 hP) rfl (by decide) rfl rfl (Nat.le_of_ble_eq_true rfl) (Nat.le_of_ble_eq_true rfl) ⟨Nat.le_of_ble_eq_true rfl, Nat.le_of_ble_eq_true rfl⟩ rfl ?_
  rintro _ _ ⟨y2, I2, L2, rfl, rfl, rfl, hR2⟩
  exact z_icmp_eq (pc' := 950) (tgt := 1382) dL_law_947 rfl (by decide) (fun _ => next _ _ hR2) (fun c => absurd rfl c)
theorem lc_27 (hR : Rel I L) (hL : G.2.2.2.1 ≤ 3072) (hi : i + 6 ≤ G.2.2.2.1) (next : ∀ I' L', Rel I' L' → zWp (zXl l G) mL_law (69, 11636) 1382 [some (.ref 1000), some (.ref 0), some (.ref 44), some (.int (nI i))] [] (zs I' L')) : zWp (zXl l G) mL_law (69, 11636) 952 [some (.ref 1000), some (.ref 0), some (.ref 44), some (.int (nI i))] [] (zs I L) := by
  refine z_aload_n (pc' := 953) (x := 0) dL_law_952 rfl rfl ?_
  obtain ⟨P, h1, h2⟩ := s_back (l := l) (G := G)  I L hR
  refine z_callV (pc' := 956) (M' := mX8_back) (As := []) (b := 0) (ci := 8) dL_law_953 rfl ml_L_127 me_X8_back h1 rfl (by decide) rfl rfl (Nat.le_of_ble_eq_true rfl) (Nat.le_of_ble_eq_true rfl) ⟨Nat.le_of_ble_eq_true rfl, Nat.le_of_ble_eq_true rfl⟩ rfl ?_
  rintro _ _ ⟨y, I1, L1, rfl, rfl, hP⟩
  refine z_aload_n (pc' := 957) (x := 44) dL_law_956 rfl rfl ?_
  refine z_callV (pc' := 960) (M' := mX9_back) (As := []) (b := 44) (ci := 9) dL_law_957 rfl ml_L_130 me_X9_back (h2 y I1 L1 hP) rfl (by decide) rfl rfl (Nat.le_of_ble_eq_true rfl) (Nat.le_of_ble_eq_true rfl) ⟨Nat.le_of_ble_eq_true rfl, Nat.le_of_ble_eq_true rfl⟩ rfl ?_
  rintro _ _ ⟨y2, I2, L2, rfl, rfl, rfl, hR2⟩
  exact z_icmp_eq (pc' := 963) (tgt := 1382) dL_law_960 rfl (by decide) (fun _ => next _ _ hR2) (fun c => absurd rfl c)
theorem lc_28 (hR : Rel I L) (hL : G.2.2.2.1 ≤ 3072) (hi : i + 6 ≤ G.2.2.2.1) (next : ∀ I' L', Rel I' L' → zWp (zXl l G) mL_law (69, 11636) 1382 [some (.ref 1000), some (.ref 0), some (.ref 44), some (.int (nI i))] [] (zs I' L')) : zWp (zXl l G) mL_law (69, 11636) 965 [some (.ref 1000), some (.ref 0), some (.ref 44), some (.int (nI i))] [] (zs I L) := by
  refine z_aload_n (pc' := 966) (x := 0) dL_law_965 rfl rfl ?_
  obtain ⟨P, h1, h2⟩ := s_undo (l := l) (G := G)  I L hR
  refine z_callV (pc' := 969) (M' := mX8_undo) (As := []) (b := 0) (ci := 8) dL_law_966 rfl ml_L_131 me_X8_undo h1 rfl (by decide) rfl rfl (Nat.le_of_ble_eq_true rfl) (Nat.le_of_ble_eq_true rfl) ⟨Nat.le_of_ble_eq_true rfl, Nat.le_of_ble_eq_true rfl⟩ rfl ?_
  rintro _ _ ⟨y, I1, L1, rfl, rfl, hP⟩
  refine z_aload_n (pc' := 970) (x := 44) dL_law_969 rfl rfl ?_
  refine z_callV (pc' := 973) (M' := mX9_undo) (As := []) (b := 44) (ci := 9) dL_law_970 rfl ml_L_134 me_X9_undo (h2 y I1 L1 hP) rfl (by decide) rfl rfl (Nat.le_of_ble_eq_true rfl) (Nat.le_of_ble_eq_true rfl) ⟨Nat.le_of_ble_eq_true rfl, Nat.le_of_ble_eq_true rfl⟩ rfl ?_
  rintro _ _ ⟨y2, I2, L2, rfl, rfl, rfl, hR2⟩
  exact z_icmp_eq (pc' := 976) (tgt := 1382) dL_law_973 rfl (by decide) (fun _ => next _ _ hR2) (fun c => absurd rfl c)
theorem lc_29 (hR : Rel I L) (hL : G.2.2.2.1 ≤ 3072) (hi : i + 6 ≤ G.2.2.2.1) (next : ∀ I' L', Rel I' L' → zWp (zXl l G) mL_law (69, 11636) 1382 [some (.ref 1000), some (.ref 0), some (.ref 44), some (.int (nI i))] [] (zs I' L')) : zWp (zXl l G) mL_law (69, 11636) 978 [some (.ref 1000), some (.ref 0), some (.ref 44), some (.int (nI i))] [] (zs I L) := by
  refine z_aload_n (pc' := 979) (x := 0) dL_law_978 rfl rfl ?_
  obtain ⟨P, h1, h2⟩ := s_redo (l := l) (G := G)  I L hR
  refine z_callV (pc' := 982) (M' := mX8_redo) (As := []) (b := 0) (ci := 8) dL_law_979 rfl ml_L_135 me_X8_redo h1 rfl (by decide) rfl rfl (Nat.le_of_ble_eq_true rfl) (Nat.le_of_ble_eq_true rfl) ⟨Nat.le_of_ble_eq_true rfl, Nat.le_of_ble_eq_true rfl⟩ rfl ?_
  rintro _ _ ⟨y, I1, L1, rfl, rfl, hP⟩
  refine z_aload_n (pc' := 983) (x := 44) dL_law_982 rfl rfl ?_
  refine z_callV (pc' := 986) (M' := mX9_redo) (As := []) (b := 44) (ci := 9) dL_law_983 rfl ml_L_138 me_X9_redo (h2 y I1 L1 hP) rfl (by decide) rfl rfl (Nat.le_of_ble_eq_true rfl) (Nat.le_of_ble_eq_true rfl) ⟨Nat.le_of_ble_eq_true rfl, Nat.le_of_ble_eq_true rfl⟩ rfl ?_
  rintro _ _ ⟨y2, I2, L2, rfl, rfl, rfl, hR2⟩
  exact z_icmp_eq (pc' := 989) (tgt := 1382) dL_law_986 rfl (by decide) (fun _ => next _ _ hR2) (fun c => absurd rfl c)
theorem lc_30 (hR : Rel I L) (hL : G.2.2.2.1 ≤ 3072) (hi : i + 6 ≤ G.2.2.2.1) (next : ∀ I' L', Rel I' L' → zWp (zXl l G) mL_law (69, 11636) 1382 [some (.ref 1000), some (.ref 0), some (.ref 44), some (.int (nI i))] [] (zs I' L')) : zWp (zXl l G) mL_law (69, 11636) 991 [some (.ref 1000), some (.ref 0), some (.ref 44), some (.int (nI i))] [] (zs I L) := by
  refine z_aload_n (pc' := 992) (x := 0) dL_law_991 rfl rfl ?_
  refine z_aload_n (pc' := 993) (x := 1000) dL_law_992 rfl rfl ?_
  refine z_iload_n (pc' := 994) (x := nI i) dL_law_993 rfl rfl ?_
  refine z_iconst (pc' := 995) (v := (1 : Int32)) dL_law_994 rfl (by decide) ?_
  refine z_iadd (pc' := 996) dL_law_995 rfl ?_
  refine z_sld (pc' := 997) (j := i + 1) dL_law_996 rfl (show G.2.2.2.1 < 2 ^ 31 by omega) (nI_c i 1) (show i + 1 < G.2.2.2.1 by omega) ?_
  obtain ⟨P, h1, h2⟩ := s_body (l := l) (G := G) (G.2.2.2.2.1 (i + 1)) I L hR
  refine z_callV (pc' := 1000) (M' := mX8_body) (As := [.int (G.2.2.2.2.1 (i + 1))]) (b := 0) (ci := 8) dL_law_997 rfl ml_L_139 me_X8_body h1 rfl (by decide) rfl rfl (Nat.le_of_ble_eq_true rfl) (Nat.le_of_ble_eq_true rfl) ⟨Nat.le_of_ble_eq_true rfl, Nat.le_of_ble_eq_true rfl⟩ rfl ?_
  rintro _ _ ⟨y, I1, L1, rfl, rfl, hP⟩
  refine z_aload_n (pc' := 1001) (x := 44) dL_law_1000 rfl rfl ?_
  refine z_aload_n (pc' := 1002) (x := 1000) dL_law_1001 rfl rfl ?_
  refine z_iload_n (pc' := 1003) (x := nI i) dL_law_1002 rfl rfl ?_
  refine z_iconst (pc' := 1004) (v := (1 : Int32)) dL_law_1003 rfl (by decide) ?_
  refine z_iadd (pc' := 1005) dL_law_1004 rfl ?_
  refine z_sld (pc' := 1006) (j := i + 1) dL_law_1005 rfl (show G.2.2.2.1 < 2 ^ 31 by omega) (nI_c i 1) (show i + 1 < G.2.2.2.1 by omega) ?_
  refine z_callV (pc' := 1009) (M' := mX9_body) (As := [.int (G.2.2.2.2.1 (i + 1))]) (b := 44) (ci := 9) dL_law_1006 rfl ml_L_142 me_X9_body (h2 y I1 L1 hP) rfl (by decide) rfl rfl (Nat.le_of_ble_eq_true rfl) (Nat.le_of_ble_eq_true rfl) ⟨Nat.le_of_ble_eq_true rfl, Nat.le_of_ble_eq_true rfl⟩ rfl ?_
  rintro _ _ ⟨y2, I2, L2, rfl, rfl, rfl, hR2⟩
  exact z_icmp_eq (pc' := 1012) (tgt := 1382) dL_law_1009 rfl (by decide) (fun _ => next _ _ hR2) (fun c => absurd rfl c)
theorem lc_31 (hR : Rel I L) (hL : G.2.2.2.1 ≤ 3072) (hi : i + 6 ≤ G.2.2.2.1) (next : ∀ I' L', Rel I' L' → zWp (zXl l G) mL_law (69, 11636) 1382 [some (.ref 1000), some (.ref 0), some (.ref 44), some (.int (nI i))] [] (zs I' L')) : zWp (zXl l G) mL_law (69, 11636) 1014 [some (.ref 1000), some (.ref 0), some (.ref 44), some (.int (nI i))] [] (zs I L) := by
  refine z_aload_n (pc' := 1015) (x := 0) dL_law_1014 rfl rfl ?_
  refine z_aload_n (pc' := 1016) (x := 1000) dL_law_1015 rfl rfl ?_
  refine z_iload_n (pc' := 1017) (x := nI i) dL_law_1016 rfl rfl ?_
  refine z_iconst (pc' := 1018) (v := (1 : Int32)) dL_law_1017 rfl (by decide) ?_
  refine z_iadd (pc' := 1019) dL_law_1018 rfl ?_
  refine z_sld (pc' := 1020) (j := i + 1) dL_law_1019 rfl (show G.2.2.2.1 < 2 ^ 31 by omega) (nI_c i 1) (show i + 1 < G.2.2.2.1 by omega) ?_
  refine z_aload_n (pc' := 1021) (x := 1000) dL_law_1020 rfl rfl ?_
  refine z_iload_n (pc' := 1022) (x := nI i) dL_law_1021 rfl rfl ?_
  refine z_iconst (pc' := 1023) (v := (2 : Int32)) dL_law_1022 rfl (by decide) ?_
  refine z_iadd (pc' := 1024) dL_law_1023 rfl ?_
  refine z_sld (pc' := 1025) (j := i + 2) dL_law_1024 rfl (show G.2.2.2.1 < 2 ^ 31 by omega) (nI_c i 2) (show i + 2 < G.2.2.2.1 by omega) ?_
  refine z_aload_n (pc' := 1026) (x := 1000) dL_law_1025 rfl rfl ?_
  refine z_iload_n (pc' := 1027) (x := nI i) dL_law_1026 rfl rfl ?_
  refine z_iconst (pc' := 1028) (v := (3 : Int32)) dL_law_1027 rfl (by decide) ?_
  refine z_iadd (pc' := 1029) dL_law_1028 rfl ?_
  refine z_sld (pc' := 1030) (j := i + 3) dL_law_1029 rfl (show G.2.2.2.1 < 2 ^ 31 by omega) (nI_c i 3) (show i + 3 < G.2.2.2.1 by omega) ?_
  obtain ⟨P, h1, h2⟩ := s_act (l := l) (G := G) (G.2.2.2.2.1 (i + 1)) (G.2.2.2.2.1 (i + 2)) (G.2.2.2.2.1 (i + 3)) I L hR
  refine z_callV (pc' := 1033) (M' := mX8_act) (As := [.int (G.2.2.2.2.1 (i + 1)), .int (G.2.2.2.2.1 (i + 2)), .int (G.2.2.2.2.1 (i + 3))]) (b := 0) (ci := 8) dL_law_1030 rfl ml_L_143 me_X8_act h1 rfl (by decide) rfl rfl (Nat.le_of_ble_eq_true rfl) (Nat.le_of_ble_eq_true rfl) ⟨Nat.le_of_ble_eq_true rfl, Nat.le_of_ble_eq_true rfl⟩ rfl ?_
  rintro _ _ ⟨y, I1, L1, rfl, rfl, hP⟩
  refine z_aload_n (pc' := 1034) (x := 44) dL_law_1033 rfl rfl ?_
  refine z_aload_n (pc' := 1035) (x := 1000) dL_law_1034 rfl rfl ?_
  refine z_iload_n (pc' := 1036) (x := nI i) dL_law_1035 rfl rfl ?_
  refine z_iconst (pc' := 1037) (v := (1 : Int32)) dL_law_1036 rfl (by decide) ?_
  refine z_iadd (pc' := 1038) dL_law_1037 rfl ?_
  refine z_sld (pc' := 1039) (j := i + 1) dL_law_1038 rfl (show G.2.2.2.1 < 2 ^ 31 by omega) (nI_c i 1) (show i + 1 < G.2.2.2.1 by omega) ?_
  refine z_aload_n (pc' := 1040) (x := 1000) dL_law_1039 rfl rfl ?_
  refine z_iload_n (pc' := 1041) (x := nI i) dL_law_1040 rfl rfl ?_
  refine z_iconst (pc' := 1042) (v := (2 : Int32)) dL_law_1041 rfl (by decide) ?_
  refine z_iadd (pc' := 1043) dL_law_1042 rfl ?_
  refine z_sld (pc' := 1044) (j := i + 2) dL_law_1043 rfl (show G.2.2.2.1 < 2 ^ 31 by omega) (nI_c i 2) (show i + 2 < G.2.2.2.1 by omega) ?_
  refine z_aload_n (pc' := 1045) (x := 1000) dL_law_1044 rfl rfl ?_
  refine z_iload_n (pc' := 1046) (x := nI i) dL_law_1045 rfl rfl ?_
  refine z_iconst (pc' := 1047) (v := (3 : Int32)) dL_law_1046 rfl (by decide) ?_
  refine z_iadd (pc' := 1048) dL_law_1047 rfl ?_
  refine z_sld (pc' := 1049) (j := i + 3) dL_law_1048 rfl (show G.2.2.2.1 < 2 ^ 31 by omega) (nI_c i 3) (show i + 3 < G.2.2.2.1 by omega) ?_
  refine z_callV (pc' := 1052) (M' := mX9_act) (As := [.int (G.2.2.2.2.1 (i + 1)), .int (G.2.2.2.2.1 (i + 2)), .int (G.2.2.2.2.1 (i + 3))]) (b := 44) (ci := 9) dL_law_1049 rfl ml_L_146 me_X9_act (h2 y I1 L1 hP) rfl (by decide) rfl rfl (Nat.le_of_ble_eq_true rfl) (Nat.le_of_ble_eq_true rfl) ⟨Nat.le_of_ble_eq_true rfl, Nat.le_of_ble_eq_true rfl⟩ rfl ?_
  rintro _ _ ⟨y2, I2, L2, rfl, rfl, rfl, hR2⟩
  exact z_icmp_eq (pc' := 1055) (tgt := 1382) dL_law_1052 rfl (by decide) (fun _ => next _ _ hR2) (fun c => absurd rfl c)
theorem lc_32 (hR : Rel I L) (hL : G.2.2.2.1 ≤ 3072) (hi : i + 6 ≤ G.2.2.2.1) (next : ∀ I' L', Rel I' L' → zWp (zXl l G) mL_law (69, 11636) 1382 [some (.ref 1000), some (.ref 0), some (.ref 44), some (.int (nI i))] [] (zs I' L')) : zWp (zXl l G) mL_law (69, 11636) 1057 [some (.ref 1000), some (.ref 0), some (.ref 44), some (.int (nI i))] [] (zs I L) := by
  refine z_aload_n (pc' := 1058) (x := 0) dL_law_1057 rfl rfl ?_
  refine z_aload_n (pc' := 1059) (x := 1000) dL_law_1058 rfl rfl ?_
  refine z_iload_n (pc' := 1060) (x := nI i) dL_law_1059 rfl rfl ?_
  refine z_iconst (pc' := 1061) (v := (1 : Int32)) dL_law_1060 rfl (by decide) ?_
  refine z_iadd (pc' := 1062) dL_law_1061 rfl ?_
  refine z_sld (pc' := 1063) (j := i + 1) dL_law_1062 rfl (show G.2.2.2.1 < 2 ^ 31 by omega) (nI_c i 1) (show i + 1 < G.2.2.2.1 by omega) ?_
  obtain ⟨P, h1, h2⟩ := s_trace (l := l) (G := G) (G.2.2.2.2.1 (i + 1)) I L hR
  refine z_callV (pc' := 1066) (M' := mX8_trace) (As := [.int (G.2.2.2.2.1 (i + 1))]) (b := 0) (ci := 8) dL_law_1063 rfl ml_L_147 me_X8_trace h1 rfl (by decide) rfl rfl (Nat.le_of_ble_eq_true rfl) (Nat.le_of_ble_eq_true rfl) ⟨Nat.le_of_ble_eq_true rfl, Nat.le_of_ble_eq_true rfl⟩ rfl ?_
  rintro _ _ ⟨y, I1, L1, rfl, rfl, hP⟩
  refine z_aload_n (pc' := 1067) (x := 44) dL_law_1066 rfl rfl ?_
  refine z_aload_n (pc' := 1068) (x := 1000) dL_law_1067 rfl rfl ?_
  refine z_iload_n (pc' := 1069) (x := nI i) dL_law_1068 rfl rfl ?_
  refine z_iconst (pc' := 1070) (v := (1 : Int32)) dL_law_1069 rfl (by decide) ?_
  refine z_iadd (pc' := 1071) dL_law_1070 rfl ?_
  refine z_sld (pc' := 1072) (j := i + 1) dL_law_1071 rfl (show G.2.2.2.1 < 2 ^ 31 by omega) (nI_c i 1) (show i + 1 < G.2.2.2.1 by omega) ?_
  refine z_callV (pc' := 1075) (M' := mX9_trace) (As := [.int (G.2.2.2.2.1 (i + 1))]) (b := 44) (ci := 9) dL_law_1072 rfl ml_L_150 me_X9_trace (h2 y I1 L1 hP) rfl (by decide) rfl rfl (Nat.le_of_ble_eq_true rfl) (Nat.le_of_ble_eq_true rfl) ⟨Nat.le_of_ble_eq_true rfl, Nat.le_of_ble_eq_true rfl⟩ rfl ?_
  rintro _ _ ⟨y2, I2, L2, rfl, rfl, rfl, hR2⟩
  exact z_icmp_eq (pc' := 1078) (tgt := 1382) dL_law_1075 rfl (by decide) (fun _ => next _ _ hR2) (fun c => absurd rfl c)
theorem lc_33 (hR : Rel I L) (hL : G.2.2.2.1 ≤ 3072) (hi : i + 6 ≤ G.2.2.2.1) (next : ∀ I' L', Rel I' L' → zWp (zXl l G) mL_law (69, 11636) 1382 [some (.ref 1000), some (.ref 0), some (.ref 44), some (.int (nI i))] [] (zs I' L')) : zWp (zXl l G) mL_law (69, 11636) 1080 [some (.ref 1000), some (.ref 0), some (.ref 44), some (.int (nI i))] [] (zs I L) := by
  refine z_aload_n (pc' := 1081) (x := 0) dL_law_1080 rfl rfl ?_
  refine z_aload_n (pc' := 1082) (x := 1000) dL_law_1081 rfl rfl ?_
  refine z_iload_n (pc' := 1083) (x := nI i) dL_law_1082 rfl rfl ?_
  refine z_iconst (pc' := 1084) (v := (1 : Int32)) dL_law_1083 rfl (by decide) ?_
  refine z_iadd (pc' := 1085) dL_law_1084 rfl ?_
  refine z_sld (pc' := 1086) (j := i + 1) dL_law_1085 rfl (show G.2.2.2.1 < 2 ^ 31 by omega) (nI_c i 1) (show i + 1 < G.2.2.2.1 by omega) ?_
  refine z_aload_n (pc' := 1087) (x := 1000) dL_law_1086 rfl rfl ?_
  refine z_iload_n (pc' := 1088) (x := nI i) dL_law_1087 rfl rfl ?_
  refine z_iconst (pc' := 1089) (v := (2 : Int32)) dL_law_1088 rfl (by decide) ?_
  refine z_iadd (pc' := 1090) dL_law_1089 rfl ?_
  refine z_sld (pc' := 1091) (j := i + 2) dL_law_1090 rfl (show G.2.2.2.1 < 2 ^ 31 by omega) (nI_c i 2) (show i + 2 < G.2.2.2.1 by omega) ?_
  obtain ⟨P, h1, h2⟩ := s_keep (l := l) (G := G) (G.2.2.2.2.1 (i + 1)) (G.2.2.2.2.1 (i + 2)) I L hR
  refine z_callV (pc' := 1094) (M' := mX8_keep) (As := [.int (G.2.2.2.2.1 (i + 1)), .int (G.2.2.2.2.1 (i + 2))]) (b := 0) (ci := 8) dL_law_1091 rfl ml_L_151 me_X8_keep h1 rfl (by decide) rfl rfl (Nat.le_of_ble_eq_true rfl) (Nat.le_of_ble_eq_true rfl) ⟨Nat.le_of_ble_eq_true rfl, Nat.le_of_ble_eq_true rfl⟩ rfl ?_
  rintro _ _ ⟨y, I1, L1, rfl, rfl, hP⟩
  refine z_aload_n (pc' := 1095) (x := 44) dL_law_1094 rfl rfl ?_
  refine z_aload_n (pc' := 1096) (x := 1000) dL_law_1095 rfl rfl ?_
  refine z_iload_n (pc' := 1097) (x := nI i) dL_law_1096 rfl rfl ?_
  refine z_iconst (pc' := 1098) (v := (1 : Int32)) dL_law_1097 rfl (by decide) ?_
  refine z_iadd (pc' := 1099) dL_law_1098 rfl ?_
  refine z_sld (pc' := 1100) (j := i + 1) dL_law_1099 rfl (show G.2.2.2.1 < 2 ^ 31 by omega) (nI_c i 1) (show i + 1 < G.2.2.2.1 by omega) ?_
  refine z_aload_n (pc' := 1101) (x := 1000) dL_law_1100 rfl rfl ?_
  refine z_iload_n (pc' := 1102) (x := nI i) dL_law_1101 rfl rfl ?_
  refine z_iconst (pc' := 1103) (v := (2 : Int32)) dL_law_1102 rfl (by decide) ?_
  refine z_iadd (pc' := 1104) dL_law_1103 rfl ?_
  refine z_sld (pc' := 1105) (j := i + 2) dL_law_1104 rfl (show G.2.2.2.1 < 2 ^ 31 by omega) (nI_c i 2) (show i + 2 < G.2.2.2.1 by omega) ?_
  refine z_callV (pc' := 1108) (M' := mX9_keep) (As := [.int (G.2.2.2.2.1 (i + 1)), .int (G.2.2.2.2.1 (i + 2))]) (b := 44) (ci := 9) dL_law_1105 rfl ml_L_154 me_X9_keep (h2 y I1 L1 hP) rfl (by decide) rfl rfl (Nat.le_of_ble_eq_true rfl) (Nat.le_of_ble_eq_true rfl) ⟨Nat.le_of_ble_eq_true rfl, Nat.le_of_ble_eq_true rfl⟩ rfl ?_
  rintro _ _ ⟨y2, I2, L2, rfl, rfl, rfl, hR2⟩
  exact z_icmp_eq (pc' := 1111) (tgt := 1382) dL_law_1108 rfl (by decide) (fun _ => next _ _ hR2) (fun c => absurd rfl c)
theorem lc_34 (hR : Rel I L) (hL : G.2.2.2.1 ≤ 3072) (hi : i + 6 ≤ G.2.2.2.1) (next : ∀ I' L', Rel I' L' → zWp (zXl l G) mL_law (69, 11636) 1382 [some (.ref 1000), some (.ref 0), some (.ref 44), some (.int (nI i))] [] (zs I' L')) : zWp (zXl l G) mL_law (69, 11636) 1113 [some (.ref 1000), some (.ref 0), some (.ref 44), some (.int (nI i))] [] (zs I L) := by
  refine z_aload_n (pc' := 1114) (x := 0) dL_law_1113 rfl rfl ?_
  refine z_aload_n (pc' := 1115) (x := 1000) dL_law_1114 rfl rfl ?_
  refine z_iload_n (pc' := 1116) (x := nI i) dL_law_1115 rfl rfl ?_
  refine z_iconst (pc' := 1117) (v := (1 : Int32)) dL_law_1116 rfl (by decide) ?_
  refine z_iadd (pc' := 1118) dL_law_1117 rfl ?_
  refine z_sld (pc' := 1119) (j := i + 1) dL_law_1118 rfl (show G.2.2.2.1 < 2 ^ 31 by omega) (nI_c i 1) (show i + 1 < G.2.2.2.1 by omega) ?_
  refine z_aload_n (pc' := 1120) (x := 1000) dL_law_1119 rfl rfl ?_
  refine z_iload_n (pc' := 1121) (x := nI i) dL_law_1120 rfl rfl ?_
  refine z_iconst (pc' := 1122) (v := (2 : Int32)) dL_law_1121 rfl (by decide) ?_
  refine z_iadd (pc' := 1123) dL_law_1122 rfl ?_
  refine z_sld (pc' := 1124) (j := i + 2) dL_law_1123 rfl (show G.2.2.2.1 < 2 ^ 31 by omega) (nI_c i 2) (show i + 2 < G.2.2.2.1 by omega) ?_
  refine z_aload_n (pc' := 1125) (x := 1000) dL_law_1124 rfl rfl ?_
  refine z_iload_n (pc' := 1126) (x := nI i) dL_law_1125 rfl rfl ?_
  refine z_iconst (pc' := 1127) (v := (3 : Int32)) dL_law_1126 rfl (by decide) ?_
  refine z_iadd (pc' := 1128) dL_law_1127 rfl ?_
  refine z_sld (pc' := 1129) (j := i + 3) dL_law_1128 rfl (show G.2.2.2.1 < 2 ^ 31 by omega) (nI_c i 3) (show i + 3 < G.2.2.2.1 by omega) ?_
  obtain ⟨P, h1, h2⟩ := s_row (l := l) (G := G) (G.2.2.2.2.1 (i + 1)) (G.2.2.2.2.1 (i + 2)) (G.2.2.2.2.1 (i + 3)) I L hR
  refine z_callV (pc' := 1132) (M' := mX8_row) (As := [.int (G.2.2.2.2.1 (i + 1)), .int (G.2.2.2.2.1 (i + 2)), .int (G.2.2.2.2.1 (i + 3))]) (b := 0) (ci := 8) dL_law_1129 rfl ml_L_155 me_X8_row h1 rfl (by decide) rfl rfl (Nat.le_of_ble_eq_true rfl) (Nat.le_of_ble_eq_true rfl) ⟨Nat.le_of_ble_eq_true rfl, Nat.le_of_ble_eq_true rfl⟩ rfl ?_
  rintro _ _ ⟨y, I1, L1, rfl, rfl, hP⟩
  refine z_aload_n (pc' := 1133) (x := 44) dL_law_1132 rfl rfl ?_
  refine z_aload_n (pc' := 1134) (x := 1000) dL_law_1133 rfl rfl ?_
  refine z_iload_n (pc' := 1135) (x := nI i) dL_law_1134 rfl rfl ?_
  refine z_iconst (pc' := 1136) (v := (1 : Int32)) dL_law_1135 rfl (by decide) ?_
  refine z_iadd (pc' := 1137) dL_law_1136 rfl ?_
  refine z_sld (pc' := 1138) (j := i + 1) dL_law_1137 rfl (show G.2.2.2.1 < 2 ^ 31 by omega) (nI_c i 1) (show i + 1 < G.2.2.2.1 by omega) ?_
  refine z_aload_n (pc' := 1139) (x := 1000) dL_law_1138 rfl rfl ?_
  refine z_iload_n (pc' := 1140) (x := nI i) dL_law_1139 rfl rfl ?_
  refine z_iconst (pc' := 1141) (v := (2 : Int32)) dL_law_1140 rfl (by decide) ?_
  refine z_iadd (pc' := 1142) dL_law_1141 rfl ?_
  refine z_sld (pc' := 1143) (j := i + 2) dL_law_1142 rfl (show G.2.2.2.1 < 2 ^ 31 by omega) (nI_c i 2) (show i + 2 < G.2.2.2.1 by omega) ?_
  refine z_aload_n (pc' := 1144) (x := 1000) dL_law_1143 rfl rfl ?_
  refine z_iload_n (pc' := 1145) (x := nI i) dL_law_1144 rfl rfl ?_
  refine z_iconst (pc' := 1146) (v := (3 : Int32)) dL_law_1145 rfl (by decide) ?_
  refine z_iadd (pc' := 1147) dL_law_1146 rfl ?_
  refine z_sld (pc' := 1148) (j := i + 3) dL_law_1147 rfl (show G.2.2.2.1 < 2 ^ 31 by omega) (nI_c i 3) (show i + 3 < G.2.2.2.1 by omega) ?_
  refine z_callV (pc' := 1151) (M' := mX9_row) (As := [.int (G.2.2.2.2.1 (i + 1)), .int (G.2.2.2.2.1 (i + 2)), .int (G.2.2.2.2.1 (i + 3))]) (b := 44) (ci := 9) dL_law_1148 rfl ml_L_158 me_X9_row (h2 y I1 L1 hP) rfl (by decide) rfl rfl (Nat.le_of_ble_eq_true rfl) (Nat.le_of_ble_eq_true rfl) ⟨Nat.le_of_ble_eq_true rfl, Nat.le_of_ble_eq_true rfl⟩ rfl ?_
  rintro _ _ ⟨y2, I2, L2, rfl, rfl, rfl, hR2⟩
  exact z_icmp_eq (pc' := 1154) (tgt := 1382) dL_law_1151 rfl (by decide) (fun _ => next _ _ hR2) (fun c => absurd rfl c)
theorem lc_35 (hR : Rel I L) (hL : G.2.2.2.1 ≤ 3072) (hi : i + 6 ≤ G.2.2.2.1) (next : ∀ I' L', Rel I' L' → zWp (zXl l G) mL_law (69, 11636) 1382 [some (.ref 1000), some (.ref 0), some (.ref 44), some (.int (nI i))] [] (zs I' L')) : zWp (zXl l G) mL_law (69, 11636) 1156 [some (.ref 1000), some (.ref 0), some (.ref 44), some (.int (nI i))] [] (zs I L) := by
  refine z_aload_n (pc' := 1157) (x := 0) dL_law_1156 rfl rfl ?_
  refine z_aload_n (pc' := 1158) (x := 1000) dL_law_1157 rfl rfl ?_
  refine z_iload_n (pc' := 1159) (x := nI i) dL_law_1158 rfl rfl ?_
  refine z_iconst (pc' := 1160) (v := (1 : Int32)) dL_law_1159 rfl (by decide) ?_
  refine z_iadd (pc' := 1161) dL_law_1160 rfl ?_
  refine z_sld (pc' := 1162) (j := i + 1) dL_law_1161 rfl (show G.2.2.2.1 < 2 ^ 31 by omega) (nI_c i 1) (show i + 1 < G.2.2.2.1 by omega) ?_
  refine z_aload_n (pc' := 1163) (x := 1000) dL_law_1162 rfl rfl ?_
  refine z_iload_n (pc' := 1164) (x := nI i) dL_law_1163 rfl rfl ?_
  refine z_iconst (pc' := 1165) (v := (2 : Int32)) dL_law_1164 rfl (by decide) ?_
  refine z_iadd (pc' := 1166) dL_law_1165 rfl ?_
  refine z_sld (pc' := 1167) (j := i + 2) dL_law_1166 rfl (show G.2.2.2.1 < 2 ^ 31 by omega) (nI_c i 2) (show i + 2 < G.2.2.2.1 by omega) ?_
  refine z_aload_n (pc' := 1168) (x := 1000) dL_law_1167 rfl rfl ?_
  refine z_iload_n (pc' := 1169) (x := nI i) dL_law_1168 rfl rfl ?_
  refine z_iconst (pc' := 1170) (v := (3 : Int32)) dL_law_1169 rfl (by decide) ?_
  refine z_iadd (pc' := 1171) dL_law_1170 rfl ?_
  refine z_sld (pc' := 1172) (j := i + 3) dL_law_1171 rfl (show G.2.2.2.1 < 2 ^ 31 by omega) (nI_c i 3) (show i + 3 < G.2.2.2.1 by omega) ?_
  refine z_i2l (pc' := 1173) dL_law_1172 rfl ?_
  refine z_bipush (pc' := 1175) (v := (32 : Int32)) dL_law_1173 rfl (by decide) ?_
  refine z_lshl (pc' := 1176) dL_law_1175 rfl ?_
  refine z_aload_n (pc' := 1177) (x := 1000) dL_law_1176 rfl rfl ?_
  refine z_iload_n (pc' := 1178) (x := nI i) dL_law_1177 rfl rfl ?_
  refine z_iconst (pc' := 1179) (v := (4 : Int32)) dL_law_1178 rfl (by decide) ?_
  refine z_iadd (pc' := 1180) dL_law_1179 rfl ?_
  refine z_sld (pc' := 1181) (j := i + 4) dL_law_1180 rfl (show G.2.2.2.1 < 2 ^ 31 by omega) (nI_c i 4) (show i + 4 < G.2.2.2.1 by omega) ?_
  refine z_i2l (pc' := 1182) dL_law_1181 rfl ?_
  refine z_ldc2 (pc' := 1185) (v := 4294967295) dL_law_1182 rfl kl_L_159 ?_
  refine z_land (pc' := 1186) dL_law_1185 rfl ?_
  refine z_lor (pc' := 1187) dL_law_1186 rfl ?_
  obtain ⟨P, h1, h2⟩ := s_put (l := l) (G := G) (G.2.2.2.2.1 (i + 1)) (G.2.2.2.2.1 (i + 2)) (((G.2.2.2.2.1 (i + 3)).toInt64 <<< ((32 : Int32).toInt64 &&& 63)) ||| ((G.2.2.2.2.1 (i + 4)).toInt64 &&& (4294967295 : Int64))) I L hR
  refine z_callV (pc' := 1190) (M' := mX8_put) (As := [.int (G.2.2.2.2.1 (i + 1)), .int (G.2.2.2.2.1 (i + 2)), .long (((G.2.2.2.2.1 (i + 3)).toInt64 <<< ((32 : Int32).toInt64 &&& 63)) ||| ((G.2.2.2.2.1 (i + 4)).toInt64 &&& (4294967295 : Int64)))]) (b := 0) (ci := 8) dL_law_1187 rfl ml_L_161 me_X8_put h1 rfl (by decide) rfl rfl (Nat.le_of_ble_eq_true rfl) (Nat.le_of_ble_eq_true rfl) ⟨Nat.le_of_ble_eq_true rfl, Nat.le_of_ble_eq_true rfl⟩ rfl ?_
  rintro _ _ ⟨y, I1, L1, rfl, rfl, hP⟩
  refine z_aload_n (pc' := 1191) (x := 44) dL_law_1190 rfl rfl ?_
  refine z_aload_n (pc' := 1192) (x := 1000) dL_law_1191 rfl rfl ?_
  refine z_iload_n (pc' := 1193) (x := nI i) dL_law_1192 rfl rfl ?_
  refine z_iconst (pc' := 1194) (v := (1 : Int32)) dL_law_1193 rfl (by decide) ?_
  refine z_iadd (pc' := 1195) dL_law_1194 rfl ?_
  refine z_sld (pc' := 1196) (j := i + 1) dL_law_1195 rfl (show G.2.2.2.1 < 2 ^ 31 by omega) (nI_c i 1) (show i + 1 < G.2.2.2.1 by omega) ?_
  refine z_aload_n (pc' := 1197) (x := 1000) dL_law_1196 rfl rfl ?_
  refine z_iload_n (pc' := 1198) (x := nI i) dL_law_1197 rfl rfl ?_
  refine z_iconst (pc' := 1199) (v := (2 : Int32)) dL_law_1198 rfl (by decide) ?_
  refine z_iadd (pc' := 1200) dL_law_1199 rfl ?_
  refine z_sld (pc' := 1201) (j := i + 2) dL_law_1200 rfl (show G.2.2.2.1 < 2 ^ 31 by omega) (nI_c i 2) (show i + 2 < G.2.2.2.1 by omega) ?_
  refine z_aload_n (pc' := 1202) (x := 1000) dL_law_1201 rfl rfl ?_
  refine z_iload_n (pc' := 1203) (x := nI i) dL_law_1202 rfl rfl ?_
  refine z_iconst (pc' := 1204) (v := (3 : Int32)) dL_law_1203 rfl (by decide) ?_
  refine z_iadd (pc' := 1205) dL_law_1204 rfl ?_
  refine z_sld (pc' := 1206) (j := i + 3) dL_law_1205 rfl (show G.2.2.2.1 < 2 ^ 31 by omega) (nI_c i 3) (show i + 3 < G.2.2.2.1 by omega) ?_
  refine z_i2l (pc' := 1207) dL_law_1206 rfl ?_
  refine z_bipush (pc' := 1209) (v := (32 : Int32)) dL_law_1207 rfl (by decide) ?_
  refine z_lshl (pc' := 1210) dL_law_1209 rfl ?_
  refine z_aload_n (pc' := 1211) (x := 1000) dL_law_1210 rfl rfl ?_
  refine z_iload_n (pc' := 1212) (x := nI i) dL_law_1211 rfl rfl ?_
  refine z_iconst (pc' := 1213) (v := (4 : Int32)) dL_law_1212 rfl (by decide) ?_
  refine z_iadd (pc' := 1214) dL_law_1213 rfl ?_
  refine z_sld (pc' := 1215) (j := i + 4) dL_law_1214 rfl (show G.2.2.2.1 < 2 ^ 31 by omega) (nI_c i 4) (show i + 4 < G.2.2.2.1 by omega) ?_
  refine z_i2l (pc' := 1216) dL_law_1215 rfl ?_
  refine z_ldc2 (pc' := 1219) (v := 4294967295) dL_law_1216 rfl kl_L_159 ?_
  refine z_land (pc' := 1220) dL_law_1219 rfl ?_
  refine z_lor (pc' := 1221) dL_law_1220 rfl ?_
  refine z_callV (pc' := 1224) (M' := mX9_put) (As := [.int (G.2.2.2.2.1 (i + 1)), .int (G.2.2.2.2.1 (i + 2)), .long (((G.2.2.2.2.1 (i + 3)).toInt64 <<< ((32 : Int32).toInt64 &&& 63)) ||| ((G.2.2.2.2.1 (i + 4)).toInt64 &&& (4294967295 : Int64)))]) (b := 44) (ci := 9) dL_law_1221 rfl ml_L_165 me_X9_put (h2 y I1 L1 hP) rfl (by decide) rfl rfl (Nat.le_of_ble_eq_true rfl) (Nat.le_of_ble_eq_true rfl) ⟨Nat.le_of_ble_eq_true rfl, Nat.le_of_ble_eq_true rfl⟩ rfl ?_
  rintro _ _ ⟨y2, I2, L2, rfl, rfl, rfl, hR2⟩
  exact z_icmp_eq (pc' := 1227) (tgt := 1382) dL_law_1224 rfl (by decide) (fun _ => next _ _ hR2) (fun c => absurd rfl c)
theorem lc_36 (hR : Rel I L) (hL : G.2.2.2.1 ≤ 3072) (hi : i + 6 ≤ G.2.2.2.1) (next : ∀ I' L', Rel I' L' → zWp (zXl l G) mL_law (69, 11636) 1382 [some (.ref 1000), some (.ref 0), some (.ref 44), some (.int (nI i))] [] (zs I' L')) : zWp (zXl l G) mL_law (69, 11636) 1229 [some (.ref 1000), some (.ref 0), some (.ref 44), some (.int (nI i))] [] (zs I L) := by
  refine z_aload_n (pc' := 1230) (x := 0) dL_law_1229 rfl rfl ?_
  refine z_aload_n (pc' := 1231) (x := 1000) dL_law_1230 rfl rfl ?_
  refine z_iload_n (pc' := 1232) (x := nI i) dL_law_1231 rfl rfl ?_
  refine z_iconst (pc' := 1233) (v := (1 : Int32)) dL_law_1232 rfl (by decide) ?_
  refine z_iadd (pc' := 1234) dL_law_1233 rfl ?_
  refine z_sld (pc' := 1235) (j := i + 1) dL_law_1234 rfl (show G.2.2.2.1 < 2 ^ 31 by omega) (nI_c i 1) (show i + 1 < G.2.2.2.1 by omega) ?_
  refine z_aload_n (pc' := 1236) (x := 1000) dL_law_1235 rfl rfl ?_
  refine z_iload_n (pc' := 1237) (x := nI i) dL_law_1236 rfl rfl ?_
  refine z_iconst (pc' := 1238) (v := (2 : Int32)) dL_law_1237 rfl (by decide) ?_
  refine z_iadd (pc' := 1239) dL_law_1238 rfl ?_
  refine z_sld (pc' := 1240) (j := i + 2) dL_law_1239 rfl (show G.2.2.2.1 < 2 ^ 31 by omega) (nI_c i 2) (show i + 2 < G.2.2.2.1 by omega) ?_
  obtain ⟨P, h1, h2⟩ := s_element (l := l) (G := G) (G.2.2.2.2.1 (i + 1)) (G.2.2.2.2.1 (i + 2)) I L hR
  refine z_callV (pc' := 1243) (M' := mX8_element) (As := [.int (G.2.2.2.2.1 (i + 1)), .int (G.2.2.2.2.1 (i + 2))]) (b := 0) (ci := 8) dL_law_1240 rfl ml_L_166 me_X8_element h1 rfl (by decide) rfl rfl (Nat.le_of_ble_eq_true rfl) (Nat.le_of_ble_eq_true rfl) ⟨Nat.le_of_ble_eq_true rfl, Nat.le_of_ble_eq_true rfl⟩ rfl ?_
  rintro _ _ ⟨y, I1, L1, rfl, rfl, hP⟩
  refine z_aload_n (pc' := 1244) (x := 44) dL_law_1243 rfl rfl ?_
  refine z_aload_n (pc' := 1245) (x := 1000) dL_law_1244 rfl rfl ?_
  refine z_iload_n (pc' := 1246) (x := nI i) dL_law_1245 rfl rfl ?_
  refine z_iconst (pc' := 1247) (v := (1 : Int32)) dL_law_1246 rfl (by decide) ?_
  refine z_iadd (pc' := 1248) dL_law_1247 rfl ?_
  refine z_sld (pc' := 1249) (j := i + 1) dL_law_1248 rfl (show G.2.2.2.1 < 2 ^ 31 by omega) (nI_c i 1) (show i + 1 < G.2.2.2.1 by omega) ?_
  refine z_aload_n (pc' := 1250) (x := 1000) dL_law_1249 rfl rfl ?_
  refine z_iload_n (pc' := 1251) (x := nI i) dL_law_1250 rfl rfl ?_
  refine z_iconst (pc' := 1252) (v := (2 : Int32)) dL_law_1251 rfl (by decide) ?_
  refine z_iadd (pc' := 1253) dL_law_1252 rfl ?_
  refine z_sld (pc' := 1254) (j := i + 2) dL_law_1253 rfl (show G.2.2.2.1 < 2 ^ 31 by omega) (nI_c i 2) (show i + 2 < G.2.2.2.1 by omega) ?_
  refine z_callV (pc' := 1257) (M' := mX9_element) (As := [.int (G.2.2.2.2.1 (i + 1)), .int (G.2.2.2.2.1 (i + 2))]) (b := 44) (ci := 9) dL_law_1254 rfl ml_L_169 me_X9_element (h2 y I1 L1 hP) rfl (by decide) rfl rfl (Nat.le_of_ble_eq_true rfl) (Nat.le_of_ble_eq_true rfl) ⟨Nat.le_of_ble_eq_true rfl, Nat.le_of_ble_eq_true rfl⟩ rfl ?_
  rintro _ _ ⟨y2, I2, L2, rfl, rfl, rfl, hR2⟩
  exact z_lc_eq (pc' := 1261) (tgt := 1382) dL_law_1257 dL_law_1258 rfl (by decide) (fun _ => next _ _ hR2) (fun c => absurd rfl c)
theorem lc_37 (hR : Rel I L) (hL : G.2.2.2.1 ≤ 3072) (hi : i + 6 ≤ G.2.2.2.1) (next : ∀ I' L', Rel I' L' → zWp (zXl l G) mL_law (69, 11636) 1382 [some (.ref 1000), some (.ref 0), some (.ref 44), some (.int (nI i))] [] (zs I' L')) : zWp (zXl l G) mL_law (69, 11636) 1263 [some (.ref 1000), some (.ref 0), some (.ref 44), some (.int (nI i))] [] (zs I L) := by
  refine z_aload_n (pc' := 1264) (x := 0) dL_law_1263 rfl rfl ?_
  refine z_aload_n (pc' := 1265) (x := 1000) dL_law_1264 rfl rfl ?_
  refine z_iload_n (pc' := 1266) (x := nI i) dL_law_1265 rfl rfl ?_
  refine z_iconst (pc' := 1267) (v := (1 : Int32)) dL_law_1266 rfl (by decide) ?_
  refine z_iadd (pc' := 1268) dL_law_1267 rfl ?_
  refine z_sld (pc' := 1269) (j := i + 1) dL_law_1268 rfl (show G.2.2.2.1 < 2 ^ 31 by omega) (nI_c i 1) (show i + 1 < G.2.2.2.1 by omega) ?_
  refine z_aload_n (pc' := 1270) (x := 1000) dL_law_1269 rfl rfl ?_
  refine z_iload_n (pc' := 1271) (x := nI i) dL_law_1270 rfl rfl ?_
  refine z_iconst (pc' := 1272) (v := (2 : Int32)) dL_law_1271 rfl (by decide) ?_
  refine z_iadd (pc' := 1273) dL_law_1272 rfl ?_
  refine z_sld (pc' := 1274) (j := i + 2) dL_law_1273 rfl (show G.2.2.2.1 < 2 ^ 31 by omega) (nI_c i 2) (show i + 2 < G.2.2.2.1 by omega) ?_
  refine z_aload_n (pc' := 1275) (x := 1000) dL_law_1274 rfl rfl ?_
  refine z_iload_n (pc' := 1276) (x := nI i) dL_law_1275 rfl rfl ?_
  refine z_iconst (pc' := 1277) (v := (3 : Int32)) dL_law_1276 rfl (by decide) ?_
  refine z_iadd (pc' := 1278) dL_law_1277 rfl ?_
  refine z_sld (pc' := 1279) (j := i + 3) dL_law_1278 rfl (show G.2.2.2.1 < 2 ^ 31 by omega) (nI_c i 3) (show i + 3 < G.2.2.2.1 by omega) ?_
  refine z_aload_n (pc' := 1280) (x := 1000) dL_law_1279 rfl rfl ?_
  refine z_iload_n (pc' := 1281) (x := nI i) dL_law_1280 rfl rfl ?_
  refine z_iconst (pc' := 1282) (v := (4 : Int32)) dL_law_1281 rfl (by decide) ?_
  refine z_iadd (pc' := 1283) dL_law_1282 rfl ?_
  refine z_sld (pc' := 1284) (j := i + 4) dL_law_1283 rfl (show G.2.2.2.1 < 2 ^ 31 by omega) (nI_c i 4) (show i + 4 < G.2.2.2.1 by omega) ?_
  refine z_aload_n (pc' := 1285) (x := 1000) dL_law_1284 rfl rfl ?_
  refine z_iload_n (pc' := 1286) (x := nI i) dL_law_1285 rfl rfl ?_
  refine z_iconst (pc' := 1287) (v := (5 : Int32)) dL_law_1286 rfl (by decide) ?_
  refine z_iadd (pc' := 1288) dL_law_1287 rfl ?_
  refine z_sld (pc' := 1289) (j := i + 5) dL_law_1288 rfl (show G.2.2.2.1 < 2 ^ 31 by omega) (nI_c i 5) (show i + 5 < G.2.2.2.1 by omega) ?_
  obtain ⟨P, h1, h2⟩ := s_shift (l := l) (G := G) (G.2.2.2.2.1 (i + 1)) (G.2.2.2.2.1 (i + 2)) (G.2.2.2.2.1 (i + 3)) (G.2.2.2.2.1 (i + 4)) (G.2.2.2.2.1 (i + 5)) I L hR
  refine z_callV (pc' := 1292) (M' := mX8_shift) (As := [.int (G.2.2.2.2.1 (i + 1)), .int (G.2.2.2.2.1 (i + 2)), .int (G.2.2.2.2.1 (i + 3)), .int (G.2.2.2.2.1 (i + 4)), .int (G.2.2.2.2.1 (i + 5))]) (b := 0) (ci := 8) dL_law_1289 rfl ml_L_170 me_X8_shift h1 rfl (by decide) rfl rfl (Nat.le_of_ble_eq_true rfl) (Nat.le_of_ble_eq_true rfl) ⟨Nat.le_of_ble_eq_true rfl, Nat.le_of_ble_eq_true rfl⟩ rfl ?_
  rintro _ _ ⟨y, I1, L1, rfl, rfl, hP⟩
  refine z_aload_n (pc' := 1293) (x := 44) dL_law_1292 rfl rfl ?_
  refine z_aload_n (pc' := 1294) (x := 1000) dL_law_1293 rfl rfl ?_
  refine z_iload_n (pc' := 1295) (x := nI i) dL_law_1294 rfl rfl ?_
  refine z_iconst (pc' := 1296) (v := (1 : Int32)) dL_law_1295 rfl (by decide) ?_
  refine z_iadd (pc' := 1297) dL_law_1296 rfl ?_
  refine z_sld (pc' := 1298) (j := i + 1) dL_law_1297 rfl (show G.2.2.2.1 < 2 ^ 31 by omega) (nI_c i 1) (show i + 1 < G.2.2.2.1 by omega) ?_
  refine z_aload_n (pc' := 1299) (x := 1000) dL_law_1298 rfl rfl ?_
  refine z_iload_n (pc' := 1300) (x := nI i) dL_law_1299 rfl rfl ?_
  refine z_iconst (pc' := 1301) (v := (2 : Int32)) dL_law_1300 rfl (by decide) ?_
  refine z_iadd (pc' := 1302) dL_law_1301 rfl ?_
  refine z_sld (pc' := 1303) (j := i + 2) dL_law_1302 rfl (show G.2.2.2.1 < 2 ^ 31 by omega) (nI_c i 2) (show i + 2 < G.2.2.2.1 by omega) ?_
  refine z_aload_n (pc' := 1304) (x := 1000) dL_law_1303 rfl rfl ?_
  refine z_iload_n (pc' := 1305) (x := nI i) dL_law_1304 rfl rfl ?_
  refine z_iconst (pc' := 1306) (v := (3 : Int32)) dL_law_1305 rfl (by decide) ?_
  refine z_iadd (pc' := 1307) dL_law_1306 rfl ?_
  refine z_sld (pc' := 1308) (j := i + 3) dL_law_1307 rfl (show G.2.2.2.1 < 2 ^ 31 by omega) (nI_c i 3) (show i + 3 < G.2.2.2.1 by omega) ?_
  refine z_aload_n (pc' := 1309) (x := 1000) dL_law_1308 rfl rfl ?_
  refine z_iload_n (pc' := 1310) (x := nI i) dL_law_1309 rfl rfl ?_
  refine z_iconst (pc' := 1311) (v := (4 : Int32)) dL_law_1310 rfl (by decide) ?_
  refine z_iadd (pc' := 1312) dL_law_1311 rfl ?_
  refine z_sld (pc' := 1313) (j := i + 4) dL_law_1312 rfl (show G.2.2.2.1 < 2 ^ 31 by omega) (nI_c i 4) (show i + 4 < G.2.2.2.1 by omega) ?_
  refine z_aload_n (pc' := 1314) (x := 1000) dL_law_1313 rfl rfl ?_
  refine z_iload_n (pc' := 1315) (x := nI i) dL_law_1314 rfl rfl ?_
  refine z_iconst (pc' := 1316) (v := (5 : Int32)) dL_law_1315 rfl (by decide) ?_
  refine z_iadd (pc' := 1317) dL_law_1316 rfl ?_
  refine z_sld (pc' := 1318) (j := i + 5) dL_law_1317 rfl (show G.2.2.2.1 < 2 ^ 31 by omega) (nI_c i 5) (show i + 5 < G.2.2.2.1 by omega) ?_
  refine z_callV (pc' := 1321) (M' := mX9_shift) (As := [.int (G.2.2.2.2.1 (i + 1)), .int (G.2.2.2.2.1 (i + 2)), .int (G.2.2.2.2.1 (i + 3)), .int (G.2.2.2.2.1 (i + 4)), .int (G.2.2.2.2.1 (i + 5))]) (b := 44) (ci := 9) dL_law_1318 rfl ml_L_174 me_X9_shift (h2 y I1 L1 hP) rfl (by decide) rfl rfl (Nat.le_of_ble_eq_true rfl) (Nat.le_of_ble_eq_true rfl) ⟨Nat.le_of_ble_eq_true rfl, Nat.le_of_ble_eq_true rfl⟩ rfl ?_
  rintro _ _ ⟨y2, I2, L2, rfl, rfl, rfl, hR2⟩
  exact z_icmp_eq (pc' := 1324) (tgt := 1382) dL_law_1321 rfl (by decide) (fun _ => next _ _ hR2) (fun c => absurd rfl c)
theorem lc_38 (hR : Rel I L) (hL : G.2.2.2.1 ≤ 3072) (hi : i + 6 ≤ G.2.2.2.1) (next : ∀ I' L', Rel I' L' → zWp (zXl l G) mL_law (69, 11636) 1382 [some (.ref 1000), some (.ref 0), some (.ref 44), some (.int (nI i))] [] (zs I' L')) : zWp (zXl l G) mL_law (69, 11636) 1326 [some (.ref 1000), some (.ref 0), some (.ref 44), some (.int (nI i))] [] (zs I L) := by
  refine z_aload_n (pc' := 1327) (x := 0) dL_law_1326 rfl rfl ?_
  refine z_aload_n (pc' := 1328) (x := 1000) dL_law_1327 rfl rfl ?_
  refine z_iload_n (pc' := 1329) (x := nI i) dL_law_1328 rfl rfl ?_
  refine z_iconst (pc' := 1330) (v := (1 : Int32)) dL_law_1329 rfl (by decide) ?_
  refine z_iadd (pc' := 1331) dL_law_1330 rfl ?_
  refine z_sld (pc' := 1332) (j := i + 1) dL_law_1331 rfl (show G.2.2.2.1 < 2 ^ 31 by omega) (nI_c i 1) (show i + 1 < G.2.2.2.1 by omega) ?_
  refine z_aload_n (pc' := 1333) (x := 1000) dL_law_1332 rfl rfl ?_
  refine z_iload_n (pc' := 1334) (x := nI i) dL_law_1333 rfl rfl ?_
  refine z_iconst (pc' := 1335) (v := (2 : Int32)) dL_law_1334 rfl (by decide) ?_
  refine z_iadd (pc' := 1336) dL_law_1335 rfl ?_
  refine z_sld (pc' := 1337) (j := i + 2) dL_law_1336 rfl (show G.2.2.2.1 < 2 ^ 31 by omega) (nI_c i 2) (show i + 2 < G.2.2.2.1 by omega) ?_
  obtain ⟨P, h1, h2⟩ := s_taken (l := l) (G := G) (G.2.2.2.2.1 (i + 1)) (G.2.2.2.2.1 (i + 2)) I L hR
  refine z_callV (pc' := 1340) (M' := mX8_taken) (As := [.int (G.2.2.2.2.1 (i + 1)), .int (G.2.2.2.2.1 (i + 2))]) (b := 0) (ci := 8) dL_law_1337 rfl ml_L_175 me_X8_taken h1 rfl (by decide) rfl rfl (Nat.le_of_ble_eq_true rfl) (Nat.le_of_ble_eq_true rfl) ⟨Nat.le_of_ble_eq_true rfl, Nat.le_of_ble_eq_true rfl⟩ rfl ?_
  rintro _ _ ⟨y, I1, L1, rfl, rfl, hP⟩
  refine z_aload_n (pc' := 1341) (x := 44) dL_law_1340 rfl rfl ?_
  refine z_aload_n (pc' := 1342) (x := 1000) dL_law_1341 rfl rfl ?_
  refine z_iload_n (pc' := 1343) (x := nI i) dL_law_1342 rfl rfl ?_
  refine z_iconst (pc' := 1344) (v := (1 : Int32)) dL_law_1343 rfl (by decide) ?_
  refine z_iadd (pc' := 1345) dL_law_1344 rfl ?_
  refine z_sld (pc' := 1346) (j := i + 1) dL_law_1345 rfl (show G.2.2.2.1 < 2 ^ 31 by omega) (nI_c i 1) (show i + 1 < G.2.2.2.1 by omega) ?_
  refine z_aload_n (pc' := 1347) (x := 1000) dL_law_1346 rfl rfl ?_
  refine z_iload_n (pc' := 1348) (x := nI i) dL_law_1347 rfl rfl ?_
  refine z_iconst (pc' := 1349) (v := (2 : Int32)) dL_law_1348 rfl (by decide) ?_
  refine z_iadd (pc' := 1350) dL_law_1349 rfl ?_
  refine z_sld (pc' := 1351) (j := i + 2) dL_law_1350 rfl (show G.2.2.2.1 < 2 ^ 31 by omega) (nI_c i 2) (show i + 2 < G.2.2.2.1 by omega) ?_
  refine z_callV (pc' := 1354) (M' := mX9_taken) (As := [.int (G.2.2.2.2.1 (i + 1)), .int (G.2.2.2.2.1 (i + 2))]) (b := 44) (ci := 9) dL_law_1351 rfl ml_L_178 me_X9_taken (h2 y I1 L1 hP) rfl (by decide) rfl rfl (Nat.le_of_ble_eq_true rfl) (Nat.le_of_ble_eq_true rfl) ⟨Nat.le_of_ble_eq_true rfl, Nat.le_of_ble_eq_true rfl⟩ rfl ?_
  rintro _ _ ⟨y2, I2, L2, rfl, rfl, rfl, hR2⟩
  exact z_icmp_eq (pc' := 1357) (tgt := 1382) dL_law_1354 rfl (by decide) (fun _ => next _ _ hR2) (fun c => absurd rfl c)
theorem lc_39 (hR : Rel I L) (hL : G.2.2.2.1 ≤ 3072) (hi : i + 6 ≤ G.2.2.2.1) (next : ∀ I' L', Rel I' L' → zWp (zXl l G) mL_law (69, 11636) 1382 [some (.ref 1000), some (.ref 0), some (.ref 44), some (.int (nI i))] [] (zs I' L')) : zWp (zXl l G) mL_law (69, 11636) 1359 [some (.ref 1000), some (.ref 0), some (.ref 44), some (.int (nI i))] [] (zs I L) := by
  refine z_aload_n (pc' := 1360) (x := 0) dL_law_1359 rfl rfl ?_
  refine z_aload_n (pc' := 1361) (x := 1000) dL_law_1360 rfl rfl ?_
  refine z_iload_n (pc' := 1362) (x := nI i) dL_law_1361 rfl rfl ?_
  refine z_iconst (pc' := 1363) (v := (1 : Int32)) dL_law_1362 rfl (by decide) ?_
  refine z_iadd (pc' := 1364) dL_law_1363 rfl ?_
  refine z_sld (pc' := 1365) (j := i + 1) dL_law_1364 rfl (show G.2.2.2.1 < 2 ^ 31 by omega) (nI_c i 1) (show i + 1 < G.2.2.2.1 by omega) ?_
  obtain ⟨P, h1, h2⟩ := s_count (l := l) (G := G) (G.2.2.2.2.1 (i + 1)) I L hR
  refine z_callV (pc' := 1368) (M' := mX8_count) (As := [.int (G.2.2.2.2.1 (i + 1))]) (b := 0) (ci := 8) dL_law_1365 rfl ml_L_179 me_X8_count h1 rfl (by decide) rfl rfl (Nat.le_of_ble_eq_true rfl) (Nat.le_of_ble_eq_true rfl) ⟨Nat.le_of_ble_eq_true rfl, Nat.le_of_ble_eq_true rfl⟩ rfl ?_
  rintro _ _ ⟨y, I1, L1, rfl, rfl, hP⟩
  refine z_aload_n (pc' := 1369) (x := 44) dL_law_1368 rfl rfl ?_
  refine z_aload_n (pc' := 1370) (x := 1000) dL_law_1369 rfl rfl ?_
  refine z_iload_n (pc' := 1371) (x := nI i) dL_law_1370 rfl rfl ?_
  refine z_iconst (pc' := 1372) (v := (1 : Int32)) dL_law_1371 rfl (by decide) ?_
  refine z_iadd (pc' := 1373) dL_law_1372 rfl ?_
  refine z_sld (pc' := 1374) (j := i + 1) dL_law_1373 rfl (show G.2.2.2.1 < 2 ^ 31 by omega) (nI_c i 1) (show i + 1 < G.2.2.2.1 by omega) ?_
  refine z_callV (pc' := 1377) (M' := mX9_count) (As := [.int (G.2.2.2.2.1 (i + 1))]) (b := 44) (ci := 9) dL_law_1374 rfl ml_L_182 me_X9_count (h2 y I1 L1 hP) rfl (by decide) rfl rfl (Nat.le_of_ble_eq_true rfl) (Nat.le_of_ble_eq_true rfl) ⟨Nat.le_of_ble_eq_true rfl, Nat.le_of_ble_eq_true rfl⟩ rfl ?_
  rintro _ _ ⟨y2, I2, L2, rfl, rfl, rfl, hR2⟩
  exact z_icmp_eq (pc' := 1380) (tgt := 1382) dL_law_1377 rfl (by decide) (fun _ => next _ _ hR2) (fun c => absurd rfl c)
theorem lLoop (hL : G.2.2.2.1 ≤ 3072) : ∀ f i (I : zIM) (L : zLM), G.2.2.2.1 < f + i → i ≤ 4000 → Rel I L → zWp (zXl l G) mL_law (69, 11636) 18 [some (.ref 1000), some (.ref 0), some (.ref 44), some (.int (nI i))] [] (zs I L) := by
  intro f
  induction f with
  | zero =>
    intro i I L hf hi hR
    refine z_iload_n (pc' := 19) (x := nI i) dL_law_18 rfl rfl ?_
    refine z_aload_n (pc' := 20) (x := 1000) dL_law_19 rfl rfl ?_
    refine z_slen (pc' := 21) dL_law_20 rfl ?_
    refine z_bipush (pc' := 23) (v := nI 6) dL_law_21 rfl (by decide) ?_
    refine z_isub (pc' := 24) dL_law_23 rfl ?_
    refine z_icmp_gt (pc' := 27) (tgt := 1388) dL_law_24 rfl (by decide) (fun _ => ?_) (fun c => absurd ?_ c)
    · refine z_iconst (pc' := 1389) (v := (1 : Int32)) dL_law_1388 rfl (by decide) ?_
      exact z_iret dL_law_1389 rfl rfl ⟨Nat.le_of_ble_eq_true rfl, Nat.le_of_ble_eq_true rfl⟩ rfl
    · show nI G.2.2.2.1 - nI 6 < nI i
      rw [Int32.lt_iff_toInt_lt, i_sub (by omega) (by omega), nI_toInt (by omega)]
      omega
  | succ f ih =>
    intro i I L hf hi hR
    refine z_iload_n (pc' := 19) (x := nI i) dL_law_18 rfl rfl ?_
    refine z_aload_n (pc' := 20) (x := 1000) dL_law_19 rfl rfl ?_
    refine z_slen (pc' := 21) dL_law_20 rfl ?_
    refine z_bipush (pc' := 23) (v := nI 6) dL_law_21 rfl (by decide) ?_
    refine z_isub (pc' := 24) dL_law_23 rfl ?_
    refine z_icmp_gt (pc' := 27) (tgt := 1388) dL_law_24 rfl (by decide) (fun _ => ?_) (fun c => ?_)
    · refine z_iconst (pc' := 1389) (v := (1 : Int32)) dL_law_1388 rfl (by decide) ?_
      exact z_iret dL_law_1389 rfl rfl ⟨Nat.le_of_ble_eq_true rfl, Nat.le_of_ble_eq_true rfl⟩ rfl
    have c : ¬ nI G.2.2.2.1 - nI 6 < nI i := c
    rw [Int32.lt_iff_toInt_lt, i_sub (by omega) (by omega), nI_toInt (by omega)] at c
    have hi6 : i + 6 ≤ G.2.2.2.1 := by omega
    have next : ∀ I' L', Rel I' L' → zWp (zXl l G) mL_law (69, 11636) 1382 [some (.ref 1000), some (.ref 0), some (.ref 44), some (.int (nI i))] [] (zs I' L') := fun I' L' hR' => by
      refine z_iinc (pc' := 1385) (x := nI i) (v := nI (i + 6)) (ls' := [some (.ref 1000), some (.ref 0), some (.ref 44), some (.int (nI (i + 6)))]) dL_law_1382 rfl rfl (nI_c i 6) (by decide) rfl ?_
      refine z_goto (pc' := 18) dL_law_1385 (by decide) ?_
      exact ih (i + 6) I' L' (by omega) (by omega) hR'
    refine z_aload_n (pc' := 28) (x := 1000) dL_law_27 rfl rfl ?_
    refine z_iload_n (pc' := 29) (x := nI i) dL_law_28 rfl rfl ?_
    refine z_sld (pc' := 30) (j := i) dL_law_29 rfl (show G.2.2.2.1 < 2 ^ 31 by omega) rfl (show i < G.2.2.2.1 by omega) ?_
    refine z_bipush (pc' := 32) (v := (63 : Int32)) dL_law_30 rfl (by decide) ?_
    refine z_iand (pc' := 33) dL_law_32 rfl ?_
    generalize ((zXl l G).2.1.2.2.2.2.1 i &&& (63 : Int32)) = x
    by_cases c0 : x = (0 : Int32)
    · exact z_tableIn (pc' := 208) dL_law_33 (by rw [c0]; decide) (by rw [c0]; decide) (by rw [c0]; rfl) (by decide) (lc_0 hR hL hi6 next)
    by_cases c1 : x = (1 : Int32)
    · exact z_tableIn (pc' := 241) dL_law_33 (by rw [c1]; decide) (by rw [c1]; decide) (by rw [c1]; rfl) (by decide) (lc_1 hR hL hi6 next)
    by_cases c2 : x = (2 : Int32)
    · exact z_tableIn (pc' := 284) dL_law_33 (by rw [c2]; decide) (by rw [c2]; decide) (by rw [c2]; rfl) (by decide) (lc_2 hR hL hi6 next)
    by_cases c3 : x = (3 : Int32)
    · exact z_tableIn (pc' := 327) dL_law_33 (by rw [c3]; decide) (by rw [c3]; decide) (by rw [c3]; rfl) (by decide) (lc_3 hR hL hi6 next)
    by_cases c4 : x = (4 : Int32)
    · exact z_tableIn (pc' := 350) dL_law_33 (by rw [c4]; decide) (by rw [c4]; decide) (by rw [c4]; rfl) (by decide) (lc_4 hR hL hi6 next)
    by_cases c5 : x = (5 : Int32)
    · exact z_tableIn (pc' := 373) dL_law_33 (by rw [c5]; decide) (by rw [c5]; decide) (by rw [c5]; rfl) (by decide) (lc_5 hR hL hi6 next)
    by_cases c6 : x = (6 : Int32)
    · exact z_tableIn (pc' := 406) dL_law_33 (by rw [c6]; decide) (by rw [c6]; decide) (by rw [c6]; rfl) (by decide) (lc_6 hR hL hi6 next)
    by_cases c7 : x = (7 : Int32)
    · exact z_tableIn (pc' := 439) dL_law_33 (by rw [c7]; decide) (by rw [c7]; decide) (by rw [c7]; rfl) (by decide) (lc_7 hR hL hi6 next)
    by_cases c8 : x = (8 : Int32)
    · exact z_tableIn (pc' := 462) dL_law_33 (by rw [c8]; decide) (by rw [c8]; decide) (by rw [c8]; rfl) (by decide) (lc_8 hR hL hi6 next)
    by_cases c9 : x = (9 : Int32)
    · exact z_tableIn (pc' := 475) dL_law_33 (by rw [c9]; decide) (by rw [c9]; decide) (by rw [c9]; rfl) (by decide) (lc_9 hR hL hi6 next)
    by_cases c10 : x = (10 : Int32)
    · exact z_tableIn (pc' := 519) dL_law_33 (by rw [c10]; decide) (by rw [c10]; decide) (by rw [c10]; rfl) (by decide) (lc_10 hR hL hi6 next)
    by_cases c11 : x = (11 : Int32)
    · exact z_tableIn (pc' := 553) dL_law_33 (by rw [c11]; decide) (by rw [c11]; decide) (by rw [c11]; rfl) (by decide) (lc_11 hR hL hi6 next)
    by_cases c12 : x = (12 : Int32)
    · exact z_tableIn (pc' := 596) dL_law_33 (by rw [c12]; decide) (by rw [c12]; decide) (by rw [c12]; rfl) (by decide) (lc_12 hR hL hi6 next)
    by_cases c13 : x = (13 : Int32)
    · exact z_tableIn (pc' := 619) dL_law_33 (by rw [c13]; decide) (by rw [c13]; decide) (by rw [c13]; rfl) (by decide) (lc_13 hR hL hi6 next)
    by_cases c14 : x = (14 : Int32)
    · exact z_tableIn (pc' := 632) dL_law_33 (by rw [c14]; decide) (by rw [c14]; decide) (by rw [c14]; rfl) (by decide) (lc_14 hR hL hi6 next)
    by_cases c15 : x = (15 : Int32)
    · exact z_tableIn (pc' := 655) dL_law_33 (by rw [c15]; decide) (by rw [c15]; decide) (by rw [c15]; rfl) (by decide) (lc_15 hR hL hi6 next)
    by_cases c16 : x = (16 : Int32)
    · exact z_tableIn (pc' := 668) dL_law_33 (by rw [c16]; decide) (by rw [c16]; decide) (by rw [c16]; rfl) (by decide) (lc_16 hR hL hi6 next)
    by_cases c17 : x = (17 : Int32)
    · exact z_tableIn (pc' := 691) dL_law_33 (by rw [c17]; decide) (by rw [c17]; decide) (by rw [c17]; rfl) (by decide) (lc_17 hR hL hi6 next)
    by_cases c18 : x = (18 : Int32)
    · exact z_tableIn (pc' := 714) dL_law_33 (by rw [c18]; decide) (by rw [c18]; decide) (by rw [c18]; rfl) (by decide) (lc_18 hR hL hi6 next)
    by_cases c19 : x = (19 : Int32)
    · exact z_tableIn (pc' := 737) dL_law_33 (by rw [c19]; decide) (by rw [c19]; decide) (by rw [c19]; rfl) (by decide) (lc_19 hR hL hi6 next)
    by_cases c20 : x = (20 : Int32)
    · exact z_tableIn (pc' := 760) dL_law_33 (by rw [c20]; decide) (by rw [c20]; decide) (by rw [c20]; rfl) (by decide) (lc_20 hR hL hi6 next)
    by_cases c21 : x = (21 : Int32)
    · exact z_tableIn (pc' := 793) dL_law_33 (by rw [c21]; decide) (by rw [c21]; decide) (by rw [c21]; rfl) (by decide) (lc_21 hR hL hi6 next)
    by_cases c22 : x = (22 : Int32)
    · exact z_tableIn (pc' := 827) dL_law_33 (by rw [c22]; decide) (by rw [c22]; decide) (by rw [c22]; rfl) (by decide) (lc_22 hR hL hi6 next)
    by_cases c23 : x = (23 : Int32)
    · exact z_tableIn (pc' := 860) dL_law_33 (by rw [c23]; decide) (by rw [c23]; decide) (by rw [c23]; rfl) (by decide) (lc_23 hR hL hi6 next)
    by_cases c24 : x = (24 : Int32)
    · exact z_tableIn (pc' := 903) dL_law_33 (by rw [c24]; decide) (by rw [c24]; decide) (by rw [c24]; rfl) (by decide) (lc_24 hR hL hi6 next)
    by_cases c25 : x = (25 : Int32)
    · exact z_tableIn (pc' := 926) dL_law_33 (by rw [c25]; decide) (by rw [c25]; decide) (by rw [c25]; rfl) (by decide) (lc_25 hR hL hi6 next)
    by_cases c26 : x = (26 : Int32)
    · exact z_tableIn (pc' := 939) dL_law_33 (by rw [c26]; decide) (by rw [c26]; decide) (by rw [c26]; rfl) (by decide) (lc_26 hR hL hi6 next)
    by_cases c27 : x = (27 : Int32)
    · exact z_tableIn (pc' := 952) dL_law_33 (by rw [c27]; decide) (by rw [c27]; decide) (by rw [c27]; rfl) (by decide) (lc_27 hR hL hi6 next)
    by_cases c28 : x = (28 : Int32)
    · exact z_tableIn (pc' := 965) dL_law_33 (by rw [c28]; decide) (by rw [c28]; decide) (by rw [c28]; rfl) (by decide) (lc_28 hR hL hi6 next)
    by_cases c29 : x = (29 : Int32)
    · exact z_tableIn (pc' := 978) dL_law_33 (by rw [c29]; decide) (by rw [c29]; decide) (by rw [c29]; rfl) (by decide) (lc_29 hR hL hi6 next)
    by_cases c30 : x = (30 : Int32)
    · exact z_tableIn (pc' := 991) dL_law_33 (by rw [c30]; decide) (by rw [c30]; decide) (by rw [c30]; rfl) (by decide) (lc_30 hR hL hi6 next)
    by_cases c31 : x = (31 : Int32)
    · exact z_tableIn (pc' := 1014) dL_law_33 (by rw [c31]; decide) (by rw [c31]; decide) (by rw [c31]; rfl) (by decide) (lc_31 hR hL hi6 next)
    by_cases c32 : x = (32 : Int32)
    · exact z_tableIn (pc' := 1057) dL_law_33 (by rw [c32]; decide) (by rw [c32]; decide) (by rw [c32]; rfl) (by decide) (lc_32 hR hL hi6 next)
    by_cases c33 : x = (33 : Int32)
    · exact z_tableIn (pc' := 1080) dL_law_33 (by rw [c33]; decide) (by rw [c33]; decide) (by rw [c33]; rfl) (by decide) (lc_33 hR hL hi6 next)
    by_cases c34 : x = (34 : Int32)
    · exact z_tableIn (pc' := 1113) dL_law_33 (by rw [c34]; decide) (by rw [c34]; decide) (by rw [c34]; rfl) (by decide) (lc_34 hR hL hi6 next)
    by_cases c35 : x = (35 : Int32)
    · exact z_tableIn (pc' := 1156) dL_law_33 (by rw [c35]; decide) (by rw [c35]; decide) (by rw [c35]; rfl) (by decide) (lc_35 hR hL hi6 next)
    by_cases c36 : x = (36 : Int32)
    · exact z_tableIn (pc' := 1229) dL_law_33 (by rw [c36]; decide) (by rw [c36]; decide) (by rw [c36]; rfl) (by decide) (lc_36 hR hL hi6 next)
    by_cases c37 : x = (37 : Int32)
    · exact z_tableIn (pc' := 1263) dL_law_33 (by rw [c37]; decide) (by rw [c37]; decide) (by rw [c37]; rfl) (by decide) (lc_37 hR hL hi6 next)
    by_cases c38 : x = (38 : Int32)
    · exact z_tableIn (pc' := 1326) dL_law_33 (by rw [c38]; decide) (by rw [c38]; decide) (by rw [c38]; rfl) (by decide) (lc_38 hR hL hi6 next)
    by_cases c39 : x = (39 : Int32)
    · exact z_tableIn (pc' := 1359) dL_law_33 (by rw [c39]; decide) (by rw [c39]; decide) (by rw [c39]; rfl) (by decide) (lc_39 hR hL hi6 next)
    have hne : x.toInt < 0 ∨ 39 < x.toInt := by
      have n0 := lv_neT c0 (a := 0) (by decide)
      have n1 := lv_neT c1 (a := 1) (by decide)
      have n2 := lv_neT c2 (a := 2) (by decide)
      have n3 := lv_neT c3 (a := 3) (by decide)
      have n4 := lv_neT c4 (a := 4) (by decide)
      have n5 := lv_neT c5 (a := 5) (by decide)
      have n6 := lv_neT c6 (a := 6) (by decide)
      have n7 := lv_neT c7 (a := 7) (by decide)
      have n8 := lv_neT c8 (a := 8) (by decide)
      have n9 := lv_neT c9 (a := 9) (by decide)
      have n10 := lv_neT c10 (a := 10) (by decide)
      have n11 := lv_neT c11 (a := 11) (by decide)
      have n12 := lv_neT c12 (a := 12) (by decide)
      have n13 := lv_neT c13 (a := 13) (by decide)
      have n14 := lv_neT c14 (a := 14) (by decide)
      have n15 := lv_neT c15 (a := 15) (by decide)
      have n16 := lv_neT c16 (a := 16) (by decide)
      have n17 := lv_neT c17 (a := 17) (by decide)
      have n18 := lv_neT c18 (a := 18) (by decide)
      have n19 := lv_neT c19 (a := 19) (by decide)
      have n20 := lv_neT c20 (a := 20) (by decide)
      have n21 := lv_neT c21 (a := 21) (by decide)
      have n22 := lv_neT c22 (a := 22) (by decide)
      have n23 := lv_neT c23 (a := 23) (by decide)
      have n24 := lv_neT c24 (a := 24) (by decide)
      have n25 := lv_neT c25 (a := 25) (by decide)
      have n26 := lv_neT c26 (a := 26) (by decide)
      have n27 := lv_neT c27 (a := 27) (by decide)
      have n28 := lv_neT c28 (a := 28) (by decide)
      have n29 := lv_neT c29 (a := 29) (by decide)
      have n30 := lv_neT c30 (a := 30) (by decide)
      have n31 := lv_neT c31 (a := 31) (by decide)
      have n32 := lv_neT c32 (a := 32) (by decide)
      have n33 := lv_neT c33 (a := 33) (by decide)
      have n34 := lv_neT c34 (a := 34) (by decide)
      have n35 := lv_neT c35 (a := 35) (by decide)
      have n36 := lv_neT c36 (a := 36) (by decide)
      have n37 := lv_neT c37 (a := 37) (by decide)
      have n38 := lv_neT c38 (a := 38) (by decide)
      have n39 := lv_neT c39 (a := 39) (by decide)
      omega
    exact z_tableOut (pc' := 1382) dL_law_33 hne (by decide) (next I L hR)
/-- the whole law, from its entry -/
theorem zall (l : Launch) (G : zG) (hL : G.2.2.2.1 ≤ 3072) : zWp (zXl l G) mL_law (0, 0) 0 [some (.ref 1000), none, none, none] [] zw0 := by
  show zWp (zXl l G) mL_law (0, 0) 0 [some (.ref 1000), none, none, none] [] (cw 0 72 48)
  refine yy_new (pc' := 3) (k := 0) (ci := 8) (a' := 1) (b' := 9) dL_law_0 rfl (by decide) cl_L_7 in_X8 ii_X8 rfl rfl (by decide) (by decide) rfl rfl (Nat.le_of_ble_eq_true rfl) (Nat.le_of_ble_eq_true rfl) ?_
  refine z_dup (pc' := 4) dL_law_3 rfl rfl ?_
  refine z_callI (pc' := 7) (y := yX8_init) (cd := cX8_init) (mL := 2) (As := []) (b := 0) dL_law_4 rfl ml_L_9 me_X8_init cn_X8_init_14 rfl (Nat.le_of_ble_eq_true rfl) (Nat.le_of_ble_eq_true rfl) ⟨Nat.le_of_ble_eq_true rfl, Nat.le_of_ble_eq_true rfl⟩ rfl ?_
  rintro _ _ ⟨rfl, rfl⟩
  refine z_astore_n (pc' := 8) (ls' := [some (.ref 1000), some (.ref 0), none, none]) dL_law_7 rfl (by decide) rfl ?_
  refine yy_new (pc' := 11) (k := 44) (ci := 9) (a' := 45) (b' := 6238) dL_law_8 rfl (by decide) cl_L_10 in_X9 ii_X9 rfl rfl (by decide) (by decide) rfl rfl (Nat.le_of_ble_eq_true rfl) (Nat.le_of_ble_eq_true rfl) ?_
  refine z_dup (pc' := 12) dL_law_11 rfl rfl ?_
  refine z_callI (pc' := 15) (y := yX9_init) (cd := cX9_init) (mL := 2) (As := []) (b := 44) dL_law_12 rfl ml_L_12 me_X9_init cn_X9_init_15 rfl (Nat.le_of_ble_eq_true rfl) (Nat.le_of_ble_eq_true rfl) ⟨Nat.le_of_ble_eq_true rfl, Nat.le_of_ble_eq_true rfl⟩ rfl ?_
  rintro _ _ ⟨rfl, rfl⟩
  refine z_astore_n (pc' := 16) (ls' := [some (.ref 1000), some (.ref 0), some (.ref 44), none]) dL_law_15 rfl (by decide) rfl ?_
  rw [cw_zs]
  refine z_iconst (pc' := 17) (v := nI 0) dL_law_16 rfl (by decide) ?_
  refine z_istore_n (pc' := 18) (ls' := [some (.ref 1000), some (.ref 0), some (.ref 44), some (.int (nI 0))]) dL_law_17 rfl (by decide) rfl ?_
  exact lLoop hL 4000 0 _ _ (by omega) (by omega) rel_0
end LL

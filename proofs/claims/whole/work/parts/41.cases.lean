set_option maxHeartbeats 4000000 in
theorem law_house {Inv : Sg → Prop} {X : Bx} {Y : Yx} {Q : State → Prop} {σ : Sg} {b N : Nat} {zs : Nat → Int32} {i : Int32} (C : Cx X Y code 4 "LoadCyclesLaw" 9 360) (hX : lwX X Y b N zs) (hin : ∀ j : Nat, j < 6 → vp_in (i + Int32.ofNat j) N) (hT : ∀ τ, Inv τ → St X Y 4 Q 1155 [(3, .int i), (2, .ref (ya Y 43)), (1, .ref (ya Y 0)), (0, .ref b)] [] τ) (h : w_Lc_house (zs (i + 1).toNatClampNeg) (zs (i + 2).toNatClampNeg) (zs (i + 3).toNatClampNeg) (zs (i + 4).toNatClampNeg) σ (fun r0 τ0 => w_Md_house (zs (i + 1).toNatClampNeg) (zs (i + 2).toNatClampNeg) (zs (i + 3).toNatClampNeg) (zs (i + 4).toNatClampNeg) τ0 (fun r1 τ1 => r0 = r1 ∧ Inv τ1))) : St X Y 4 Q 176 [(3, .int i), (2, .ref (ya Y 43)), (1, .ref (ya Y 0)), (0, .ref b)] [] σ := by
  refine q_aload_n (pc := 176) C d_law_176 rfl 2 rfl ?_
  refine q_aload_n (pc := 177) C d_law_177 rfl 3 rfl ?_
  refine q_iload_n (pc := 178) C d_law_178 rfl 0 rfl ?_
  refine q_iconst (pc := 179) (v := 1) C d_law_179 (by decide) ?_
  refine q_iadd (pc := 180) C d_law_180 ?_
  refine q_sld (pc := 181) C hX (hin 1 (by decide)) d_law_181 ?_
  refine q_aload_n (pc := 182) C d_law_182 rfl 3 rfl ?_
  refine q_iload_n (pc := 183) C d_law_183 rfl 0 rfl ?_
  refine q_iconst (pc := 184) (v := 2) C d_law_184 (by decide) ?_
  refine q_iadd (pc := 185) C d_law_185 ?_
  refine q_sld (pc := 186) C hX (hin 2 (by decide)) d_law_186 ?_
  refine q_aload_n (pc := 187) C d_law_187 rfl 3 rfl ?_
  refine q_iload_n (pc := 188) C d_law_188 rfl 0 rfl ?_
  refine q_iconst (pc := 189) (v := 3) C d_law_189 (by decide) ?_
  refine q_iadd (pc := 190) C d_law_190 ?_
  refine q_sld (pc := 191) C hX (hin 3 (by decide)) d_law_191 ?_
  refine q_aload_n (pc := 192) C d_law_192 rfl 3 rfl ?_
  refine q_iload_n (pc := 193) C d_law_193 rfl 0 rfl ?_
  refine q_iconst (pc := 194) (v := 4) C d_law_194 (by decide) ?_
  refine q_iadd (pc := 195) C d_law_195 ?_
  refine q_sld (pc := 196) C hX (hin 4 (by decide)) d_law_196 ?_
  refine q_callVI (pc := 197) (st := []) (d := 0) C (m_Lc_house C.2.2.2.2.2.2.1 h) mi_Lc_house rfl (by decide) rfl wd_273 rfl rfl (Nat.le_of_ble_eq_true rfl) (by decide) (by decide) d_law_197 (fun r0 τ0 h => ?_)
  refine q_aload_n (pc := 200) C d_law_200 rfl 1 rfl ?_
  refine q_aload_n (pc := 201) C d_law_201 rfl 3 rfl ?_
  refine q_iload_n (pc := 202) C d_law_202 rfl 0 rfl ?_
  refine q_iconst (pc := 203) (v := 1) C d_law_203 (by decide) ?_
  refine q_iadd (pc := 204) C d_law_204 ?_
  refine q_sld (pc := 205) C hX (hin 1 (by decide)) d_law_205 ?_
  refine q_aload_n (pc := 206) C d_law_206 rfl 3 rfl ?_
  refine q_iload_n (pc := 207) C d_law_207 rfl 0 rfl ?_
  refine q_iconst (pc := 208) (v := 2) C d_law_208 (by decide) ?_
  refine q_iadd (pc := 209) C d_law_209 ?_
  refine q_sld (pc := 210) C hX (hin 2 (by decide)) d_law_210 ?_
  refine q_aload_n (pc := 211) C d_law_211 rfl 3 rfl ?_
  refine q_iload_n (pc := 212) C d_law_212 rfl 0 rfl ?_
  refine q_iconst (pc := 213) (v := 3) C d_law_213 (by decide) ?_
  refine q_iadd (pc := 214) C d_law_214 ?_
  refine q_sld (pc := 215) C hX (hin 3 (by decide)) d_law_215 ?_
  refine q_aload_n (pc := 216) C d_law_216 rfl 3 rfl ?_
  refine q_iload_n (pc := 217) C d_law_217 rfl 0 rfl ?_
  refine q_iconst (pc := 218) (v := 4) C d_law_218 (by decide) ?_
  refine q_iadd (pc := 219) C d_law_219 ?_
  refine q_sld (pc := 220) C hX (hin 4 (by decide)) d_law_220 ?_
  refine q_callVI (pc := 221) (st := [.int r0]) (d := 43) C (m_Md_house C.2.2.2.2.2.2.1 h) mi_Md_house rfl (by decide) rfl wd_833 rfl rfl (Nat.le_of_ble_eq_true rfl) (by decide) (by decide) d_law_221 (fun r1 τ1 h => ?_)
  refine q_icmp_eq (pc := 224) 1155 C d_law_224 (by decide) (fun _ => ?_) (fun hc => absurd h.1 hc)
  exact hT _ h.2
set_option maxHeartbeats 4000000 in
theorem law_ofAppliance {Inv : Sg → Prop} {X : Bx} {Y : Yx} {Q : State → Prop} {σ : Sg} {b N : Nat} {zs : Nat → Int32} {i : Int32} (C : Cx X Y code 4 "LoadCyclesLaw" 9 360) (hX : lwX X Y b N zs) (hin : ∀ j : Nat, j < 6 → vp_in (i + Int32.ofNat j) N) (hT : ∀ τ, Inv τ → St X Y 4 Q 1155 [(3, .int i), (2, .ref (ya Y 43)), (1, .ref (ya Y 0)), (0, .ref b)] [] τ) (h : w_Lc_ofAppliance (zs (i + 1).toNatClampNeg) (zs (i + 2).toNatClampNeg) σ (fun r0 => w_Md_ofAppliance (zs (i + 1).toNatClampNeg) (zs (i + 2).toNatClampNeg) σ (fun r1 => r0 = r1 ∧ Inv σ))) : St X Y 4 Q 229 [(3, .int i), (2, .ref (ya Y 43)), (1, .ref (ya Y 0)), (0, .ref b)] [] σ := by
  refine q_aload_n (pc := 229) C d_law_229 rfl 2 rfl ?_
  refine q_aload_n (pc := 230) C d_law_230 rfl 3 rfl ?_
  refine q_iload_n (pc := 231) C d_law_231 rfl 0 rfl ?_
  refine q_iconst (pc := 232) (v := 1) C d_law_232 (by decide) ?_
  refine q_iadd (pc := 233) C d_law_233 ?_
  refine q_sld (pc := 234) C hX (hin 1 (by decide)) d_law_234 ?_
  refine q_aload_n (pc := 235) C d_law_235 rfl 3 rfl ?_
  refine q_iload_n (pc := 236) C d_law_236 rfl 0 rfl ?_
  refine q_iconst (pc := 237) (v := 2) C d_law_237 (by decide) ?_
  refine q_iadd (pc := 238) C d_law_238 ?_
  refine q_sld (pc := 239) C hX (hin 2 (by decide)) d_law_239 ?_
  refine q_callVIr (pc := 240) (st := []) (d := 0) C (m_Lc_ofAppliance C.2.2.2.2.2.2.1 h) mi_Lc_ofAppliance rfl (by decide) rfl wd_353 rfl rfl (Nat.le_of_ble_eq_true rfl) (by decide) (by decide) d_law_240 (fun r0 h => ?_)
  refine q_aload_n (pc := 243) C d_law_243 rfl 1 rfl ?_
  refine q_aload_n (pc := 244) C d_law_244 rfl 3 rfl ?_
  refine q_iload_n (pc := 245) C d_law_245 rfl 0 rfl ?_
  refine q_iconst (pc := 246) (v := 1) C d_law_246 (by decide) ?_
  refine q_iadd (pc := 247) C d_law_247 ?_
  refine q_sld (pc := 248) C hX (hin 1 (by decide)) d_law_248 ?_
  refine q_aload_n (pc := 249) C d_law_249 rfl 3 rfl ?_
  refine q_iload_n (pc := 250) C d_law_250 rfl 0 rfl ?_
  refine q_iconst (pc := 251) (v := 2) C d_law_251 (by decide) ?_
  refine q_iadd (pc := 252) C d_law_252 ?_
  refine q_sld (pc := 253) C hX (hin 2 (by decide)) d_law_253 ?_
  refine q_callVIr (pc := 254) (st := [.int r0]) (d := 43) C (m_Md_ofAppliance C.2.2.2.2.2.2.1 h) mi_Md_ofAppliance rfl (by decide) rfl wd_873 rfl rfl (Nat.le_of_ble_eq_true rfl) (by decide) (by decide) d_law_254 (fun r1 h => ?_)
  refine q_icmp_eq (pc := 257) 1155 C d_law_257 (by decide) (fun _ => ?_) (fun hc => absurd h.1 hc)
  exact hT _ h.2
set_option maxHeartbeats 4000000 in
theorem law_level {Inv : Sg → Prop} {X : Bx} {Y : Yx} {Q : State → Prop} {σ : Sg} {b N : Nat} {zs : Nat → Int32} {i : Int32} (C : Cx X Y code 4 "LoadCyclesLaw" 9 360) (hX : lwX X Y b N zs) (hin : ∀ j : Nat, j < 6 → vp_in (i + Int32.ofNat j) N) (hT : ∀ τ, Inv τ → St X Y 4 Q 1155 [(3, .int i), (2, .ref (ya Y 43)), (1, .ref (ya Y 0)), (0, .ref b)] [] τ) (h : w_Lc_level (zs (i + 1).toNatClampNeg) (zs (i + 2).toNatClampNeg) (zs (i + 3).toNatClampNeg) σ (fun r0 τ0 => w_Md_level (zs (i + 1).toNatClampNeg) (zs (i + 2).toNatClampNeg) (zs (i + 3).toNatClampNeg) τ0 (fun r1 τ1 => r0 = r1 ∧ Inv τ1))) : St X Y 4 Q 262 [(3, .int i), (2, .ref (ya Y 43)), (1, .ref (ya Y 0)), (0, .ref b)] [] σ := by
  refine q_aload_n (pc := 262) C d_law_262 rfl 2 rfl ?_
  refine q_aload_n (pc := 263) C d_law_263 rfl 3 rfl ?_
  refine q_iload_n (pc := 264) C d_law_264 rfl 0 rfl ?_
  refine q_iconst (pc := 265) (v := 1) C d_law_265 (by decide) ?_
  refine q_iadd (pc := 266) C d_law_266 ?_
  refine q_sld (pc := 267) C hX (hin 1 (by decide)) d_law_267 ?_
  refine q_aload_n (pc := 268) C d_law_268 rfl 3 rfl ?_
  refine q_iload_n (pc := 269) C d_law_269 rfl 0 rfl ?_
  refine q_iconst (pc := 270) (v := 2) C d_law_270 (by decide) ?_
  refine q_iadd (pc := 271) C d_law_271 ?_
  refine q_sld (pc := 272) C hX (hin 2 (by decide)) d_law_272 ?_
  refine q_aload_n (pc := 273) C d_law_273 rfl 3 rfl ?_
  refine q_iload_n (pc := 274) C d_law_274 rfl 0 rfl ?_
  refine q_iconst (pc := 275) (v := 3) C d_law_275 (by decide) ?_
  refine q_iadd (pc := 276) C d_law_276 ?_
  refine q_sld (pc := 277) C hX (hin 3 (by decide)) d_law_277 ?_
  refine q_callVI (pc := 278) (st := []) (d := 0) C (m_Lc_level C.2.2.2.2.2.2.1 h) mi_Lc_level rfl (by decide) rfl wd_377 rfl rfl (Nat.le_of_ble_eq_true rfl) (by decide) (by decide) d_law_278 (fun r0 τ0 h => ?_)
  refine q_aload_n (pc := 281) C d_law_281 rfl 1 rfl ?_
  refine q_aload_n (pc := 282) C d_law_282 rfl 3 rfl ?_
  refine q_iload_n (pc := 283) C d_law_283 rfl 0 rfl ?_
  refine q_iconst (pc := 284) (v := 1) C d_law_284 (by decide) ?_
  refine q_iadd (pc := 285) C d_law_285 ?_
  refine q_sld (pc := 286) C hX (hin 1 (by decide)) d_law_286 ?_
  refine q_aload_n (pc := 287) C d_law_287 rfl 3 rfl ?_
  refine q_iload_n (pc := 288) C d_law_288 rfl 0 rfl ?_
  refine q_iconst (pc := 289) (v := 2) C d_law_289 (by decide) ?_
  refine q_iadd (pc := 290) C d_law_290 ?_
  refine q_sld (pc := 291) C hX (hin 2 (by decide)) d_law_291 ?_
  refine q_aload_n (pc := 292) C d_law_292 rfl 3 rfl ?_
  refine q_iload_n (pc := 293) C d_law_293 rfl 0 rfl ?_
  refine q_iconst (pc := 294) (v := 3) C d_law_294 (by decide) ?_
  refine q_iadd (pc := 295) C d_law_295 ?_
  refine q_sld (pc := 296) C hX (hin 3 (by decide)) d_law_296 ?_
  refine q_callVI (pc := 297) (st := [.int r0]) (d := 43) C (m_Md_level C.2.2.2.2.2.2.1 h) mi_Md_level rfl (by decide) rfl wd_889 rfl rfl (Nat.le_of_ble_eq_true rfl) (by decide) (by decide) d_law_297 (fun r1 τ1 h => ?_)
  refine q_icmp_eq (pc := 300) 1155 C d_law_300 (by decide) (fun _ => ?_) (fun hc => absurd h.1 hc)
  exact hT _ h.2
set_option maxHeartbeats 4000000 in
theorem law_meter {Inv : Sg → Prop} {X : Bx} {Y : Yx} {Q : State → Prop} {σ : Sg} {b N : Nat} {zs : Nat → Int32} {i : Int32} (C : Cx X Y code 4 "LoadCyclesLaw" 9 360) (hX : lwX X Y b N zs) (hin : ∀ j : Nat, j < 6 → vp_in (i + Int32.ofNat j) N) (hT : ∀ τ, Inv τ → St X Y 4 Q 1155 [(3, .int i), (2, .ref (ya Y 43)), (1, .ref (ya Y 0)), (0, .ref b)] [] τ) (h : w_Lc_meter (zs (i + 1).toNatClampNeg) (zs (i + 2).toNatClampNeg) (zs (i + 3).toNatClampNeg) (zs (i + 4).toNatClampNeg) σ (fun r0 τ0 => w_Md_meter (zs (i + 1).toNatClampNeg) (zs (i + 2).toNatClampNeg) (zs (i + 3).toNatClampNeg) (zs (i + 4).toNatClampNeg) τ0 (fun r1 τ1 => r0 = r1 ∧ Inv τ1))) : St X Y 4 Q 305 [(3, .int i), (2, .ref (ya Y 43)), (1, .ref (ya Y 0)), (0, .ref b)] [] σ := by
  refine q_aload_n (pc := 305) C d_law_305 rfl 2 rfl ?_
  refine q_aload_n (pc := 306) C d_law_306 rfl 3 rfl ?_
  refine q_iload_n (pc := 307) C d_law_307 rfl 0 rfl ?_
  refine q_iconst (pc := 308) (v := 1) C d_law_308 (by decide) ?_
  refine q_iadd (pc := 309) C d_law_309 ?_
  refine q_sld (pc := 310) C hX (hin 1 (by decide)) d_law_310 ?_
  refine q_aload_n (pc := 311) C d_law_311 rfl 3 rfl ?_
  refine q_iload_n (pc := 312) C d_law_312 rfl 0 rfl ?_
  refine q_iconst (pc := 313) (v := 2) C d_law_313 (by decide) ?_
  refine q_iadd (pc := 314) C d_law_314 ?_
  refine q_sld (pc := 315) C hX (hin 2 (by decide)) d_law_315 ?_
  refine q_aload_n (pc := 316) C d_law_316 rfl 3 rfl ?_
  refine q_iload_n (pc := 317) C d_law_317 rfl 0 rfl ?_
  refine q_iconst (pc := 318) (v := 3) C d_law_318 (by decide) ?_
  refine q_iadd (pc := 319) C d_law_319 ?_
  refine q_sld (pc := 320) C hX (hin 3 (by decide)) d_law_320 ?_
  refine q_aload_n (pc := 321) C d_law_321 rfl 3 rfl ?_
  refine q_iload_n (pc := 322) C d_law_322 rfl 0 rfl ?_
  refine q_iconst (pc := 323) (v := 4) C d_law_323 (by decide) ?_
  refine q_iadd (pc := 324) C d_law_324 ?_
  refine q_sld (pc := 325) C hX (hin 4 (by decide)) d_law_325 ?_
  refine q_callVI (pc := 326) (st := []) (d := 0) C (m_Lc_meter C.2.2.2.2.2.2.1 h) mi_Lc_meter rfl (by decide) rfl wd_383 rfl rfl (Nat.le_of_ble_eq_true rfl) (by decide) (by decide) d_law_326 (fun r0 τ0 h => ?_)
  refine q_aload_n (pc := 329) C d_law_329 rfl 1 rfl ?_
  refine q_aload_n (pc := 330) C d_law_330 rfl 3 rfl ?_
  refine q_iload_n (pc := 331) C d_law_331 rfl 0 rfl ?_
  refine q_iconst (pc := 332) (v := 1) C d_law_332 (by decide) ?_
  refine q_iadd (pc := 333) C d_law_333 ?_
  refine q_sld (pc := 334) C hX (hin 1 (by decide)) d_law_334 ?_
  refine q_aload_n (pc := 335) C d_law_335 rfl 3 rfl ?_
  refine q_iload_n (pc := 336) C d_law_336 rfl 0 rfl ?_
  refine q_iconst (pc := 337) (v := 2) C d_law_337 (by decide) ?_
  refine q_iadd (pc := 338) C d_law_338 ?_
  refine q_sld (pc := 339) C hX (hin 2 (by decide)) d_law_339 ?_
  refine q_aload_n (pc := 340) C d_law_340 rfl 3 rfl ?_
  refine q_iload_n (pc := 341) C d_law_341 rfl 0 rfl ?_
  refine q_iconst (pc := 342) (v := 3) C d_law_342 (by decide) ?_
  refine q_iadd (pc := 343) C d_law_343 ?_
  refine q_sld (pc := 344) C hX (hin 3 (by decide)) d_law_344 ?_
  refine q_aload_n (pc := 345) C d_law_345 rfl 3 rfl ?_
  refine q_iload_n (pc := 346) C d_law_346 rfl 0 rfl ?_
  refine q_iconst (pc := 347) (v := 4) C d_law_347 (by decide) ?_
  refine q_iadd (pc := 348) C d_law_348 ?_
  refine q_sld (pc := 349) C hX (hin 4 (by decide)) d_law_349 ?_
  refine q_callVI (pc := 350) (st := [.int r0]) (d := 43) C (m_Md_meter C.2.2.2.2.2.2.1 h) mi_Md_meter rfl (by decide) rfl wd_894 rfl rfl (Nat.le_of_ble_eq_true rfl) (by decide) (by decide) d_law_350 (fun r1 τ1 h => ?_)
  refine q_icmp_eq (pc := 353) 1155 C d_law_353 (by decide) (fun _ => ?_) (fun hc => absurd h.1 hc)
  exact hT _ h.2
set_option maxHeartbeats 4000000 in
theorem law_value {Inv : Sg → Prop} {X : Bx} {Y : Yx} {Q : State → Prop} {σ : Sg} {b N : Nat} {zs : Nat → Int32} {i : Int32} (C : Cx X Y code 4 "LoadCyclesLaw" 9 360) (hX : lwX X Y b N zs) (hin : ∀ j : Nat, j < 6 → vp_in (i + Int32.ofNat j) N) (hT : ∀ τ, Inv τ → St X Y 4 Q 1155 [(3, .int i), (2, .ref (ya Y 43)), (1, .ref (ya Y 0)), (0, .ref b)] [] τ) (h : w_Lc_value (zs (i + 1).toNatClampNeg) σ (fun r0 => w_Md_value (zs (i + 1).toNatClampNeg) σ (fun r1 => r0 = r1 ∧ Inv σ))) : St X Y 4 Q 358 [(3, .int i), (2, .ref (ya Y 43)), (1, .ref (ya Y 0)), (0, .ref b)] [] σ := by
  refine q_aload_n (pc := 358) C d_law_358 rfl 2 rfl ?_
  refine q_aload_n (pc := 359) C d_law_359 rfl 3 rfl ?_
  refine q_iload_n (pc := 360) C d_law_360 rfl 0 rfl ?_
  refine q_iconst (pc := 361) (v := 1) C d_law_361 (by decide) ?_
  refine q_iadd (pc := 362) C d_law_362 ?_
  refine q_sld (pc := 363) C hX (hin 1 (by decide)) d_law_363 ?_
  refine q_callVIr (pc := 364) (st := []) (d := 0) C (m_Lc_value C.2.2.2.2.2.2.1 h) mi_Lc_value rfl (by decide) rfl wd_398 rfl rfl (Nat.le_of_ble_eq_true rfl) (by decide) (by decide) d_law_364 (fun r0 h => ?_)
  refine q_aload_n (pc := 367) C d_law_367 rfl 1 rfl ?_
  refine q_aload_n (pc := 368) C d_law_368 rfl 3 rfl ?_
  refine q_iload_n (pc := 369) C d_law_369 rfl 0 rfl ?_
  refine q_iconst (pc := 370) (v := 1) C d_law_370 (by decide) ?_
  refine q_iadd (pc := 371) C d_law_371 ?_
  refine q_sld (pc := 372) C hX (hin 1 (by decide)) d_law_372 ?_
  refine q_callVIr (pc := 373) (st := [.int r0]) (d := 43) C (m_Md_value C.2.2.2.2.2.2.1 h) mi_Md_value rfl (by decide) rfl wd_899 rfl rfl (Nat.le_of_ble_eq_true rfl) (by decide) (by decide) d_law_373 (fun r1 h => ?_)
  refine q_icmp_eq (pc := 376) 1155 C d_law_376 (by decide) (fun _ => ?_) (fun hc => absurd h.1 hc)
  exact hT _ h.2
set_option maxHeartbeats 4000000 in
theorem law_base {Inv : Sg → Prop} {X : Bx} {Y : Yx} {Q : State → Prop} {σ : Sg} {b N : Nat} {zs : Nat → Int32} {i : Int32} (C : Cx X Y code 4 "LoadCyclesLaw" 9 360) (hX : lwX X Y b N zs) (hin : ∀ j : Nat, j < 6 → vp_in (i + Int32.ofNat j) N) (hT : ∀ τ, Inv τ → St X Y 4 Q 1155 [(3, .int i), (2, .ref (ya Y 43)), (1, .ref (ya Y 0)), (0, .ref b)] [] τ) (h : w_Lc_base (zs (i + 1).toNatClampNeg) σ (fun r0 τ0 => w_Md_base (zs (i + 1).toNatClampNeg) τ0 (fun r1 τ1 => r0 = r1 ∧ Inv τ1))) : St X Y 4 Q 381 [(3, .int i), (2, .ref (ya Y 43)), (1, .ref (ya Y 0)), (0, .ref b)] [] σ := by
  refine q_aload_n (pc := 381) C d_law_381 rfl 2 rfl ?_
  refine q_aload_n (pc := 382) C d_law_382 rfl 3 rfl ?_
  refine q_iload_n (pc := 383) C d_law_383 rfl 0 rfl ?_
  refine q_iconst (pc := 384) (v := 1) C d_law_384 (by decide) ?_
  refine q_iadd (pc := 385) C d_law_385 ?_
  refine q_sld (pc := 386) C hX (hin 1 (by decide)) d_law_386 ?_
  refine q_callVI (pc := 387) (st := []) (d := 0) C (m_Lc_base C.2.2.2.2.2.2.1 h) mi_Lc_base rfl (by decide) rfl wd_406 rfl rfl (Nat.le_of_ble_eq_true rfl) (by decide) (by decide) d_law_387 (fun r0 τ0 h => ?_)
  refine q_aload_n (pc := 390) C d_law_390 rfl 1 rfl ?_
  refine q_aload_n (pc := 391) C d_law_391 rfl 3 rfl ?_
  refine q_iload_n (pc := 392) C d_law_392 rfl 0 rfl ?_
  refine q_iconst (pc := 393) (v := 1) C d_law_393 (by decide) ?_
  refine q_iadd (pc := 394) C d_law_394 ?_
  refine q_sld (pc := 395) C hX (hin 1 (by decide)) d_law_395 ?_
  refine q_callVI (pc := 396) (st := [.int r0]) (d := 43) C (m_Md_base C.2.2.2.2.2.2.1 h) mi_Md_base rfl (by decide) rfl wd_907 rfl rfl (Nat.le_of_ble_eq_true rfl) (by decide) (by decide) d_law_396 (fun r1 τ1 h => ?_)
  refine q_icmp_eq (pc := 399) 1155 C d_law_399 (by decide) (fun _ => ?_) (fun hc => absurd h.1 hc)
  exact hT _ h.2
set_option maxHeartbeats 4000000 in
theorem law_at {Inv : Sg → Prop} {X : Bx} {Y : Yx} {Q : State → Prop} {σ : Sg} {b N : Nat} {zs : Nat → Int32} {i : Int32} (C : Cx X Y code 4 "LoadCyclesLaw" 9 360) (hX : lwX X Y b N zs) (hin : ∀ j : Nat, j < 6 → vp_in (i + Int32.ofNat j) N) (hT : ∀ τ, Inv τ → St X Y 4 Q 1155 [(3, .int i), (2, .ref (ya Y 43)), (1, .ref (ya Y 0)), (0, .ref b)] [] τ) (h : w_Lc_at (zs (i + 1).toNatClampNeg) (zs (i + 2).toNatClampNeg) σ (fun r0 τ0 => w_Md_at (zs (i + 1).toNatClampNeg) (zs (i + 2).toNatClampNeg) τ0 (fun r1 τ1 => r0 = r1 ∧ Inv τ1))) : St X Y 4 Q 404 [(3, .int i), (2, .ref (ya Y 43)), (1, .ref (ya Y 0)), (0, .ref b)] [] σ := by
  refine q_aload_n (pc := 404) C d_law_404 rfl 2 rfl ?_
  refine q_aload_n (pc := 405) C d_law_405 rfl 3 rfl ?_
  refine q_iload_n (pc := 406) C d_law_406 rfl 0 rfl ?_
  refine q_iconst (pc := 407) (v := 1) C d_law_407 (by decide) ?_
  refine q_iadd (pc := 408) C d_law_408 ?_
  refine q_sld (pc := 409) C hX (hin 1 (by decide)) d_law_409 ?_
  refine q_aload_n (pc := 410) C d_law_410 rfl 3 rfl ?_
  refine q_iload_n (pc := 411) C d_law_411 rfl 0 rfl ?_
  refine q_iconst (pc := 412) (v := 2) C d_law_412 (by decide) ?_
  refine q_iadd (pc := 413) C d_law_413 ?_
  refine q_sld (pc := 414) C hX (hin 2 (by decide)) d_law_414 ?_
  refine q_callVI (pc := 415) (st := []) (d := 0) C (m_Lc_at C.2.2.2.2.2.2.1 h) mi_Lc_at rfl (by decide) rfl wd_417 rfl rfl (Nat.le_of_ble_eq_true rfl) (by decide) (by decide) d_law_415 (fun r0 τ0 h => ?_)
  refine q_aload_n (pc := 418) C d_law_418 rfl 1 rfl ?_
  refine q_aload_n (pc := 419) C d_law_419 rfl 3 rfl ?_
  refine q_iload_n (pc := 420) C d_law_420 rfl 0 rfl ?_
  refine q_iconst (pc := 421) (v := 1) C d_law_421 (by decide) ?_
  refine q_iadd (pc := 422) C d_law_422 ?_
  refine q_sld (pc := 423) C hX (hin 1 (by decide)) d_law_423 ?_
  refine q_aload_n (pc := 424) C d_law_424 rfl 3 rfl ?_
  refine q_iload_n (pc := 425) C d_law_425 rfl 0 rfl ?_
  refine q_iconst (pc := 426) (v := 2) C d_law_426 (by decide) ?_
  refine q_iadd (pc := 427) C d_law_427 ?_
  refine q_sld (pc := 428) C hX (hin 2 (by decide)) d_law_428 ?_
  refine q_callVI (pc := 429) (st := [.int r0]) (d := 43) C (m_Md_at C.2.2.2.2.2.2.1 h) mi_Md_at rfl (by decide) rfl wd_915 rfl rfl (Nat.le_of_ble_eq_true rfl) (by decide) (by decide) d_law_429 (fun r1 τ1 h => ?_)
  refine q_icmp_eq (pc := 432) 1155 C d_law_432 (by decide) (fun _ => ?_) (fun hc => absurd h.1 hc)
  exact hT _ h.2
set_option maxHeartbeats 4000000 in
theorem law_rest {Inv : Sg → Prop} {X : Bx} {Y : Yx} {Q : State → Prop} {σ : Sg} {b N : Nat} {zs : Nat → Int32} {i : Int32} (C : Cx X Y code 4 "LoadCyclesLaw" 9 360) (hX : lwX X Y b N zs) (hin : ∀ j : Nat, j < 6 → vp_in (i + Int32.ofNat j) N) (hT : ∀ τ, Inv τ → St X Y 4 Q 1155 [(3, .int i), (2, .ref (ya Y 43)), (1, .ref (ya Y 0)), (0, .ref b)] [] τ) (h : w_Lc_rest (zs (i + 1).toNatClampNeg) σ (fun r0 τ0 => w_Md_rest (zs (i + 1).toNatClampNeg) τ0 (fun r1 τ1 => r0 = r1 ∧ Inv τ1))) : St X Y 4 Q 437 [(3, .int i), (2, .ref (ya Y 43)), (1, .ref (ya Y 0)), (0, .ref b)] [] σ := by
  refine q_aload_n (pc := 437) C d_law_437 rfl 2 rfl ?_
  refine q_aload_n (pc := 438) C d_law_438 rfl 3 rfl ?_
  refine q_iload_n (pc := 439) C d_law_439 rfl 0 rfl ?_
  refine q_iconst (pc := 440) (v := 1) C d_law_440 (by decide) ?_
  refine q_iadd (pc := 441) C d_law_441 ?_
  refine q_sld (pc := 442) C hX (hin 1 (by decide)) d_law_442 ?_
  refine q_callVI (pc := 443) (st := []) (d := 0) C (m_Lc_rest C.2.2.2.2.2.2.1 h) mi_Lc_rest rfl (by decide) rfl wd_500 rfl rfl (Nat.le_of_ble_eq_true rfl) (by decide) (by decide) d_law_443 (fun r0 τ0 h => ?_)
  refine q_aload_n (pc := 446) C d_law_446 rfl 1 rfl ?_
  refine q_aload_n (pc := 447) C d_law_447 rfl 3 rfl ?_
  refine q_iload_n (pc := 448) C d_law_448 rfl 0 rfl ?_
  refine q_iconst (pc := 449) (v := 1) C d_law_449 (by decide) ?_
  refine q_iadd (pc := 450) C d_law_450 ?_
  refine q_sld (pc := 451) C hX (hin 1 (by decide)) d_law_451 ?_
  refine q_callVI (pc := 452) (st := [.int r0]) (d := 43) C (m_Md_rest C.2.2.2.2.2.2.1 h) mi_Md_rest rfl (by decide) rfl wd_957 rfl rfl (Nat.le_of_ble_eq_true rfl) (by decide) (by decide) d_law_452 (fun r1 τ1 h => ?_)
  refine q_icmp_eq (pc := 455) 1155 C d_law_455 (by decide) (fun _ => ?_) (fun hc => absurd h.1 hc)
  exact hT _ h.2
set_option maxHeartbeats 4000000 in
theorem law_best {Inv : Sg → Prop} {X : Bx} {Y : Yx} {Q : State → Prop} {σ : Sg} {b N : Nat} {zs : Nat → Int32} {i : Int32} (C : Cx X Y code 4 "LoadCyclesLaw" 9 360) (hX : lwX X Y b N zs) (hin : ∀ j : Nat, j < 6 → vp_in (i + Int32.ofNat j) N) (hT : ∀ τ, Inv τ → St X Y 4 Q 1155 [(3, .int i), (2, .ref (ya Y 43)), (1, .ref (ya Y 0)), (0, .ref b)] [] τ) (h : w_Lc_best (zs (i + 1).toNatClampNeg) σ (fun r0 τ0 => w_Md_best (zs (i + 1).toNatClampNeg) τ0 (fun r1 τ1 => r0 = r1 ∧ Inv τ1))) : St X Y 4 Q 460 [(3, .int i), (2, .ref (ya Y 43)), (1, .ref (ya Y 0)), (0, .ref b)] [] σ := by
  refine q_aload_n (pc := 460) C d_law_460 rfl 2 rfl ?_
  refine q_aload_n (pc := 461) C d_law_461 rfl 3 rfl ?_
  refine q_iload_n (pc := 462) C d_law_462 rfl 0 rfl ?_
  refine q_iconst (pc := 463) (v := 1) C d_law_463 (by decide) ?_
  refine q_iadd (pc := 464) C d_law_464 ?_
  refine q_sld (pc := 465) C hX (hin 1 (by decide)) d_law_465 ?_
  refine q_callVI (pc := 466) (st := []) (d := 0) C (m_Lc_best C.2.2.2.2.2.2.1 h) mi_Lc_best rfl (by decide) rfl wd_505 rfl rfl (Nat.le_of_ble_eq_true rfl) (by decide) (by decide) d_law_466 (fun r0 τ0 h => ?_)
  refine q_aload_n (pc := 469) C d_law_469 rfl 1 rfl ?_
  refine q_aload_n (pc := 470) C d_law_470 rfl 3 rfl ?_
  refine q_iload_n (pc := 471) C d_law_471 rfl 0 rfl ?_
  refine q_iconst (pc := 472) (v := 1) C d_law_472 (by decide) ?_
  refine q_iadd (pc := 473) C d_law_473 ?_
  refine q_sld (pc := 474) C hX (hin 1 (by decide)) d_law_474 ?_
  refine q_callVI (pc := 475) (st := [.int r0]) (d := 43) C (m_Md_best C.2.2.2.2.2.2.1 h) mi_Md_best rfl (by decide) rfl wd_965 rfl rfl (Nat.le_of_ble_eq_true rfl) (by decide) (by decide) d_law_475 (fun r1 τ1 h => ?_)
  refine q_icmp_eq (pc := 478) 1155 C d_law_478 (by decide) (fun _ => ?_) (fun hc => absurd h.1 hc)
  exact hT _ h.2
set_option maxHeartbeats 4000000 in
theorem law_energy {Inv : Sg → Prop} {X : Bx} {Y : Yx} {Q : State → Prop} {σ : Sg} {b N : Nat} {zs : Nat → Int32} {i : Int32} (C : Cx X Y code 4 "LoadCyclesLaw" 9 360) (hX : lwX X Y b N zs) (hin : ∀ j : Nat, j < 6 → vp_in (i + Int32.ofNat j) N) (hT : ∀ τ, Inv τ → St X Y 4 Q 1155 [(3, .int i), (2, .ref (ya Y 43)), (1, .ref (ya Y 0)), (0, .ref b)] [] τ) (h : w_Lc_energy (zs (i + 1).toNatClampNeg) σ (fun r0 τ0 => w_Md_energy (zs (i + 1).toNatClampNeg) τ0 (fun r1 τ1 => r0 = r1 ∧ Inv τ1))) : St X Y 4 Q 483 [(3, .int i), (2, .ref (ya Y 43)), (1, .ref (ya Y 0)), (0, .ref b)] [] σ := by
  refine q_aload_n (pc := 483) C d_law_483 rfl 2 rfl ?_
  refine q_aload_n (pc := 484) C d_law_484 rfl 3 rfl ?_
  refine q_iload_n (pc := 485) C d_law_485 rfl 0 rfl ?_
  refine q_iconst (pc := 486) (v := 1) C d_law_486 (by decide) ?_
  refine q_iadd (pc := 487) C d_law_487 ?_
  refine q_sld (pc := 488) C hX (hin 1 (by decide)) d_law_488 ?_
  refine q_callVI (pc := 489) (st := []) (d := 0) C (m_Lc_energy C.2.2.2.2.2.2.1 h) mi_Lc_energy rfl (by decide) rfl wd_513 rfl rfl (Nat.le_of_ble_eq_true rfl) (by decide) (by decide) d_law_489 (fun r0 τ0 h => ?_)
  refine q_aload_n (pc := 492) C d_law_492 rfl 1 rfl ?_
  refine q_aload_n (pc := 493) C d_law_493 rfl 3 rfl ?_
  refine q_iload_n (pc := 494) C d_law_494 rfl 0 rfl ?_
  refine q_iconst (pc := 495) (v := 1) C d_law_495 (by decide) ?_
  refine q_iadd (pc := 496) C d_law_496 ?_
  refine q_sld (pc := 497) C hX (hin 1 (by decide)) d_law_497 ?_
  refine q_callVI (pc := 498) (st := [.int r0]) (d := 43) C (m_Md_energy C.2.2.2.2.2.2.1 h) mi_Md_energy rfl (by decide) rfl wd_989 rfl rfl (Nat.le_of_ble_eq_true rfl) (by decide) (by decide) d_law_498 (fun r1 τ1 h => ?_)
  refine q_icmp_eq (pc := 501) 1155 C d_law_501 (by decide) (fun _ => ?_) (fun hc => absurd h.1 hc)
  exact hT _ h.2
set_option maxHeartbeats 4000000 in
theorem law_day {Inv : Sg → Prop} {X : Bx} {Y : Yx} {Q : State → Prop} {σ : Sg} {b N : Nat} {zs : Nat → Int32} {i : Int32} (C : Cx X Y code 4 "LoadCyclesLaw" 9 360) (hX : lwX X Y b N zs) (hin : ∀ j : Nat, j < 6 → vp_in (i + Int32.ofNat j) N) (hT : ∀ τ, Inv τ → St X Y 4 Q 1155 [(3, .int i), (2, .ref (ya Y 43)), (1, .ref (ya Y 0)), (0, .ref b)] [] τ) (h : w_Lc_day (zs (i + 1).toNatClampNeg) (zs (i + 2).toNatClampNeg) (zs (i + 3).toNatClampNeg) (zs (i + 4).toNatClampNeg) (zs (i + 5).toNatClampNeg) σ (fun r0 τ0 => w_Md_day (zs (i + 1).toNatClampNeg) (zs (i + 2).toNatClampNeg) (zs (i + 3).toNatClampNeg) (zs (i + 4).toNatClampNeg) (zs (i + 5).toNatClampNeg) τ0 (fun r1 τ1 => r0 = r1 ∧ Inv τ1))) : St X Y 4 Q 506 [(3, .int i), (2, .ref (ya Y 43)), (1, .ref (ya Y 0)), (0, .ref b)] [] σ := by
  refine q_aload_n (pc := 506) C d_law_506 rfl 2 rfl ?_
  refine q_aload_n (pc := 507) C d_law_507 rfl 3 rfl ?_
  refine q_iload_n (pc := 508) C d_law_508 rfl 0 rfl ?_
  refine q_iconst (pc := 509) (v := 1) C d_law_509 (by decide) ?_
  refine q_iadd (pc := 510) C d_law_510 ?_
  refine q_sld (pc := 511) C hX (hin 1 (by decide)) d_law_511 ?_
  refine q_aload_n (pc := 512) C d_law_512 rfl 3 rfl ?_
  refine q_iload_n (pc := 513) C d_law_513 rfl 0 rfl ?_
  refine q_iconst (pc := 514) (v := 2) C d_law_514 (by decide) ?_
  refine q_iadd (pc := 515) C d_law_515 ?_
  refine q_sld (pc := 516) C hX (hin 2 (by decide)) d_law_516 ?_
  refine q_aload_n (pc := 517) C d_law_517 rfl 3 rfl ?_
  refine q_iload_n (pc := 518) C d_law_518 rfl 0 rfl ?_
  refine q_iconst (pc := 519) (v := 3) C d_law_519 (by decide) ?_
  refine q_iadd (pc := 520) C d_law_520 ?_
  refine q_sld (pc := 521) C hX (hin 3 (by decide)) d_law_521 ?_
  refine q_aload_n (pc := 522) C d_law_522 rfl 3 rfl ?_
  refine q_iload_n (pc := 523) C d_law_523 rfl 0 rfl ?_
  refine q_iconst (pc := 524) (v := 4) C d_law_524 (by decide) ?_
  refine q_iadd (pc := 525) C d_law_525 ?_
  refine q_sld (pc := 526) C hX (hin 4 (by decide)) d_law_526 ?_
  refine q_aload_n (pc := 527) C d_law_527 rfl 3 rfl ?_
  refine q_iload_n (pc := 528) C d_law_528 rfl 0 rfl ?_
  refine q_iconst (pc := 529) (v := 5) C d_law_529 (by decide) ?_
  refine q_iadd (pc := 530) C d_law_530 ?_
  refine q_sld (pc := 531) C hX (hin 5 (by decide)) d_law_531 ?_
  refine q_callVI (pc := 532) (st := []) (d := 0) C (m_Lc_day C.2.2.2.2.2.2.1 h) mi_Lc_day rfl (by decide) rfl wd_517 rfl rfl (Nat.le_of_ble_eq_true rfl) (by decide) (by decide) d_law_532 (fun r0 τ0 h => ?_)
  refine q_aload_n (pc := 535) C d_law_535 rfl 1 rfl ?_
  refine q_aload_n (pc := 536) C d_law_536 rfl 3 rfl ?_
  refine q_iload_n (pc := 537) C d_law_537 rfl 0 rfl ?_
  refine q_iconst (pc := 538) (v := 1) C d_law_538 (by decide) ?_
  refine q_iadd (pc := 539) C d_law_539 ?_
  refine q_sld (pc := 540) C hX (hin 1 (by decide)) d_law_540 ?_
  refine q_aload_n (pc := 541) C d_law_541 rfl 3 rfl ?_
  refine q_iload_n (pc := 542) C d_law_542 rfl 0 rfl ?_
  refine q_iconst (pc := 543) (v := 2) C d_law_543 (by decide) ?_
  refine q_iadd (pc := 544) C d_law_544 ?_
  refine q_sld (pc := 545) C hX (hin 2 (by decide)) d_law_545 ?_
  refine q_aload_n (pc := 546) C d_law_546 rfl 3 rfl ?_
  refine q_iload_n (pc := 547) C d_law_547 rfl 0 rfl ?_
  refine q_iconst (pc := 548) (v := 3) C d_law_548 (by decide) ?_
  refine q_iadd (pc := 549) C d_law_549 ?_
  refine q_sld (pc := 550) C hX (hin 3 (by decide)) d_law_550 ?_
  refine q_aload_n (pc := 551) C d_law_551 rfl 3 rfl ?_
  refine q_iload_n (pc := 552) C d_law_552 rfl 0 rfl ?_
  refine q_iconst (pc := 553) (v := 4) C d_law_553 (by decide) ?_
  refine q_iadd (pc := 554) C d_law_554 ?_
  refine q_sld (pc := 555) C hX (hin 4 (by decide)) d_law_555 ?_
  refine q_aload_n (pc := 556) C d_law_556 rfl 3 rfl ?_
  refine q_iload_n (pc := 557) C d_law_557 rfl 0 rfl ?_
  refine q_iconst (pc := 558) (v := 5) C d_law_558 (by decide) ?_
  refine q_iadd (pc := 559) C d_law_559 ?_
  refine q_sld (pc := 560) C hX (hin 5 (by decide)) d_law_560 ?_
  refine q_callVI (pc := 561) (st := [.int r0]) (d := 43) C (m_Md_day C.2.2.2.2.2.2.1 h) mi_Md_day rfl (by decide) rfl wd_993 rfl rfl (Nat.le_of_ble_eq_true rfl) (by decide) (by decide) d_law_561 (fun r1 τ1 h => ?_)
  refine q_icmp_eq (pc := 564) 1155 C d_law_564 (by decide) (fun _ => ?_) (fun hc => absurd h.1 hc)
  exact hT _ h.2
set_option maxHeartbeats 4000000 in
theorem law_jump {Inv : Sg → Prop} {X : Bx} {Y : Yx} {Q : State → Prop} {σ : Sg} {b N : Nat} {zs : Nat → Int32} {i : Int32} (C : Cx X Y code 4 "LoadCyclesLaw" 9 360) (hX : lwX X Y b N zs) (hin : ∀ j : Nat, j < 6 → vp_in (i + Int32.ofNat j) N) (hT : ∀ τ, Inv τ → St X Y 4 Q 1155 [(3, .int i), (2, .ref (ya Y 43)), (1, .ref (ya Y 0)), (0, .ref b)] [] τ) (h : w_Lc_jump (zs (i + 1).toNatClampNeg) σ (fun r0 => w_Md_jump (zs (i + 1).toNatClampNeg) σ (fun r1 => r0 = r1 ∧ Inv σ))) : St X Y 4 Q 569 [(3, .int i), (2, .ref (ya Y 43)), (1, .ref (ya Y 0)), (0, .ref b)] [] σ := by
  refine q_aload_n (pc := 569) C d_law_569 rfl 2 rfl ?_
  refine q_aload_n (pc := 570) C d_law_570 rfl 3 rfl ?_
  refine q_iload_n (pc := 571) C d_law_571 rfl 0 rfl ?_
  refine q_iconst (pc := 572) (v := 1) C d_law_572 (by decide) ?_
  refine q_iadd (pc := 573) C d_law_573 ?_
  refine q_sld (pc := 574) C hX (hin 1 (by decide)) d_law_574 ?_
  refine q_callVIr (pc := 575) (st := []) (d := 0) C (m_Lc_jump C.2.2.2.2.2.2.1 h) mi_Lc_jump rfl (by decide) rfl wd_558 rfl rfl (Nat.le_of_ble_eq_true rfl) (by decide) (by decide) d_law_575 (fun r0 h => ?_)
  refine q_aload_n (pc := 578) C d_law_578 rfl 1 rfl ?_
  refine q_aload_n (pc := 579) C d_law_579 rfl 3 rfl ?_
  refine q_iload_n (pc := 580) C d_law_580 rfl 0 rfl ?_
  refine q_iconst (pc := 581) (v := 1) C d_law_581 (by decide) ?_
  refine q_iadd (pc := 582) C d_law_582 ?_
  refine q_sld (pc := 583) C hX (hin 1 (by decide)) d_law_583 ?_
  refine q_callVIr (pc := 584) (st := [.int r0]) (d := 43) C (m_Md_jump C.2.2.2.2.2.2.1 h) mi_Md_jump rfl (by decide) rfl wd_1024 rfl rfl (Nat.le_of_ble_eq_true rfl) (by decide) (by decide) d_law_584 (fun r1 h => ?_)
  refine q_icmp_eq (pc := 587) 1155 C d_law_587 (by decide) (fun _ => ?_) (fun hc => absurd h.1 hc)
  exact hT _ h.2
set_option maxHeartbeats 4000000 in
theorem law_ways {Inv : Sg → Prop} {X : Bx} {Y : Yx} {Q : State → Prop} {σ : Sg} {b N : Nat} {zs : Nat → Int32} {i : Int32} (C : Cx X Y code 4 "LoadCyclesLaw" 9 360) (hX : lwX X Y b N zs) (hin : ∀ j : Nat, j < 6 → vp_in (i + Int32.ofNat j) N) (hT : ∀ τ, Inv τ → St X Y 4 Q 1155 [(3, .int i), (2, .ref (ya Y 43)), (1, .ref (ya Y 0)), (0, .ref b)] [] τ) (h : w_Lc_ways (zs (i + 1).toNatClampNeg) σ (fun r0 τ0 => w_Md_ways (zs (i + 1).toNatClampNeg) τ0 (fun r1 τ1 => r0 = r1 ∧ Inv τ1))) : St X Y 4 Q 592 [(3, .int i), (2, .ref (ya Y 43)), (1, .ref (ya Y 0)), (0, .ref b)] [] σ := by
  refine q_aload_n (pc := 592) C d_law_592 rfl 2 rfl ?_
  refine q_aload_n (pc := 593) C d_law_593 rfl 3 rfl ?_
  refine q_iload_n (pc := 594) C d_law_594 rfl 0 rfl ?_
  refine q_iconst (pc := 595) (v := 1) C d_law_595 (by decide) ?_
  refine q_iadd (pc := 596) C d_law_596 ?_
  refine q_sld (pc := 597) C hX (hin 1 (by decide)) d_law_597 ?_
  refine q_callVI (pc := 598) (st := []) (d := 0) C (m_Lc_ways C.2.2.2.2.2.2.1 h) mi_Lc_ways rfl (by decide) rfl wd_566 rfl rfl (Nat.le_of_ble_eq_true rfl) (by decide) (by decide) d_law_598 (fun r0 τ0 h => ?_)
  refine q_aload_n (pc := 601) C d_law_601 rfl 1 rfl ?_
  refine q_aload_n (pc := 602) C d_law_602 rfl 3 rfl ?_
  refine q_iload_n (pc := 603) C d_law_603 rfl 0 rfl ?_
  refine q_iconst (pc := 604) (v := 1) C d_law_604 (by decide) ?_
  refine q_iadd (pc := 605) C d_law_605 ?_
  refine q_sld (pc := 606) C hX (hin 1 (by decide)) d_law_606 ?_
  refine q_callVI (pc := 607) (st := [.int r0]) (d := 43) C (m_Md_ways C.2.2.2.2.2.2.1 h) mi_Md_ways rfl (by decide) rfl wd_1032 rfl rfl (Nat.le_of_ble_eq_true rfl) (by decide) (by decide) d_law_607 (fun r1 τ1 h => ?_)
  refine q_icmp_eq (pc := 610) 1155 C d_law_610 (by decide) (fun _ => ?_) (fun hc => absurd h.1 hc)
  exact hT _ h.2
set_option maxHeartbeats 4000000 in
theorem law_longest {Inv : Sg → Prop} {X : Bx} {Y : Yx} {Q : State → Prop} {σ : Sg} {b N : Nat} {zs : Nat → Int32} {i : Int32} (C : Cx X Y code 4 "LoadCyclesLaw" 9 360) (hX : lwX X Y b N zs) (hin : ∀ j : Nat, j < 6 → vp_in (i + Int32.ofNat j) N) (hT : ∀ τ, Inv τ → St X Y 4 Q 1155 [(3, .int i), (2, .ref (ya Y 43)), (1, .ref (ya Y 0)), (0, .ref b)] [] τ) (h : w_Lc_longest (zs (i + 1).toNatClampNeg) σ (fun r0 τ0 => w_Md_longest (zs (i + 1).toNatClampNeg) τ0 (fun r1 τ1 => r0 = r1 ∧ Inv τ1))) : St X Y 4 Q 615 [(3, .int i), (2, .ref (ya Y 43)), (1, .ref (ya Y 0)), (0, .ref b)] [] σ := by
  refine q_aload_n (pc := 615) C d_law_615 rfl 2 rfl ?_
  refine q_aload_n (pc := 616) C d_law_616 rfl 3 rfl ?_
  refine q_iload_n (pc := 617) C d_law_617 rfl 0 rfl ?_
  refine q_iconst (pc := 618) (v := 1) C d_law_618 (by decide) ?_
  refine q_iadd (pc := 619) C d_law_619 ?_
  refine q_sld (pc := 620) C hX (hin 1 (by decide)) d_law_620 ?_
  refine q_callVI (pc := 621) (st := []) (d := 0) C (m_Lc_longest C.2.2.2.2.2.2.1 h) mi_Lc_longest rfl (by decide) rfl wd_576 rfl rfl (Nat.le_of_ble_eq_true rfl) (by decide) (by decide) d_law_621 (fun r0 τ0 h => ?_)
  refine q_aload_n (pc := 624) C d_law_624 rfl 1 rfl ?_
  refine q_aload_n (pc := 625) C d_law_625 rfl 3 rfl ?_
  refine q_iload_n (pc := 626) C d_law_626 rfl 0 rfl ?_
  refine q_iconst (pc := 627) (v := 1) C d_law_627 (by decide) ?_
  refine q_iadd (pc := 628) C d_law_628 ?_
  refine q_sld (pc := 629) C hX (hin 1 (by decide)) d_law_629 ?_
  refine q_callVI (pc := 630) (st := [.int r0]) (d := 43) C (m_Md_longest C.2.2.2.2.2.2.1 h) mi_Md_longest rfl (by decide) rfl wd_1040 rfl rfl (Nat.le_of_ble_eq_true rfl) (by decide) (by decide) d_law_630 (fun r1 τ1 h => ?_)
  refine q_icmp_eq (pc := 633) 1155 C d_law_633 (by decide) (fun _ => ?_) (fun hc => absurd h.1 hc)
  exact hT _ h.2
set_option maxHeartbeats 4000000 in
theorem law_share {Inv : Sg → Prop} {X : Bx} {Y : Yx} {Q : State → Prop} {σ : Sg} {b N : Nat} {zs : Nat → Int32} {i : Int32} (C : Cx X Y code 4 "LoadCyclesLaw" 9 360) (hX : lwX X Y b N zs) (hin : ∀ j : Nat, j < 6 → vp_in (i + Int32.ofNat j) N) (hT : ∀ τ, Inv τ → St X Y 4 Q 1155 [(3, .int i), (2, .ref (ya Y 43)), (1, .ref (ya Y 0)), (0, .ref b)] [] τ) (h : w_Lc_share (zs (i + 1).toNatClampNeg) σ (fun r0 τ0 => w_Md_share (zs (i + 1).toNatClampNeg) τ0 (fun r1 τ1 => r0 = r1 ∧ Inv τ1))) : St X Y 4 Q 638 [(3, .int i), (2, .ref (ya Y 43)), (1, .ref (ya Y 0)), (0, .ref b)] [] σ := by
  refine q_aload_n (pc := 638) C d_law_638 rfl 2 rfl ?_
  refine q_aload_n (pc := 639) C d_law_639 rfl 3 rfl ?_
  refine q_iload_n (pc := 640) C d_law_640 rfl 0 rfl ?_
  refine q_iconst (pc := 641) (v := 1) C d_law_641 (by decide) ?_
  refine q_iadd (pc := 642) C d_law_642 ?_
  refine q_sld (pc := 643) C hX (hin 1 (by decide)) d_law_643 ?_
  refine q_callVI (pc := 644) (st := []) (d := 0) C (m_Lc_share C.2.2.2.2.2.2.1 h) mi_Lc_share rfl (by decide) rfl wd_583 rfl rfl (Nat.le_of_ble_eq_true rfl) (by decide) (by decide) d_law_644 (fun r0 τ0 h => ?_)
  refine q_aload_n (pc := 647) C d_law_647 rfl 1 rfl ?_
  refine q_aload_n (pc := 648) C d_law_648 rfl 3 rfl ?_
  refine q_iload_n (pc := 649) C d_law_649 rfl 0 rfl ?_
  refine q_iconst (pc := 650) (v := 1) C d_law_650 (by decide) ?_
  refine q_iadd (pc := 651) C d_law_651 ?_
  refine q_sld (pc := 652) C hX (hin 1 (by decide)) d_law_652 ?_
  refine q_callVI (pc := 653) (st := [.int r0]) (d := 43) C (m_Md_share C.2.2.2.2.2.2.1 h) mi_Md_share rfl (by decide) rfl wd_1044 rfl rfl (Nat.le_of_ble_eq_true rfl) (by decide) (by decide) d_law_653 (fun r1 τ1 h => ?_)
  refine q_icmp_eq (pc := 656) 1155 C d_law_656 (by decide) (fun _ => ?_) (fun hc => absurd h.1 hc)
  exact hT _ h.2
set_option maxHeartbeats 4000000 in
theorem law_mean {Inv : Sg → Prop} {X : Bx} {Y : Yx} {Q : State → Prop} {σ : Sg} {b N : Nat} {zs : Nat → Int32} {i : Int32} (C : Cx X Y code 4 "LoadCyclesLaw" 9 360) (hX : lwX X Y b N zs) (hin : ∀ j : Nat, j < 6 → vp_in (i + Int32.ofNat j) N) (hT : ∀ τ, Inv τ → St X Y 4 Q 1155 [(3, .int i), (2, .ref (ya Y 43)), (1, .ref (ya Y 0)), (0, .ref b)] [] τ) (h : w_Lc_mean σ (fun r0 => w_Md_mean σ (fun r1 => r0 = r1 ∧ Inv σ))) : St X Y 4 Q 661 [(3, .int i), (2, .ref (ya Y 43)), (1, .ref (ya Y 0)), (0, .ref b)] [] σ := by
  refine q_aload_n (pc := 661) C d_law_661 rfl 2 rfl ?_
  refine q_callVLr (pc := 662) (st := []) (d := 0) C (m_Lc_mean C.2.2.2.2.2.2.1 h) mi_Lc_mean rfl (by decide) rfl wd_592 rfl rfl (Nat.le_of_ble_eq_true rfl) (by decide) (by decide) d_law_662 (fun r0 h => ?_)
  refine q_aload_n (pc := 665) C d_law_665 rfl 1 rfl ?_
  refine q_callVLr (pc := 666) (st := [.long r0]) (d := 43) C (m_Md_mean C.2.2.2.2.2.2.1 h) mi_Md_mean rfl (by decide) rfl wd_1055 rfl rfl (Nat.le_of_ble_eq_true rfl) (by decide) (by decide) d_law_666 (fun r1 h => ?_)
  refine q_lcmp (pc := 669) C d_law_669 ?_
  refine q_if_eq (pc := 670) 1155 C d_law_670 (by decide) (fun _ => ?_) (fun hc => absurd ((lg_cmp_eq r0 r1).mpr h.1) hc)
  exact hT _ h.2
set_option maxHeartbeats 4000000 in
theorem law_reading {Inv : Sg → Prop} {X : Bx} {Y : Yx} {Q : State → Prop} {σ : Sg} {b N : Nat} {zs : Nat → Int32} {i : Int32} (C : Cx X Y code 4 "LoadCyclesLaw" 9 360) (hX : lwX X Y b N zs) (hin : ∀ j : Nat, j < 6 → vp_in (i + Int32.ofNat j) N) (hT : ∀ τ, Inv τ → St X Y 4 Q 1155 [(3, .int i), (2, .ref (ya Y 43)), (1, .ref (ya Y 0)), (0, .ref b)] [] τ) (h : w_Lc_reading (zs (i + 1).toNatClampNeg) (zs (i + 2).toNatClampNeg) σ (fun r0 τ0 => w_Md_reading (zs (i + 1).toNatClampNeg) (zs (i + 2).toNatClampNeg) τ0 (fun r1 τ1 => r0 = r1 ∧ Inv τ1))) : St X Y 4 Q 675 [(3, .int i), (2, .ref (ya Y 43)), (1, .ref (ya Y 0)), (0, .ref b)] [] σ := by
  refine q_aload_n (pc := 675) C d_law_675 rfl 2 rfl ?_
  refine q_aload_n (pc := 676) C d_law_676 rfl 3 rfl ?_
  refine q_iload_n (pc := 677) C d_law_677 rfl 0 rfl ?_
  refine q_iconst (pc := 678) (v := 1) C d_law_678 (by decide) ?_
  refine q_iadd (pc := 679) C d_law_679 ?_
  refine q_sld (pc := 680) C hX (hin 1 (by decide)) d_law_680 ?_
  refine q_aload_n (pc := 681) C d_law_681 rfl 3 rfl ?_
  refine q_iload_n (pc := 682) C d_law_682 rfl 0 rfl ?_
  refine q_iconst (pc := 683) (v := 2) C d_law_683 (by decide) ?_
  refine q_iadd (pc := 684) C d_law_684 ?_
  refine q_sld (pc := 685) C hX (hin 2 (by decide)) d_law_685 ?_
  refine q_callVI (pc := 686) (st := []) (d := 0) C (m_Lc_reading C.2.2.2.2.2.2.1 h) mi_Lc_reading rfl (by decide) rfl wd_597 rfl rfl (Nat.le_of_ble_eq_true rfl) (by decide) (by decide) d_law_686 (fun r0 τ0 h => ?_)
  refine q_aload_n (pc := 689) C d_law_689 rfl 1 rfl ?_
  refine q_aload_n (pc := 690) C d_law_690 rfl 3 rfl ?_
  refine q_iload_n (pc := 691) C d_law_691 rfl 0 rfl ?_
  refine q_iconst (pc := 692) (v := 1) C d_law_692 (by decide) ?_
  refine q_iadd (pc := 693) C d_law_693 ?_
  refine q_sld (pc := 694) C hX (hin 1 (by decide)) d_law_694 ?_
  refine q_aload_n (pc := 695) C d_law_695 rfl 3 rfl ?_
  refine q_iload_n (pc := 696) C d_law_696 rfl 0 rfl ?_
  refine q_iconst (pc := 697) (v := 2) C d_law_697 (by decide) ?_
  refine q_iadd (pc := 698) C d_law_698 ?_
  refine q_sld (pc := 699) C hX (hin 2 (by decide)) d_law_699 ?_
  refine q_callVI (pc := 700) (st := [.int r0]) (d := 43) C (m_Md_reading C.2.2.2.2.2.2.1 h) mi_Md_reading rfl (by decide) rfl wd_1060 rfl rfl (Nat.le_of_ble_eq_true rfl) (by decide) (by decide) d_law_700 (fun r1 τ1 h => ?_)
  refine q_icmp_eq (pc := 703) 1155 C d_law_703 (by decide) (fun _ => ?_) (fun hc => absurd h.1 hc)
  exact hT _ h.2
set_option maxHeartbeats 4000000 in
theorem law_back {Inv : Sg → Prop} {X : Bx} {Y : Yx} {Q : State → Prop} {σ : Sg} {b N : Nat} {zs : Nat → Int32} {i : Int32} (C : Cx X Y code 4 "LoadCyclesLaw" 9 360) (hX : lwX X Y b N zs) (hin : ∀ j : Nat, j < 6 → vp_in (i + Int32.ofNat j) N) (hT : ∀ τ, Inv τ → St X Y 4 Q 1155 [(3, .int i), (2, .ref (ya Y 43)), (1, .ref (ya Y 0)), (0, .ref b)] [] τ) (h : w_Lc_back (zs (i + 1).toNatClampNeg) σ (fun r0 τ0 => w_Md_back (zs (i + 1).toNatClampNeg) τ0 (fun r1 τ1 => r0 = r1 ∧ Inv τ1))) : St X Y 4 Q 708 [(3, .int i), (2, .ref (ya Y 43)), (1, .ref (ya Y 0)), (0, .ref b)] [] σ := by
  refine q_aload_n (pc := 708) C d_law_708 rfl 2 rfl ?_
  refine q_aload_n (pc := 709) C d_law_709 rfl 3 rfl ?_
  refine q_iload_n (pc := 710) C d_law_710 rfl 0 rfl ?_
  refine q_iconst (pc := 711) (v := 1) C d_law_711 (by decide) ?_
  refine q_iadd (pc := 712) C d_law_712 ?_
  refine q_sld (pc := 713) C hX (hin 1 (by decide)) d_law_713 ?_
  refine q_callVI (pc := 714) (st := []) (d := 0) C (m_Lc_back C.2.2.2.2.2.2.1 h) mi_Lc_back rfl (by decide) rfl wd_601 rfl rfl (Nat.le_of_ble_eq_true rfl) (by decide) (by decide) d_law_714 (fun r0 τ0 h => ?_)
  refine q_aload_n (pc := 717) C d_law_717 rfl 1 rfl ?_
  refine q_aload_n (pc := 718) C d_law_718 rfl 3 rfl ?_
  refine q_iload_n (pc := 719) C d_law_719 rfl 0 rfl ?_
  refine q_iconst (pc := 720) (v := 1) C d_law_720 (by decide) ?_
  refine q_iadd (pc := 721) C d_law_721 ?_
  refine q_sld (pc := 722) C hX (hin 1 (by decide)) d_law_722 ?_
  refine q_callVI (pc := 723) (st := [.int r0]) (d := 43) C (m_Md_back C.2.2.2.2.2.2.1 h) mi_Md_back rfl (by decide) rfl wd_1065 rfl rfl (Nat.le_of_ble_eq_true rfl) (by decide) (by decide) d_law_723 (fun r1 τ1 h => ?_)
  refine q_icmp_eq (pc := 726) 1155 C d_law_726 (by decide) (fun _ => ?_) (fun hc => absurd h.1 hc)
  exact hT _ h.2
set_option maxHeartbeats 4000000 in
theorem law_kinds {Inv : Sg → Prop} {X : Bx} {Y : Yx} {Q : State → Prop} {σ : Sg} {b N : Nat} {zs : Nat → Int32} {i : Int32} (C : Cx X Y code 4 "LoadCyclesLaw" 9 360) (hX : lwX X Y b N zs) (hin : ∀ j : Nat, j < 6 → vp_in (i + Int32.ofNat j) N) (hT : ∀ τ, Inv τ → St X Y 4 Q 1155 [(3, .int i), (2, .ref (ya Y 43)), (1, .ref (ya Y 0)), (0, .ref b)] [] τ) (h : w_Lc_kinds (zs (i + 1).toNatClampNeg) σ (fun r0 τ0 => w_Md_kinds (zs (i + 1).toNatClampNeg) τ0 (fun r1 τ1 => r0 = r1 ∧ Inv τ1))) : St X Y 4 Q 731 [(3, .int i), (2, .ref (ya Y 43)), (1, .ref (ya Y 0)), (0, .ref b)] [] σ := by
  refine q_aload_n (pc := 731) C d_law_731 rfl 2 rfl ?_
  refine q_aload_n (pc := 732) C d_law_732 rfl 3 rfl ?_
  refine q_iload_n (pc := 733) C d_law_733 rfl 0 rfl ?_
  refine q_iconst (pc := 734) (v := 1) C d_law_734 (by decide) ?_
  refine q_iadd (pc := 735) C d_law_735 ?_
  refine q_sld (pc := 736) C hX (hin 1 (by decide)) d_law_736 ?_
  refine q_callVI (pc := 737) (st := []) (d := 0) C (m_Lc_kinds C.2.2.2.2.2.2.1 h) mi_Lc_kinds rfl (by decide) rfl wd_605 rfl rfl (Nat.le_of_ble_eq_true rfl) (by decide) (by decide) d_law_737 (fun r0 τ0 h => ?_)
  refine q_aload_n (pc := 740) C d_law_740 rfl 1 rfl ?_
  refine q_aload_n (pc := 741) C d_law_741 rfl 3 rfl ?_
  refine q_iload_n (pc := 742) C d_law_742 rfl 0 rfl ?_
  refine q_iconst (pc := 743) (v := 1) C d_law_743 (by decide) ?_
  refine q_iadd (pc := 744) C d_law_744 ?_
  refine q_sld (pc := 745) C hX (hin 1 (by decide)) d_law_745 ?_
  refine q_callVI (pc := 746) (st := [.int r0]) (d := 43) C (m_Md_kinds C.2.2.2.2.2.2.1 h) mi_Md_kinds rfl (by decide) rfl wd_1069 rfl rfl (Nat.le_of_ble_eq_true rfl) (by decide) (by decide) d_law_746 (fun r1 τ1 h => ?_)
  refine q_icmp_eq (pc := 749) 1155 C d_law_749 (by decide) (fun _ => ?_) (fun hc => absurd h.1 hc)
  exact hT _ h.2
set_option maxHeartbeats 4000000 in
theorem law_firsts {Inv : Sg → Prop} {X : Bx} {Y : Yx} {Q : State → Prop} {σ : Sg} {b N : Nat} {zs : Nat → Int32} {i : Int32} (C : Cx X Y code 4 "LoadCyclesLaw" 9 360) (hX : lwX X Y b N zs) (hin : ∀ j : Nat, j < 6 → vp_in (i + Int32.ofNat j) N) (hT : ∀ τ, Inv τ → St X Y 4 Q 1155 [(3, .int i), (2, .ref (ya Y 43)), (1, .ref (ya Y 0)), (0, .ref b)] [] τ) (h : w_Lc_firsts (zs (i + 1).toNatClampNeg) σ (fun r0 τ0 => w_Md_firsts (zs (i + 1).toNatClampNeg) τ0 (fun r1 τ1 => r0 = r1 ∧ Inv τ1))) : St X Y 4 Q 754 [(3, .int i), (2, .ref (ya Y 43)), (1, .ref (ya Y 0)), (0, .ref b)] [] σ := by
  refine q_aload_n (pc := 754) C d_law_754 rfl 2 rfl ?_
  refine q_aload_n (pc := 755) C d_law_755 rfl 3 rfl ?_
  refine q_iload_n (pc := 756) C d_law_756 rfl 0 rfl ?_
  refine q_iconst (pc := 757) (v := 1) C d_law_757 (by decide) ?_
  refine q_iadd (pc := 758) C d_law_758 ?_
  refine q_sld (pc := 759) C hX (hin 1 (by decide)) d_law_759 ?_
  refine q_callVI (pc := 760) (st := []) (d := 0) C (m_Lc_firsts C.2.2.2.2.2.2.1 h) mi_Lc_firsts rfl (by decide) rfl wd_630 rfl rfl (Nat.le_of_ble_eq_true rfl) (by decide) (by decide) d_law_760 (fun r0 τ0 h => ?_)
  refine q_aload_n (pc := 763) C d_law_763 rfl 1 rfl ?_
  refine q_aload_n (pc := 764) C d_law_764 rfl 3 rfl ?_
  refine q_iload_n (pc := 765) C d_law_765 rfl 0 rfl ?_
  refine q_iconst (pc := 766) (v := 1) C d_law_766 (by decide) ?_
  refine q_iadd (pc := 767) C d_law_767 ?_
  refine q_sld (pc := 768) C hX (hin 1 (by decide)) d_law_768 ?_
  refine q_callVI (pc := 769) (st := [.int r0]) (d := 43) C (m_Md_firsts C.2.2.2.2.2.2.1 h) mi_Md_firsts rfl (by decide) rfl wd_1077 rfl rfl (Nat.le_of_ble_eq_true rfl) (by decide) (by decide) d_law_769 (fun r1 τ1 h => ?_)
  refine q_icmp_eq (pc := 772) 1155 C d_law_772 (by decide) (fun _ => ?_) (fun hc => absurd h.1 hc)
  exact hT _ h.2
set_option maxHeartbeats 4000000 in
theorem law_odds {Inv : Sg → Prop} {X : Bx} {Y : Yx} {Q : State → Prop} {σ : Sg} {b N : Nat} {zs : Nat → Int32} {i : Int32} (C : Cx X Y code 4 "LoadCyclesLaw" 9 360) (hX : lwX X Y b N zs) (hin : ∀ j : Nat, j < 6 → vp_in (i + Int32.ofNat j) N) (hT : ∀ τ, Inv τ → St X Y 4 Q 1155 [(3, .int i), (2, .ref (ya Y 43)), (1, .ref (ya Y 0)), (0, .ref b)] [] τ) (h : w_Lc_odds (zs (i + 1).toNatClampNeg) (zs (i + 2).toNatClampNeg) σ (fun r0 τ0 => w_Md_odds (zs (i + 1).toNatClampNeg) (zs (i + 2).toNatClampNeg) τ0 (fun r1 τ1 => r0 = r1 ∧ Inv τ1))) : St X Y 4 Q 777 [(3, .int i), (2, .ref (ya Y 43)), (1, .ref (ya Y 0)), (0, .ref b)] [] σ := by
  refine q_aload_n (pc := 777) C d_law_777 rfl 2 rfl ?_
  refine q_aload_n (pc := 778) C d_law_778 rfl 3 rfl ?_
  refine q_iload_n (pc := 779) C d_law_779 rfl 0 rfl ?_
  refine q_iconst (pc := 780) (v := 1) C d_law_780 (by decide) ?_
  refine q_iadd (pc := 781) C d_law_781 ?_
  refine q_sld (pc := 782) C hX (hin 1 (by decide)) d_law_782 ?_
  refine q_aload_n (pc := 783) C d_law_783 rfl 3 rfl ?_
  refine q_iload_n (pc := 784) C d_law_784 rfl 0 rfl ?_
  refine q_iconst (pc := 785) (v := 2) C d_law_785 (by decide) ?_
  refine q_iadd (pc := 786) C d_law_786 ?_
  refine q_sld (pc := 787) C hX (hin 2 (by decide)) d_law_787 ?_
  refine q_callVL (pc := 788) (st := []) (d := 0) C (m_Lc_odds C.2.2.2.2.2.2.1 h) mi_Lc_odds rfl (by decide) rfl wd_634 rfl rfl (Nat.le_of_ble_eq_true rfl) (by decide) (by decide) d_law_788 (fun r0 τ0 h => ?_)
  refine q_aload_n (pc := 791) C d_law_791 rfl 1 rfl ?_
  refine q_aload_n (pc := 792) C d_law_792 rfl 3 rfl ?_
  refine q_iload_n (pc := 793) C d_law_793 rfl 0 rfl ?_
  refine q_iconst (pc := 794) (v := 1) C d_law_794 (by decide) ?_
  refine q_iadd (pc := 795) C d_law_795 ?_
  refine q_sld (pc := 796) C hX (hin 1 (by decide)) d_law_796 ?_
  refine q_aload_n (pc := 797) C d_law_797 rfl 3 rfl ?_
  refine q_iload_n (pc := 798) C d_law_798 rfl 0 rfl ?_
  refine q_iconst (pc := 799) (v := 2) C d_law_799 (by decide) ?_
  refine q_iadd (pc := 800) C d_law_800 ?_
  refine q_sld (pc := 801) C hX (hin 2 (by decide)) d_law_801 ?_
  refine q_callVL (pc := 802) (st := [.long r0]) (d := 43) C (m_Md_odds C.2.2.2.2.2.2.1 h) mi_Md_odds rfl (by decide) rfl wd_1081 rfl rfl (Nat.le_of_ble_eq_true rfl) (by decide) (by decide) d_law_802 (fun r1 τ1 h => ?_)
  refine q_lcmp (pc := 805) C d_law_805 ?_
  refine q_if_eq (pc := 806) 1155 C d_law_806 (by decide) (fun _ => ?_) (fun hc => absurd ((lg_cmp_eq r0 r1).mpr h.1) hc)
  exact hT _ h.2
set_option maxHeartbeats 4000000 in
theorem law_sheet {Inv : Sg → Prop} {X : Bx} {Y : Yx} {Q : State → Prop} {σ : Sg} {b N : Nat} {zs : Nat → Int32} {i : Int32} (C : Cx X Y code 4 "LoadCyclesLaw" 9 360) (hX : lwX X Y b N zs) (hin : ∀ j : Nat, j < 6 → vp_in (i + Int32.ofNat j) N) (hT : ∀ τ, Inv τ → St X Y 4 Q 1155 [(3, .int i), (2, .ref (ya Y 43)), (1, .ref (ya Y 0)), (0, .ref b)] [] τ) (h : w_Lc_sheet (zs (i + 1).toNatClampNeg) (zs (i + 2).toNatClampNeg) (zs (i + 3).toNatClampNeg) σ (fun r0 τ0 => w_Md_sheet (zs (i + 1).toNatClampNeg) (zs (i + 2).toNatClampNeg) (zs (i + 3).toNatClampNeg) τ0 (fun r1 τ1 => r0 = r1 ∧ Inv τ1))) : St X Y 4 Q 811 [(3, .int i), (2, .ref (ya Y 43)), (1, .ref (ya Y 0)), (0, .ref b)] [] σ := by
  refine q_aload_n (pc := 811) C d_law_811 rfl 2 rfl ?_
  refine q_aload_n (pc := 812) C d_law_812 rfl 3 rfl ?_
  refine q_iload_n (pc := 813) C d_law_813 rfl 0 rfl ?_
  refine q_iconst (pc := 814) (v := 1) C d_law_814 (by decide) ?_
  refine q_iadd (pc := 815) C d_law_815 ?_
  refine q_sld (pc := 816) C hX (hin 1 (by decide)) d_law_816 ?_
  refine q_aload_n (pc := 817) C d_law_817 rfl 3 rfl ?_
  refine q_iload_n (pc := 818) C d_law_818 rfl 0 rfl ?_
  refine q_iconst (pc := 819) (v := 2) C d_law_819 (by decide) ?_
  refine q_iadd (pc := 820) C d_law_820 ?_
  refine q_sld (pc := 821) C hX (hin 2 (by decide)) d_law_821 ?_
  refine q_aload_n (pc := 822) C d_law_822 rfl 3 rfl ?_
  refine q_iload_n (pc := 823) C d_law_823 rfl 0 rfl ?_
  refine q_iconst (pc := 824) (v := 3) C d_law_824 (by decide) ?_
  refine q_iadd (pc := 825) C d_law_825 ?_
  refine q_sld (pc := 826) C hX (hin 3 (by decide)) d_law_826 ?_
  refine q_callVI (pc := 827) (st := []) (d := 0) C (m_Lc_sheet C.2.2.2.2.2.2.1 h) mi_Lc_sheet rfl (by decide) rfl wd_641 rfl rfl (Nat.le_of_ble_eq_true rfl) (by decide) (by decide) d_law_827 (fun r0 τ0 h => ?_)
  refine q_aload_n (pc := 830) C d_law_830 rfl 1 rfl ?_
  refine q_aload_n (pc := 831) C d_law_831 rfl 3 rfl ?_
  refine q_iload_n (pc := 832) C d_law_832 rfl 0 rfl ?_
  refine q_iconst (pc := 833) (v := 1) C d_law_833 (by decide) ?_
  refine q_iadd (pc := 834) C d_law_834 ?_
  refine q_sld (pc := 835) C hX (hin 1 (by decide)) d_law_835 ?_
  refine q_aload_n (pc := 836) C d_law_836 rfl 3 rfl ?_
  refine q_iload_n (pc := 837) C d_law_837 rfl 0 rfl ?_
  refine q_iconst (pc := 838) (v := 2) C d_law_838 (by decide) ?_
  refine q_iadd (pc := 839) C d_law_839 ?_
  refine q_sld (pc := 840) C hX (hin 2 (by decide)) d_law_840 ?_
  refine q_aload_n (pc := 841) C d_law_841 rfl 3 rfl ?_
  refine q_iload_n (pc := 842) C d_law_842 rfl 0 rfl ?_
  refine q_iconst (pc := 843) (v := 3) C d_law_843 (by decide) ?_
  refine q_iadd (pc := 844) C d_law_844 ?_
  refine q_sld (pc := 845) C hX (hin 3 (by decide)) d_law_845 ?_
  refine q_callVI (pc := 846) (st := [.int r0]) (d := 43) C (m_Md_sheet C.2.2.2.2.2.2.1 h) mi_Md_sheet rfl (by decide) rfl wd_1088 rfl rfl (Nat.le_of_ble_eq_true rfl) (by decide) (by decide) d_law_846 (fun r1 τ1 h => ?_)
  refine q_icmp_eq (pc := 849) 1155 C d_law_849 (by decide) (fun _ => ?_) (fun hc => absurd h.1 hc)
  exact hT _ h.2
set_option maxHeartbeats 4000000 in
theorem law_lose {Inv : Sg → Prop} {X : Bx} {Y : Yx} {Q : State → Prop} {σ : Sg} {b N : Nat} {zs : Nat → Int32} {i : Int32} (C : Cx X Y code 4 "LoadCyclesLaw" 9 360) (hX : lwX X Y b N zs) (hin : ∀ j : Nat, j < 6 → vp_in (i + Int32.ofNat j) N) (hT : ∀ τ, Inv τ → St X Y 4 Q 1155 [(3, .int i), (2, .ref (ya Y 43)), (1, .ref (ya Y 0)), (0, .ref b)] [] τ) (h : w_Lc_lose (zs (i + 1).toNatClampNeg) σ (fun r0 τ0 => w_Md_lose (zs (i + 1).toNatClampNeg) τ0 (fun r1 τ1 => r0 = r1 ∧ Inv τ1))) : St X Y 4 Q 854 [(3, .int i), (2, .ref (ya Y 43)), (1, .ref (ya Y 0)), (0, .ref b)] [] σ := by
  refine q_aload_n (pc := 854) C d_law_854 rfl 2 rfl ?_
  refine q_aload_n (pc := 855) C d_law_855 rfl 3 rfl ?_
  refine q_iload_n (pc := 856) C d_law_856 rfl 0 rfl ?_
  refine q_iconst (pc := 857) (v := 1) C d_law_857 (by decide) ?_
  refine q_iadd (pc := 858) C d_law_858 ?_
  refine q_sld (pc := 859) C hX (hin 1 (by decide)) d_law_859 ?_
  refine q_callVI (pc := 860) (st := []) (d := 0) C (m_Lc_lose C.2.2.2.2.2.2.1 h) mi_Lc_lose rfl (by decide) rfl wd_650 rfl rfl (Nat.le_of_ble_eq_true rfl) (by decide) (by decide) d_law_860 (fun r0 τ0 h => ?_)
  refine q_aload_n (pc := 863) C d_law_863 rfl 1 rfl ?_
  refine q_aload_n (pc := 864) C d_law_864 rfl 3 rfl ?_
  refine q_iload_n (pc := 865) C d_law_865 rfl 0 rfl ?_
  refine q_iconst (pc := 866) (v := 1) C d_law_866 (by decide) ?_
  refine q_iadd (pc := 867) C d_law_867 ?_
  refine q_sld (pc := 868) C hX (hin 1 (by decide)) d_law_868 ?_
  refine q_callVI (pc := 869) (st := [.int r0]) (d := 43) C (m_Md_lose C.2.2.2.2.2.2.1 h) mi_Md_lose rfl (by decide) rfl wd_1092 rfl rfl (Nat.le_of_ble_eq_true rfl) (by decide) (by decide) d_law_869 (fun r1 τ1 h => ?_)
  refine q_icmp_eq (pc := 872) 1155 C d_law_872 (by decide) (fun _ => ?_) (fun hc => absurd h.1 hc)
  exact hT _ h.2
set_option maxHeartbeats 4000000 in
theorem law_put {Inv : Sg → Prop} {X : Bx} {Y : Yx} {Q : State → Prop} {σ : Sg} {b N : Nat} {zs : Nat → Int32} {i : Int32} (C : Cx X Y code 4 "LoadCyclesLaw" 9 360) (hX : lwX X Y b N zs) (hin : ∀ j : Nat, j < 6 → vp_in (i + Int32.ofNat j) N) (hT : ∀ τ, Inv τ → St X Y 4 Q 1155 [(3, .int i), (2, .ref (ya Y 43)), (1, .ref (ya Y 0)), (0, .ref b)] [] τ) (h : w_Lc_put (zs (i + 1).toNatClampNeg) (zs (i + 2).toNatClampNeg) (zs (i + 3).toNatClampNeg) σ (fun r0 τ0 => w_Md_put (zs (i + 1).toNatClampNeg) (zs (i + 2).toNatClampNeg) (zs (i + 3).toNatClampNeg) τ0 (fun r1 τ1 => r0 = r1 ∧ Inv τ1))) : St X Y 4 Q 877 [(3, .int i), (2, .ref (ya Y 43)), (1, .ref (ya Y 0)), (0, .ref b)] [] σ := by
  refine q_aload_n (pc := 877) C d_law_877 rfl 2 rfl ?_
  refine q_aload_n (pc := 878) C d_law_878 rfl 3 rfl ?_
  refine q_iload_n (pc := 879) C d_law_879 rfl 0 rfl ?_
  refine q_iconst (pc := 880) (v := 1) C d_law_880 (by decide) ?_
  refine q_iadd (pc := 881) C d_law_881 ?_
  refine q_sld (pc := 882) C hX (hin 1 (by decide)) d_law_882 ?_
  refine q_aload_n (pc := 883) C d_law_883 rfl 3 rfl ?_
  refine q_iload_n (pc := 884) C d_law_884 rfl 0 rfl ?_
  refine q_iconst (pc := 885) (v := 2) C d_law_885 (by decide) ?_
  refine q_iadd (pc := 886) C d_law_886 ?_
  refine q_sld (pc := 887) C hX (hin 2 (by decide)) d_law_887 ?_
  refine q_aload_n (pc := 888) C d_law_888 rfl 3 rfl ?_
  refine q_iload_n (pc := 889) C d_law_889 rfl 0 rfl ?_
  refine q_iconst (pc := 890) (v := 3) C d_law_890 (by decide) ?_
  refine q_iadd (pc := 891) C d_law_891 ?_
  refine q_sld (pc := 892) C hX (hin 3 (by decide)) d_law_892 ?_
  refine q_callVI (pc := 893) (st := []) (d := 0) C (m_Lc_put C.2.2.2.2.2.2.1 h) mi_Lc_put rfl (by decide) rfl wd_659 rfl rfl (Nat.le_of_ble_eq_true rfl) (by decide) (by decide) d_law_893 (fun r0 τ0 h => ?_)
  refine q_aload_n (pc := 896) C d_law_896 rfl 1 rfl ?_
  refine q_aload_n (pc := 897) C d_law_897 rfl 3 rfl ?_
  refine q_iload_n (pc := 898) C d_law_898 rfl 0 rfl ?_
  refine q_iconst (pc := 899) (v := 1) C d_law_899 (by decide) ?_
  refine q_iadd (pc := 900) C d_law_900 ?_
  refine q_sld (pc := 901) C hX (hin 1 (by decide)) d_law_901 ?_
  refine q_aload_n (pc := 902) C d_law_902 rfl 3 rfl ?_
  refine q_iload_n (pc := 903) C d_law_903 rfl 0 rfl ?_
  refine q_iconst (pc := 904) (v := 2) C d_law_904 (by decide) ?_
  refine q_iadd (pc := 905) C d_law_905 ?_
  refine q_sld (pc := 906) C hX (hin 2 (by decide)) d_law_906 ?_
  refine q_aload_n (pc := 907) C d_law_907 rfl 3 rfl ?_
  refine q_iload_n (pc := 908) C d_law_908 rfl 0 rfl ?_
  refine q_iconst (pc := 909) (v := 3) C d_law_909 (by decide) ?_
  refine q_iadd (pc := 910) C d_law_910 ?_
  refine q_sld (pc := 911) C hX (hin 3 (by decide)) d_law_911 ?_
  refine q_callVI (pc := 912) (st := [.int r0]) (d := 43) C (m_Md_put C.2.2.2.2.2.2.1 h) mi_Md_put rfl (by decide) rfl wd_1096 rfl rfl (Nat.le_of_ble_eq_true rfl) (by decide) (by decide) d_law_912 (fun r1 τ1 h => ?_)
  refine q_icmp_eq (pc := 915) 1155 C d_law_915 (by decide) (fun _ => ?_) (fun hc => absurd h.1 hc)
  exact hT _ h.2
set_option maxHeartbeats 4000000 in
theorem law_cell {Inv : Sg → Prop} {X : Bx} {Y : Yx} {Q : State → Prop} {σ : Sg} {b N : Nat} {zs : Nat → Int32} {i : Int32} (C : Cx X Y code 4 "LoadCyclesLaw" 9 360) (hX : lwX X Y b N zs) (hin : ∀ j : Nat, j < 6 → vp_in (i + Int32.ofNat j) N) (hT : ∀ τ, Inv τ → St X Y 4 Q 1155 [(3, .int i), (2, .ref (ya Y 43)), (1, .ref (ya Y 0)), (0, .ref b)] [] τ) (h : w_Lc_cell (zs (i + 1).toNatClampNeg) (zs (i + 2).toNatClampNeg) (zs (i + 3).toNatClampNeg) σ (fun r0 τ0 => w_Md_cell (zs (i + 1).toNatClampNeg) (zs (i + 2).toNatClampNeg) (zs (i + 3).toNatClampNeg) τ0 (fun r1 τ1 => r0 = r1 ∧ Inv τ1))) : St X Y 4 Q 920 [(3, .int i), (2, .ref (ya Y 43)), (1, .ref (ya Y 0)), (0, .ref b)] [] σ := by
  refine q_aload_n (pc := 920) C d_law_920 rfl 2 rfl ?_
  refine q_aload_n (pc := 921) C d_law_921 rfl 3 rfl ?_
  refine q_iload_n (pc := 922) C d_law_922 rfl 0 rfl ?_
  refine q_iconst (pc := 923) (v := 1) C d_law_923 (by decide) ?_
  refine q_iadd (pc := 924) C d_law_924 ?_
  refine q_sld (pc := 925) C hX (hin 1 (by decide)) d_law_925 ?_
  refine q_aload_n (pc := 926) C d_law_926 rfl 3 rfl ?_
  refine q_iload_n (pc := 927) C d_law_927 rfl 0 rfl ?_
  refine q_iconst (pc := 928) (v := 2) C d_law_928 (by decide) ?_
  refine q_iadd (pc := 929) C d_law_929 ?_
  refine q_sld (pc := 930) C hX (hin 2 (by decide)) d_law_930 ?_
  refine q_aload_n (pc := 931) C d_law_931 rfl 3 rfl ?_
  refine q_iload_n (pc := 932) C d_law_932 rfl 0 rfl ?_
  refine q_iconst (pc := 933) (v := 3) C d_law_933 (by decide) ?_
  refine q_iadd (pc := 934) C d_law_934 ?_
  refine q_sld (pc := 935) C hX (hin 3 (by decide)) d_law_935 ?_
  refine q_callVL (pc := 936) (st := []) (d := 0) C (m_Lc_cell C.2.2.2.2.2.2.1 h) mi_Lc_cell rfl (by decide) rfl wd_667 rfl rfl (Nat.le_of_ble_eq_true rfl) (by decide) (by decide) d_law_936 (fun r0 τ0 h => ?_)
  refine q_aload_n (pc := 939) C d_law_939 rfl 1 rfl ?_
  refine q_aload_n (pc := 940) C d_law_940 rfl 3 rfl ?_
  refine q_iload_n (pc := 941) C d_law_941 rfl 0 rfl ?_
  refine q_iconst (pc := 942) (v := 1) C d_law_942 (by decide) ?_
  refine q_iadd (pc := 943) C d_law_943 ?_
  refine q_sld (pc := 944) C hX (hin 1 (by decide)) d_law_944 ?_
  refine q_aload_n (pc := 945) C d_law_945 rfl 3 rfl ?_
  refine q_iload_n (pc := 946) C d_law_946 rfl 0 rfl ?_
  refine q_iconst (pc := 947) (v := 2) C d_law_947 (by decide) ?_
  refine q_iadd (pc := 948) C d_law_948 ?_
  refine q_sld (pc := 949) C hX (hin 2 (by decide)) d_law_949 ?_
  refine q_aload_n (pc := 950) C d_law_950 rfl 3 rfl ?_
  refine q_iload_n (pc := 951) C d_law_951 rfl 0 rfl ?_
  refine q_iconst (pc := 952) (v := 3) C d_law_952 (by decide) ?_
  refine q_iadd (pc := 953) C d_law_953 ?_
  refine q_sld (pc := 954) C hX (hin 3 (by decide)) d_law_954 ?_
  refine q_callVL (pc := 955) (st := [.long r0]) (d := 43) C (m_Md_cell C.2.2.2.2.2.2.1 h) mi_Md_cell rfl (by decide) rfl wd_1100 rfl rfl (Nat.le_of_ble_eq_true rfl) (by decide) (by decide) d_law_955 (fun r1 τ1 h => ?_)
  refine q_lcmp (pc := 958) C d_law_958 ?_
  refine q_if_eq (pc := 959) 1155 C d_law_959 (by decide) (fun _ => ?_) (fun hc => absurd ((lg_cmp_eq r0 r1).mpr h.1) hc)
  exact hT _ h.2
set_option maxHeartbeats 4000000 in
theorem law_copy {Inv : Sg → Prop} {X : Bx} {Y : Yx} {Q : State → Prop} {σ : Sg} {b N : Nat} {zs : Nat → Int32} {i : Int32} (C : Cx X Y code 4 "LoadCyclesLaw" 9 360) (hX : lwX X Y b N zs) (hin : ∀ j : Nat, j < 6 → vp_in (i + Int32.ofNat j) N) (hT : ∀ τ, Inv τ → St X Y 4 Q 1155 [(3, .int i), (2, .ref (ya Y 43)), (1, .ref (ya Y 0)), (0, .ref b)] [] τ) (h : w_Lc_copy (zs (i + 1).toNatClampNeg) (zs (i + 2).toNatClampNeg) (zs (i + 3).toNatClampNeg) (zs (i + 4).toNatClampNeg) (zs (i + 5).toNatClampNeg) σ (fun r0 τ0 => w_Md_copy (zs (i + 1).toNatClampNeg) (zs (i + 2).toNatClampNeg) (zs (i + 3).toNatClampNeg) (zs (i + 4).toNatClampNeg) (zs (i + 5).toNatClampNeg) τ0 (fun r1 τ1 => r0 = r1 ∧ Inv τ1))) : St X Y 4 Q 964 [(3, .int i), (2, .ref (ya Y 43)), (1, .ref (ya Y 0)), (0, .ref b)] [] σ := by
  refine q_aload_n (pc := 964) C d_law_964 rfl 2 rfl ?_
  refine q_aload_n (pc := 965) C d_law_965 rfl 3 rfl ?_
  refine q_iload_n (pc := 966) C d_law_966 rfl 0 rfl ?_
  refine q_iconst (pc := 967) (v := 1) C d_law_967 (by decide) ?_
  refine q_iadd (pc := 968) C d_law_968 ?_
  refine q_sld (pc := 969) C hX (hin 1 (by decide)) d_law_969 ?_
  refine q_aload_n (pc := 970) C d_law_970 rfl 3 rfl ?_
  refine q_iload_n (pc := 971) C d_law_971 rfl 0 rfl ?_
  refine q_iconst (pc := 972) (v := 2) C d_law_972 (by decide) ?_
  refine q_iadd (pc := 973) C d_law_973 ?_
  refine q_sld (pc := 974) C hX (hin 2 (by decide)) d_law_974 ?_
  refine q_aload_n (pc := 975) C d_law_975 rfl 3 rfl ?_
  refine q_iload_n (pc := 976) C d_law_976 rfl 0 rfl ?_
  refine q_iconst (pc := 977) (v := 3) C d_law_977 (by decide) ?_
  refine q_iadd (pc := 978) C d_law_978 ?_
  refine q_sld (pc := 979) C hX (hin 3 (by decide)) d_law_979 ?_
  refine q_aload_n (pc := 980) C d_law_980 rfl 3 rfl ?_
  refine q_iload_n (pc := 981) C d_law_981 rfl 0 rfl ?_
  refine q_iconst (pc := 982) (v := 4) C d_law_982 (by decide) ?_
  refine q_iadd (pc := 983) C d_law_983 ?_
  refine q_sld (pc := 984) C hX (hin 4 (by decide)) d_law_984 ?_
  refine q_aload_n (pc := 985) C d_law_985 rfl 3 rfl ?_
  refine q_iload_n (pc := 986) C d_law_986 rfl 0 rfl ?_
  refine q_iconst (pc := 987) (v := 5) C d_law_987 (by decide) ?_
  refine q_iadd (pc := 988) C d_law_988 ?_
  refine q_sld (pc := 989) C hX (hin 5 (by decide)) d_law_989 ?_
  refine q_callVI (pc := 990) (st := []) (d := 0) C (m_Lc_copy C.2.2.2.2.2.2.1 h) mi_Lc_copy rfl (by decide) rfl wd_671 rfl rfl (Nat.le_of_ble_eq_true rfl) (by decide) (by decide) d_law_990 (fun r0 τ0 h => ?_)
  refine q_aload_n (pc := 993) C d_law_993 rfl 1 rfl ?_
  refine q_aload_n (pc := 994) C d_law_994 rfl 3 rfl ?_
  refine q_iload_n (pc := 995) C d_law_995 rfl 0 rfl ?_
  refine q_iconst (pc := 996) (v := 1) C d_law_996 (by decide) ?_
  refine q_iadd (pc := 997) C d_law_997 ?_
  refine q_sld (pc := 998) C hX (hin 1 (by decide)) d_law_998 ?_
  refine q_aload_n (pc := 999) C d_law_999 rfl 3 rfl ?_
  refine q_iload_n (pc := 1000) C d_law_1000 rfl 0 rfl ?_
  refine q_iconst (pc := 1001) (v := 2) C d_law_1001 (by decide) ?_
  refine q_iadd (pc := 1002) C d_law_1002 ?_
  refine q_sld (pc := 1003) C hX (hin 2 (by decide)) d_law_1003 ?_
  refine q_aload_n (pc := 1004) C d_law_1004 rfl 3 rfl ?_
  refine q_iload_n (pc := 1005) C d_law_1005 rfl 0 rfl ?_
  refine q_iconst (pc := 1006) (v := 3) C d_law_1006 (by decide) ?_
  refine q_iadd (pc := 1007) C d_law_1007 ?_
  refine q_sld (pc := 1008) C hX (hin 3 (by decide)) d_law_1008 ?_
  refine q_aload_n (pc := 1009) C d_law_1009 rfl 3 rfl ?_
  refine q_iload_n (pc := 1010) C d_law_1010 rfl 0 rfl ?_
  refine q_iconst (pc := 1011) (v := 4) C d_law_1011 (by decide) ?_
  refine q_iadd (pc := 1012) C d_law_1012 ?_
  refine q_sld (pc := 1013) C hX (hin 4 (by decide)) d_law_1013 ?_
  refine q_aload_n (pc := 1014) C d_law_1014 rfl 3 rfl ?_
  refine q_iload_n (pc := 1015) C d_law_1015 rfl 0 rfl ?_
  refine q_iconst (pc := 1016) (v := 5) C d_law_1016 (by decide) ?_
  refine q_iadd (pc := 1017) C d_law_1017 ?_
  refine q_sld (pc := 1018) C hX (hin 5 (by decide)) d_law_1018 ?_
  refine q_callVI (pc := 1019) (st := [.int r0]) (d := 43) C (m_Md_copy C.2.2.2.2.2.2.1 h) mi_Md_copy rfl (by decide) rfl wd_1108 rfl rfl (Nat.le_of_ble_eq_true rfl) (by decide) (by decide) d_law_1019 (fun r1 τ1 h => ?_)
  refine q_icmp_eq (pc := 1022) 1155 C d_law_1022 (by decide) (fun _ => ?_) (fun hc => absurd h.1 hc)
  exact hT _ h.2
set_option maxHeartbeats 4000000 in
theorem law_tell {Inv : Sg → Prop} {X : Bx} {Y : Yx} {Q : State → Prop} {σ : Sg} {b N : Nat} {zs : Nat → Int32} {i : Int32} (C : Cx X Y code 4 "LoadCyclesLaw" 9 360) (hX : lwX X Y b N zs) (hin : ∀ j : Nat, j < 6 → vp_in (i + Int32.ofNat j) N) (hT : ∀ τ, Inv τ → St X Y 4 Q 1155 [(3, .int i), (2, .ref (ya Y 43)), (1, .ref (ya Y 0)), (0, .ref b)] [] τ) (h : w_Lc_tell (zs (i + 1).toNatClampNeg) σ (fun r0 τ0 => w_Md_tell (zs (i + 1).toNatClampNeg) τ0 (fun r1 τ1 => r0 = r1 ∧ Inv τ1))) : St X Y 4 Q 1027 [(3, .int i), (2, .ref (ya Y 43)), (1, .ref (ya Y 0)), (0, .ref b)] [] σ := by
  refine q_aload_n (pc := 1027) C d_law_1027 rfl 2 rfl ?_
  refine q_aload_n (pc := 1028) C d_law_1028 rfl 3 rfl ?_
  refine q_iload_n (pc := 1029) C d_law_1029 rfl 0 rfl ?_
  refine q_iconst (pc := 1030) (v := 1) C d_law_1030 (by decide) ?_
  refine q_iadd (pc := 1031) C d_law_1031 ?_
  refine q_sld (pc := 1032) C hX (hin 1 (by decide)) d_law_1032 ?_
  refine q_callVI (pc := 1033) (st := []) (d := 0) C (m_Lc_tell C.2.2.2.2.2.2.1 h) mi_Lc_tell rfl (by decide) rfl wd_675 rfl rfl (Nat.le_of_ble_eq_true rfl) (by decide) (by decide) d_law_1033 (fun r0 τ0 h => ?_)
  refine q_aload_n (pc := 1036) C d_law_1036 rfl 1 rfl ?_
  refine q_aload_n (pc := 1037) C d_law_1037 rfl 3 rfl ?_
  refine q_iload_n (pc := 1038) C d_law_1038 rfl 0 rfl ?_
  refine q_iconst (pc := 1039) (v := 1) C d_law_1039 (by decide) ?_
  refine q_iadd (pc := 1040) C d_law_1040 ?_
  refine q_sld (pc := 1041) C hX (hin 1 (by decide)) d_law_1041 ?_
  refine q_callVI (pc := 1042) (st := [.int r0]) (d := 43) C (m_Md_tell C.2.2.2.2.2.2.1 h) mi_Md_tell rfl (by decide) rfl wd_1112 rfl rfl (Nat.le_of_ble_eq_true rfl) (by decide) (by decide) d_law_1042 (fun r1 τ1 h => ?_)
  refine q_icmp_eq (pc := 1045) 1155 C d_law_1045 (by decide) (fun _ => ?_) (fun hc => absurd h.1 hc)
  exact hT _ h.2
set_option maxHeartbeats 4000000 in
theorem law_metered {Inv : Sg → Prop} {X : Bx} {Y : Yx} {Q : State → Prop} {σ : Sg} {b N : Nat} {zs : Nat → Int32} {i : Int32} (C : Cx X Y code 4 "LoadCyclesLaw" 9 360) (hX : lwX X Y b N zs) (hin : ∀ j : Nat, j < 6 → vp_in (i + Int32.ofNat j) N) (hT : ∀ τ, Inv τ → St X Y 4 Q 1155 [(3, .int i), (2, .ref (ya Y 43)), (1, .ref (ya Y 0)), (0, .ref b)] [] τ) (h : w_Lc_metered (zs (i + 1).toNatClampNeg) σ (fun r0 τ0 => w_Md_metered (zs (i + 1).toNatClampNeg) τ0 (fun r1 τ1 => r0 = r1 ∧ Inv τ1))) : St X Y 4 Q 1050 [(3, .int i), (2, .ref (ya Y 43)), (1, .ref (ya Y 0)), (0, .ref b)] [] σ := by
  refine q_aload_n (pc := 1050) C d_law_1050 rfl 2 rfl ?_
  refine q_aload_n (pc := 1051) C d_law_1051 rfl 3 rfl ?_
  refine q_iload_n (pc := 1052) C d_law_1052 rfl 0 rfl ?_
  refine q_iconst (pc := 1053) (v := 1) C d_law_1053 (by decide) ?_
  refine q_iadd (pc := 1054) C d_law_1054 ?_
  refine q_sld (pc := 1055) C hX (hin 1 (by decide)) d_law_1055 ?_
  refine q_callVI (pc := 1056) (st := []) (d := 0) C (m_Lc_metered C.2.2.2.2.2.2.1 h) mi_Lc_metered rfl (by decide) rfl wd_695 rfl rfl (Nat.le_of_ble_eq_true rfl) (by decide) (by decide) d_law_1056 (fun r0 τ0 h => ?_)
  refine q_aload_n (pc := 1059) C d_law_1059 rfl 1 rfl ?_
  refine q_aload_n (pc := 1060) C d_law_1060 rfl 3 rfl ?_
  refine q_iload_n (pc := 1061) C d_law_1061 rfl 0 rfl ?_
  refine q_iconst (pc := 1062) (v := 1) C d_law_1062 (by decide) ?_
  refine q_iadd (pc := 1063) C d_law_1063 ?_
  refine q_sld (pc := 1064) C hX (hin 1 (by decide)) d_law_1064 ?_
  refine q_callVI (pc := 1065) (st := [.int r0]) (d := 43) C (m_Md_metered C.2.2.2.2.2.2.1 h) mi_Md_metered rfl (by decide) rfl wd_1120 rfl rfl (Nat.le_of_ble_eq_true rfl) (by decide) (by decide) d_law_1065 (fun r1 τ1 h => ?_)
  refine q_icmp_eq (pc := 1068) 1155 C d_law_1068 (by decide) (fun _ => ?_) (fun hc => absurd h.1 hc)
  exact hT _ h.2
set_option maxHeartbeats 4000000 in
theorem law_as {Inv : Sg → Prop} {X : Bx} {Y : Yx} {Q : State → Prop} {σ : Sg} {b N : Nat} {zs : Nat → Int32} {i : Int32} (C : Cx X Y code 4 "LoadCyclesLaw" 9 360) (hX : lwX X Y b N zs) (hin : ∀ j : Nat, j < 6 → vp_in (i + Int32.ofNat j) N) (hT : ∀ τ, Inv τ → St X Y 4 Q 1155 [(3, .int i), (2, .ref (ya Y 43)), (1, .ref (ya Y 0)), (0, .ref b)] [] τ) (h : w_Lc_as (zs (i + 1).toNatClampNeg) (zs (i + 2).toNatClampNeg) σ (fun r0 τ0 => w_Md_as (zs (i + 1).toNatClampNeg) (zs (i + 2).toNatClampNeg) τ0 (fun r1 τ1 => r0 = r1 ∧ Inv τ1))) : St X Y 4 Q 1073 [(3, .int i), (2, .ref (ya Y 43)), (1, .ref (ya Y 0)), (0, .ref b)] [] σ := by
  refine q_aload_n (pc := 1073) C d_law_1073 rfl 2 rfl ?_
  refine q_aload_n (pc := 1074) C d_law_1074 rfl 3 rfl ?_
  refine q_iload_n (pc := 1075) C d_law_1075 rfl 0 rfl ?_
  refine q_iconst (pc := 1076) (v := 1) C d_law_1076 (by decide) ?_
  refine q_iadd (pc := 1077) C d_law_1077 ?_
  refine q_sld (pc := 1078) C hX (hin 1 (by decide)) d_law_1078 ?_
  refine q_aload_n (pc := 1079) C d_law_1079 rfl 3 rfl ?_
  refine q_iload_n (pc := 1080) C d_law_1080 rfl 0 rfl ?_
  refine q_iconst (pc := 1081) (v := 2) C d_law_1081 (by decide) ?_
  refine q_iadd (pc := 1082) C d_law_1082 ?_
  refine q_sld (pc := 1083) C hX (hin 2 (by decide)) d_law_1083 ?_
  refine q_callVI (pc := 1084) (st := []) (d := 0) C (m_Lc_as C.2.2.2.2.2.2.1 h) mi_Lc_as rfl (by decide) rfl wd_707 rfl rfl (Nat.le_of_ble_eq_true rfl) (by decide) (by decide) d_law_1084 (fun r0 τ0 h => ?_)
  refine q_aload_n (pc := 1087) C d_law_1087 rfl 1 rfl ?_
  refine q_aload_n (pc := 1088) C d_law_1088 rfl 3 rfl ?_
  refine q_iload_n (pc := 1089) C d_law_1089 rfl 0 rfl ?_
  refine q_iconst (pc := 1090) (v := 1) C d_law_1090 (by decide) ?_
  refine q_iadd (pc := 1091) C d_law_1091 ?_
  refine q_sld (pc := 1092) C hX (hin 1 (by decide)) d_law_1092 ?_
  refine q_aload_n (pc := 1093) C d_law_1093 rfl 3 rfl ?_
  refine q_iload_n (pc := 1094) C d_law_1094 rfl 0 rfl ?_
  refine q_iconst (pc := 1095) (v := 2) C d_law_1095 (by decide) ?_
  refine q_iadd (pc := 1096) C d_law_1096 ?_
  refine q_sld (pc := 1097) C hX (hin 2 (by decide)) d_law_1097 ?_
  refine q_callVI (pc := 1098) (st := [.int r0]) (d := 43) C (m_Md_as C.2.2.2.2.2.2.1 h) mi_Md_as rfl (by decide) rfl wd_1124 rfl rfl (Nat.le_of_ble_eq_true rfl) (by decide) (by decide) d_law_1098 (fun r1 τ1 h => ?_)
  refine q_icmp_eq (pc := 1101) 1155 C d_law_1101 (by decide) (fun _ => ?_) (fun hc => absurd h.1 hc)
  exact hT _ h.2
set_option maxHeartbeats 4000000 in
theorem law_trace {Inv : Sg → Prop} {X : Bx} {Y : Yx} {Q : State → Prop} {σ : Sg} {b N : Nat} {zs : Nat → Int32} {i : Int32} (C : Cx X Y code 4 "LoadCyclesLaw" 9 360) (hX : lwX X Y b N zs) (hin : ∀ j : Nat, j < 6 → vp_in (i + Int32.ofNat j) N) (hT : ∀ τ, Inv τ → St X Y 4 Q 1155 [(3, .int i), (2, .ref (ya Y 43)), (1, .ref (ya Y 0)), (0, .ref b)] [] τ) (h : w_Lc_trace σ (fun r0 => w_Md_trace σ (fun r1 => r0 = r1 ∧ Inv σ))) : St X Y 4 Q 1106 [(3, .int i), (2, .ref (ya Y 43)), (1, .ref (ya Y 0)), (0, .ref b)] [] σ := by
  refine q_aload_n (pc := 1106) C d_law_1106 rfl 2 rfl ?_
  refine q_callVIr (pc := 1107) (st := []) (d := 0) C (m_Lc_trace C.2.2.2.2.2.2.1 h) mi_Lc_trace rfl (by decide) rfl wd_711 rfl rfl (Nat.le_of_ble_eq_true rfl) (by decide) (by decide) d_law_1107 (fun r0 h => ?_)
  refine q_aload_n (pc := 1110) C d_law_1110 rfl 1 rfl ?_
  refine q_callVIr (pc := 1111) (st := [.int r0]) (d := 43) C (m_Md_trace C.2.2.2.2.2.2.1 h) mi_Md_trace rfl (by decide) rfl wd_1128 rfl rfl (Nat.le_of_ble_eq_true rfl) (by decide) (by decide) d_law_1111 (fun r1 h => ?_)
  refine q_icmp_eq (pc := 1114) 1155 C d_law_1114 (by decide) (fun _ => ?_) (fun hc => absurd h.1 hc)
  exact hT _ h.2
set_option maxHeartbeats 4000000 in
theorem law_fault {Inv : Sg → Prop} {X : Bx} {Y : Yx} {Q : State → Prop} {σ : Sg} {b N : Nat} {zs : Nat → Int32} {i : Int32} (C : Cx X Y code 4 "LoadCyclesLaw" 9 360) (hX : lwX X Y b N zs) (hin : ∀ j : Nat, j < 6 → vp_in (i + Int32.ofNat j) N) (hT : ∀ τ, Inv τ → St X Y 4 Q 1155 [(3, .int i), (2, .ref (ya Y 43)), (1, .ref (ya Y 0)), (0, .ref b)] [] τ) (h : w_Lc_fault σ (fun r0 => w_Md_fault σ (fun r1 => r0 = r1 ∧ Inv σ))) : St X Y 4 Q 1119 [(3, .int i), (2, .ref (ya Y 43)), (1, .ref (ya Y 0)), (0, .ref b)] [] σ := by
  refine q_aload_n (pc := 1119) C d_law_1119 rfl 2 rfl ?_
  refine q_callVIr (pc := 1120) (st := []) (d := 0) C (m_Lc_fault C.2.2.2.2.2.2.1 h) mi_Lc_fault rfl (by decide) rfl wd_715 rfl rfl (Nat.le_of_ble_eq_true rfl) (by decide) (by decide) d_law_1120 (fun r0 h => ?_)
  refine q_aload_n (pc := 1123) C d_law_1123 rfl 1 rfl ?_
  refine q_callVIr (pc := 1124) (st := [.int r0]) (d := 43) C (m_Md_fault C.2.2.2.2.2.2.1 h) mi_Md_fault rfl (by decide) rfl wd_1132 rfl rfl (Nat.le_of_ble_eq_true rfl) (by decide) (by decide) d_law_1124 (fun r1 h => ?_)
  refine q_icmp_eq (pc := 1127) 1155 C d_law_1127 (by decide) (fun _ => ?_) (fun hc => absurd h.1 hc)
  exact hT _ h.2
set_option maxHeartbeats 4000000 in
theorem law_many {Inv : Sg → Prop} {X : Bx} {Y : Yx} {Q : State → Prop} {σ : Sg} {b N : Nat} {zs : Nat → Int32} {i : Int32} (C : Cx X Y code 4 "LoadCyclesLaw" 9 360) (hX : lwX X Y b N zs) (hin : ∀ j : Nat, j < 6 → vp_in (i + Int32.ofNat j) N) (hT : ∀ τ, Inv τ → St X Y 4 Q 1155 [(3, .int i), (2, .ref (ya Y 43)), (1, .ref (ya Y 0)), (0, .ref b)] [] τ) (h : w_Lc_many (zs (i + 1).toNatClampNeg) σ (fun r0 => w_Md_many (zs (i + 1).toNatClampNeg) σ (fun r1 => r0 = r1 ∧ Inv σ))) : St X Y 4 Q 1132 [(3, .int i), (2, .ref (ya Y 43)), (1, .ref (ya Y 0)), (0, .ref b)] [] σ := by
  refine q_aload_n (pc := 1132) C d_law_1132 rfl 2 rfl ?_
  refine q_aload_n (pc := 1133) C d_law_1133 rfl 3 rfl ?_
  refine q_iload_n (pc := 1134) C d_law_1134 rfl 0 rfl ?_
  refine q_iconst (pc := 1135) (v := 1) C d_law_1135 (by decide) ?_
  refine q_iadd (pc := 1136) C d_law_1136 ?_
  refine q_sld (pc := 1137) C hX (hin 1 (by decide)) d_law_1137 ?_
  refine q_callVIr (pc := 1138) (st := []) (d := 0) C (m_Lc_many C.2.2.2.2.2.2.1 h) mi_Lc_many rfl (by decide) rfl wd_719 rfl rfl (Nat.le_of_ble_eq_true rfl) (by decide) (by decide) d_law_1138 (fun r0 h => ?_)
  refine q_aload_n (pc := 1141) C d_law_1141 rfl 1 rfl ?_
  refine q_aload_n (pc := 1142) C d_law_1142 rfl 3 rfl ?_
  refine q_iload_n (pc := 1143) C d_law_1143 rfl 0 rfl ?_
  refine q_iconst (pc := 1144) (v := 1) C d_law_1144 (by decide) ?_
  refine q_iadd (pc := 1145) C d_law_1145 ?_
  refine q_sld (pc := 1146) C hX (hin 1 (by decide)) d_law_1146 ?_
  refine q_callVIr (pc := 1147) (st := [.int r0]) (d := 43) C (m_Md_many C.2.2.2.2.2.2.1 h) mi_Md_many rfl (by decide) rfl wd_1136 rfl rfl (Nat.le_of_ble_eq_true rfl) (by decide) (by decide) d_law_1147 (fun r1 h => ?_)
  refine q_icmp_eq (pc := 1150) 1155 C d_law_1150 (by decide) (fun _ => ?_) (fun hc => absurd h.1 hc)
  exact hT _ h.2
/-- what is owed of the two systems, call by call -/
def HS (Inv : Sg → Prop) : Prop :=
  (∀ (σ : Sg) (a1 a2 a3 a4 : Int32), Inv σ → w_Lc_house a1 a2 a3 a4 σ (fun r0 τ0 => w_Md_house a1 a2 a3 a4 τ0 (fun r1 τ1 => r0 = r1 ∧ Inv τ1))) ∧
  (∀ (σ : Sg) (a1 a2 : Int32), Inv σ → w_Lc_ofAppliance a1 a2 σ (fun r0 => w_Md_ofAppliance a1 a2 σ (fun r1 => r0 = r1 ∧ Inv σ))) ∧
  (∀ (σ : Sg) (a1 a2 a3 : Int32), Inv σ → w_Lc_level a1 a2 a3 σ (fun r0 τ0 => w_Md_level a1 a2 a3 τ0 (fun r1 τ1 => r0 = r1 ∧ Inv τ1))) ∧
  (∀ (σ : Sg) (a1 a2 a3 a4 : Int32), Inv σ → w_Lc_meter a1 a2 a3 a4 σ (fun r0 τ0 => w_Md_meter a1 a2 a3 a4 τ0 (fun r1 τ1 => r0 = r1 ∧ Inv τ1))) ∧
  (∀ (σ : Sg) (a1 : Int32), Inv σ → w_Lc_value a1 σ (fun r0 => w_Md_value a1 σ (fun r1 => r0 = r1 ∧ Inv σ))) ∧
  (∀ (σ : Sg) (a1 : Int32), Inv σ → w_Lc_base a1 σ (fun r0 τ0 => w_Md_base a1 τ0 (fun r1 τ1 => r0 = r1 ∧ Inv τ1))) ∧
  (∀ (σ : Sg) (a1 a2 : Int32), Inv σ → w_Lc_at a1 a2 σ (fun r0 τ0 => w_Md_at a1 a2 τ0 (fun r1 τ1 => r0 = r1 ∧ Inv τ1))) ∧
  (∀ (σ : Sg) (a1 : Int32), Inv σ → w_Lc_rest a1 σ (fun r0 τ0 => w_Md_rest a1 τ0 (fun r1 τ1 => r0 = r1 ∧ Inv τ1))) ∧
  (∀ (σ : Sg) (a1 : Int32), Inv σ → w_Lc_best a1 σ (fun r0 τ0 => w_Md_best a1 τ0 (fun r1 τ1 => r0 = r1 ∧ Inv τ1))) ∧
  (∀ (σ : Sg) (a1 : Int32), Inv σ → w_Lc_energy a1 σ (fun r0 τ0 => w_Md_energy a1 τ0 (fun r1 τ1 => r0 = r1 ∧ Inv τ1))) ∧
  (∀ (σ : Sg) (a1 a2 a3 a4 a5 : Int32), Inv σ → w_Lc_day a1 a2 a3 a4 a5 σ (fun r0 τ0 => w_Md_day a1 a2 a3 a4 a5 τ0 (fun r1 τ1 => r0 = r1 ∧ Inv τ1))) ∧
  (∀ (σ : Sg) (a1 : Int32), Inv σ → w_Lc_jump a1 σ (fun r0 => w_Md_jump a1 σ (fun r1 => r0 = r1 ∧ Inv σ))) ∧
  (∀ (σ : Sg) (a1 : Int32), Inv σ → w_Lc_ways a1 σ (fun r0 τ0 => w_Md_ways a1 τ0 (fun r1 τ1 => r0 = r1 ∧ Inv τ1))) ∧
  (∀ (σ : Sg) (a1 : Int32), Inv σ → w_Lc_longest a1 σ (fun r0 τ0 => w_Md_longest a1 τ0 (fun r1 τ1 => r0 = r1 ∧ Inv τ1))) ∧
  (∀ (σ : Sg) (a1 : Int32), Inv σ → w_Lc_share a1 σ (fun r0 τ0 => w_Md_share a1 τ0 (fun r1 τ1 => r0 = r1 ∧ Inv τ1))) ∧
  (∀ (σ : Sg), Inv σ → w_Lc_mean σ (fun r0 => w_Md_mean σ (fun r1 => r0 = r1 ∧ Inv σ))) ∧
  (∀ (σ : Sg) (a1 a2 : Int32), Inv σ → w_Lc_reading a1 a2 σ (fun r0 τ0 => w_Md_reading a1 a2 τ0 (fun r1 τ1 => r0 = r1 ∧ Inv τ1))) ∧
  (∀ (σ : Sg) (a1 : Int32), Inv σ → w_Lc_back a1 σ (fun r0 τ0 => w_Md_back a1 τ0 (fun r1 τ1 => r0 = r1 ∧ Inv τ1))) ∧
  (∀ (σ : Sg) (a1 : Int32), Inv σ → w_Lc_kinds a1 σ (fun r0 τ0 => w_Md_kinds a1 τ0 (fun r1 τ1 => r0 = r1 ∧ Inv τ1))) ∧
  (∀ (σ : Sg) (a1 : Int32), Inv σ → w_Lc_firsts a1 σ (fun r0 τ0 => w_Md_firsts a1 τ0 (fun r1 τ1 => r0 = r1 ∧ Inv τ1))) ∧
  (∀ (σ : Sg) (a1 a2 : Int32), Inv σ → w_Lc_odds a1 a2 σ (fun r0 τ0 => w_Md_odds a1 a2 τ0 (fun r1 τ1 => r0 = r1 ∧ Inv τ1))) ∧
  (∀ (σ : Sg) (a1 a2 a3 : Int32), Inv σ → w_Lc_sheet a1 a2 a3 σ (fun r0 τ0 => w_Md_sheet a1 a2 a3 τ0 (fun r1 τ1 => r0 = r1 ∧ Inv τ1))) ∧
  (∀ (σ : Sg) (a1 : Int32), Inv σ → w_Lc_lose a1 σ (fun r0 τ0 => w_Md_lose a1 τ0 (fun r1 τ1 => r0 = r1 ∧ Inv τ1))) ∧
  (∀ (σ : Sg) (a1 a2 a3 : Int32), Inv σ → w_Lc_put a1 a2 a3 σ (fun r0 τ0 => w_Md_put a1 a2 a3 τ0 (fun r1 τ1 => r0 = r1 ∧ Inv τ1))) ∧
  (∀ (σ : Sg) (a1 a2 a3 : Int32), Inv σ → w_Lc_cell a1 a2 a3 σ (fun r0 τ0 => w_Md_cell a1 a2 a3 τ0 (fun r1 τ1 => r0 = r1 ∧ Inv τ1))) ∧
  (∀ (σ : Sg) (a1 a2 a3 a4 a5 : Int32), Inv σ → w_Lc_copy a1 a2 a3 a4 a5 σ (fun r0 τ0 => w_Md_copy a1 a2 a3 a4 a5 τ0 (fun r1 τ1 => r0 = r1 ∧ Inv τ1))) ∧
  (∀ (σ : Sg) (a1 : Int32), Inv σ → w_Lc_tell a1 σ (fun r0 τ0 => w_Md_tell a1 τ0 (fun r1 τ1 => r0 = r1 ∧ Inv τ1))) ∧
  (∀ (σ : Sg) (a1 : Int32), Inv σ → w_Lc_metered a1 σ (fun r0 τ0 => w_Md_metered a1 τ0 (fun r1 τ1 => r0 = r1 ∧ Inv τ1))) ∧
  (∀ (σ : Sg) (a1 a2 : Int32), Inv σ → w_Lc_as a1 a2 σ (fun r0 τ0 => w_Md_as a1 a2 τ0 (fun r1 τ1 => r0 = r1 ∧ Inv τ1))) ∧
  (∀ (σ : Sg), Inv σ → w_Lc_trace σ (fun r0 => w_Md_trace σ (fun r1 => r0 = r1 ∧ Inv σ))) ∧
  (∀ (σ : Sg), Inv σ → w_Lc_fault σ (fun r0 => w_Md_fault σ (fun r1 => r0 = r1 ∧ Inv σ))) ∧
  (∀ (σ : Sg) (a1 : Int32), Inv σ → w_Lc_many a1 σ (fun r0 => w_Md_many a1 σ (fun r1 => r0 = r1 ∧ Inv σ)))

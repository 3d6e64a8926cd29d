/-! THE CLAIM OUT OF ONE WALK OF THE LAW'S BODY. Your part is whole_start (and what it stands on); all else here is the same for every law, but numbers. -/
def R_law : String := "LoadCyclesLaw"
def lw_P (b : Addr) (xs : List Int32) (args : Array Value) (s : State) : Prop := args = #[.ref b] ∧ s.IntsAt b xs ∧ xs.length ≤ 3072 ∧ (Jvm.Cond.and given_1 narrow_1).before args s = true
def lw_Q (_ : Array Value) (s : State) (o : Outcome) (t : State) : Prop := o = .returned (some (.int 1)) ∧ Framed s o t [] 600000 7302250
def lw_Z (below : List Frame) (a : Array Value) (s : State) : State → Prop := fun t => ∃ o, t.status = .running ∧ Ended t below o ∧ lw_Q a s o t
/-- the law's own end, with 1 on the stack, nothing written that was there before, its room as the claim has it -/
theorem lw_ret {p : Program} {l : Launch} {e : Env} {s : State} {m : MethodId} {below : List Frame} {meth : Method} {c : Code} {b : Nat} (hx : p.tables.exec = Jvm.exec) (hb : c.code = code) (hr : meth.sig.returnType = ret) (hlocks : meth.locks = false) {pc : Nat} {H : Heap} {ls : Array Slot} (hdg : decode code pc = .ok (.ireturn, 1)) : W p l e room_1 s m #[Value.ref b] below meth c H [] 600000 7302250 (lw_Z below #[Value.ref b] s) (F0 m pc ls [.int 1]) := by
  intro T hT X
  obtain ⟨fs, hret, hrun, hended, hW, hframe⟩ := X.leave (v := some (.int 1)) (hlocks := hlocks) (fun h => by rw [hr] at h; cases h)
  have hmeth' : T.vm.method? m = some meth := X.method'
  refine ⟨T.setFrames fs, ?_, .returned (some (.int 1)), hrun, hended, rfl, ⟨_, rfl⟩, hW, hframe⟩
  jvm_step X.here [X.here.top, hx, hb, hdg, hmeth', hr, ret, narrow_b1]
  (try refine ⟨rfl, ?_⟩); (try refine ⟨rfl, ?_⟩)
  first | (intro acts; rw [hret _ acts rfl rfl rfl]) | rw [hret _ _ rfl rfl rfl]
  exact Steps.refl _
/-- what holds at the law's entry: the machine, the code, the tables' words (any of lw_tbl by 'hts w (by decide +kernel)'), the script of L ints xs at the cell b, what the Statement gives of the start (any of its parts by flat_of_before) -/
def lw_At (p : Program) (s : State) (m : MethodId) (meth : Method) (c : Code) (b L : Nat) (xs : Nat → Int32) : Prop :=
  p.tables.exec = Jvm.exec ∧ c.code = code ∧ meth.sig.returnType = ret ∧ c.maxLocals = 4 ∧ s.vm.findClass R_law = some m.cls ∧ (∀ w ∈ lw_tbl, w.before #[Value.ref b] s = true) ∧ va_X b L xs s s.heap ∧ b < s.heap.size ∧ meth.locks = false ∧ (Jvm.Cond.and given_1 narrow_1).before #[Value.ref b] s = true
section LRows
variable {X : Bx} {Y : Yx} {cc : ByteArray} {nL : Nat} {own : String} {F L : Nat} {Q : State → Prop} {pc : Nat} {lv : List (Nat × Value)} {st : List Value} {σ : Sg} {b N : Nat} {zs : Nat → Int32}
def lwX (X : Bx) (Y : Yx) (b N : Nat) (zs : Nat → Int32) : Prop := va_X b N zs (xs X) (xs X).heap ∧ b < (xs X).heap.size ∧ ¬ yA Y b
theorem q_sld {i : Int32} (C : Cx X Y cc nL own F L) (hX : lwX X Y b N zs) (hin : vp_in i N) (hd : decode cc pc = .ok (.iaload, 1)) (h : St X Y nL Q (pc + 1) lv (.int (zs i.toNatClampNeg) :: st) σ) : St X Y nL Q pc lv (.int i :: .ref b :: st) σ := fun H locs ls hP hS hl => va_sld (A := yA Y) (H0 := (xs X).heap) C.1 C.2.1 hX.1 hX.2.1 hX.2.2 hS hin hd (h H locs ls hP hS hl)
theorem q_slen (C : Cx X Y cc nL own F L) (hX : lwX X Y b N zs) (hd : decode cc pc = .ok (.arraylength, 1)) (h : St X Y nL Q (pc + 1) lv (.int (nI N) :: st) σ) : St X Y nL Q pc lv (.ref b :: st) σ := fun H locs ls hP hS hl => va_slen (A := yA Y) (H0 := (xs X).heap) C.1 C.2.1 hX.1 hX.2.1 hX.2.2 hS hd (h H locs ls hP hS hl)
end LRows
theorem d_law_0 : decode code 0 = .ok (.new 7, 3) := by decide +kernel
theorem d_law_3 : decode code 3 = .ok (.dup, 1) := by decide +kernel
theorem d_law_4 : decode code 4 = .ok (.invokespecial 9, 3) := by decide +kernel
theorem d_law_7 : decode code 7 = .ok (.astore_n 1, 1) := by decide +kernel
theorem d_law_8 : decode code 8 = .ok (.new 10, 3) := by decide +kernel
theorem d_law_11 : decode code 11 = .ok (.dup, 1) := by decide +kernel
theorem d_law_12 : decode code 12 = .ok (.invokespecial 12, 3) := by decide +kernel
theorem d_law_15 : decode code 15 = .ok (.astore_n 2, 1) := by decide +kernel
theorem d_law_16 : decode code 16 = .ok (.iconst 0, 1) := by decide +kernel
theorem d_law_17 : decode code 17 = .ok (.istore_n 3, 1) := by decide +kernel
theorem d_law_18 : decode code 18 = .ok (.iload_n 3, 1) := by decide +kernel
theorem d_law_19 : decode code 19 = .ok (.aload_n 0, 1) := by decide +kernel
theorem d_law_20 : decode code 20 = .ok (.arraylength, 1) := by decide +kernel
theorem d_law_21 : decode code 21 = .ok (.bipush 6, 2) := by decide +kernel
theorem d_law_23 : decode code 23 = .ok (.isub, 1) := by decide +kernel
theorem d_law_24 : decode code 24 = .ok (.if_icmp .gt 1137, 3) := by decide +kernel
theorem d_law_27 : decode code 27 = .ok (.aload_n 0, 1) := by decide +kernel
theorem d_law_28 : decode code 28 = .ok (.iload_n 3, 1) := by decide +kernel
theorem d_law_29 : decode code 29 = .ok (.iaload, 1) := by decide +kernel
theorem d_law_30 : decode code 30 = .ok (.bipush 31, 2) := by decide +kernel
theorem d_law_32 : decode code 32 = .ok (.iand, 1) := by decide +kernel
theorem d_law_33 : decode code 33 = .ok (.tableswitch 1122 0 31 #[143, 196, 229, 272, 325, 348, 371, 404, 427, 450, 473, 536, 559, 582, 605, 628, 642, 675, 698, 721, 744, 778, 821, 844, 887, 931, 994, 1017, 1040, 1073, 1086, 1099], 143) := by decide +kernel
theorem d_law_176 : decode code 176 = .ok (.aload_n 1, 1) := by decide +kernel
theorem d_law_177 : decode code 177 = .ok (.aload_n 0, 1) := by decide +kernel
theorem d_law_178 : decode code 178 = .ok (.iload_n 3, 1) := by decide +kernel
theorem d_law_179 : decode code 179 = .ok (.iconst 1, 1) := by decide +kernel
theorem d_law_180 : decode code 180 = .ok (.iadd, 1) := by decide +kernel
theorem d_law_181 : decode code 181 = .ok (.iaload, 1) := by decide +kernel
theorem d_law_182 : decode code 182 = .ok (.aload_n 0, 1) := by decide +kernel
theorem d_law_183 : decode code 183 = .ok (.iload_n 3, 1) := by decide +kernel
theorem d_law_184 : decode code 184 = .ok (.iconst 2, 1) := by decide +kernel
theorem d_law_185 : decode code 185 = .ok (.iadd, 1) := by decide +kernel
theorem d_law_186 : decode code 186 = .ok (.iaload, 1) := by decide +kernel
theorem d_law_187 : decode code 187 = .ok (.aload_n 0, 1) := by decide +kernel
theorem d_law_188 : decode code 188 = .ok (.iload_n 3, 1) := by decide +kernel
theorem d_law_189 : decode code 189 = .ok (.iconst 3, 1) := by decide +kernel
theorem d_law_190 : decode code 190 = .ok (.iadd, 1) := by decide +kernel
theorem d_law_191 : decode code 191 = .ok (.iaload, 1) := by decide +kernel
theorem d_law_192 : decode code 192 = .ok (.aload_n 0, 1) := by decide +kernel
theorem d_law_193 : decode code 193 = .ok (.iload_n 3, 1) := by decide +kernel
theorem d_law_194 : decode code 194 = .ok (.iconst 4, 1) := by decide +kernel
theorem d_law_195 : decode code 195 = .ok (.iadd, 1) := by decide +kernel
theorem d_law_196 : decode code 196 = .ok (.iaload, 1) := by decide +kernel
theorem d_law_197 : decode code 197 = .ok (.invokevirtual 13, 3) := by decide +kernel
theorem d_law_200 : decode code 200 = .ok (.aload_n 2, 1) := by decide +kernel
theorem d_law_201 : decode code 201 = .ok (.aload_n 0, 1) := by decide +kernel
theorem d_law_202 : decode code 202 = .ok (.iload_n 3, 1) := by decide +kernel
theorem d_law_203 : decode code 203 = .ok (.iconst 1, 1) := by decide +kernel
theorem d_law_204 : decode code 204 = .ok (.iadd, 1) := by decide +kernel
theorem d_law_205 : decode code 205 = .ok (.iaload, 1) := by decide +kernel
theorem d_law_206 : decode code 206 = .ok (.aload_n 0, 1) := by decide +kernel
theorem d_law_207 : decode code 207 = .ok (.iload_n 3, 1) := by decide +kernel
theorem d_law_208 : decode code 208 = .ok (.iconst 2, 1) := by decide +kernel
theorem d_law_209 : decode code 209 = .ok (.iadd, 1) := by decide +kernel
theorem d_law_210 : decode code 210 = .ok (.iaload, 1) := by decide +kernel
theorem d_law_211 : decode code 211 = .ok (.aload_n 0, 1) := by decide +kernel
theorem d_law_212 : decode code 212 = .ok (.iload_n 3, 1) := by decide +kernel
theorem d_law_213 : decode code 213 = .ok (.iconst 3, 1) := by decide +kernel
theorem d_law_214 : decode code 214 = .ok (.iadd, 1) := by decide +kernel
theorem d_law_215 : decode code 215 = .ok (.iaload, 1) := by decide +kernel
theorem d_law_216 : decode code 216 = .ok (.aload_n 0, 1) := by decide +kernel
theorem d_law_217 : decode code 217 = .ok (.iload_n 3, 1) := by decide +kernel
theorem d_law_218 : decode code 218 = .ok (.iconst 4, 1) := by decide +kernel
theorem d_law_219 : decode code 219 = .ok (.iadd, 1) := by decide +kernel
theorem d_law_220 : decode code 220 = .ok (.iaload, 1) := by decide +kernel
theorem d_law_221 : decode code 221 = .ok (.invokevirtual 17, 3) := by decide +kernel
theorem d_law_224 : decode code 224 = .ok (.if_icmp .eq 931, 3) := by decide +kernel
theorem d_law_227 : decode code 227 = .ok (.iconst 0, 1) := by decide +kernel
theorem d_law_228 : decode code 228 = .ok (.ireturn, 1) := by decide +kernel
theorem d_law_229 : decode code 229 = .ok (.aload_n 1, 1) := by decide +kernel
theorem d_law_230 : decode code 230 = .ok (.aload_n 0, 1) := by decide +kernel
theorem d_law_231 : decode code 231 = .ok (.iload_n 3, 1) := by decide +kernel
theorem d_law_232 : decode code 232 = .ok (.iconst 1, 1) := by decide +kernel
theorem d_law_233 : decode code 233 = .ok (.iadd, 1) := by decide +kernel
theorem d_law_234 : decode code 234 = .ok (.iaload, 1) := by decide +kernel
theorem d_law_235 : decode code 235 = .ok (.aload_n 0, 1) := by decide +kernel
theorem d_law_236 : decode code 236 = .ok (.iload_n 3, 1) := by decide +kernel
theorem d_law_237 : decode code 237 = .ok (.iconst 2, 1) := by decide +kernel
theorem d_law_238 : decode code 238 = .ok (.iadd, 1) := by decide +kernel
theorem d_law_239 : decode code 239 = .ok (.iaload, 1) := by decide +kernel
theorem d_law_240 : decode code 240 = .ok (.invokevirtual 18, 3) := by decide +kernel
theorem d_law_243 : decode code 243 = .ok (.aload_n 2, 1) := by decide +kernel
theorem d_law_244 : decode code 244 = .ok (.aload_n 0, 1) := by decide +kernel
theorem d_law_245 : decode code 245 = .ok (.iload_n 3, 1) := by decide +kernel
theorem d_law_246 : decode code 246 = .ok (.iconst 1, 1) := by decide +kernel
theorem d_law_247 : decode code 247 = .ok (.iadd, 1) := by decide +kernel
theorem d_law_248 : decode code 248 = .ok (.iaload, 1) := by decide +kernel
theorem d_law_249 : decode code 249 = .ok (.aload_n 0, 1) := by decide +kernel
theorem d_law_250 : decode code 250 = .ok (.iload_n 3, 1) := by decide +kernel
theorem d_law_251 : decode code 251 = .ok (.iconst 2, 1) := by decide +kernel
theorem d_law_252 : decode code 252 = .ok (.iadd, 1) := by decide +kernel
theorem d_law_253 : decode code 253 = .ok (.iaload, 1) := by decide +kernel
theorem d_law_254 : decode code 254 = .ok (.invokevirtual 22, 3) := by decide +kernel
theorem d_law_257 : decode code 257 = .ok (.if_icmp .eq 898, 3) := by decide +kernel
theorem d_law_260 : decode code 260 = .ok (.iconst 0, 1) := by decide +kernel
theorem d_law_261 : decode code 261 = .ok (.ireturn, 1) := by decide +kernel
theorem d_law_262 : decode code 262 = .ok (.aload_n 1, 1) := by decide +kernel
theorem d_law_263 : decode code 263 = .ok (.aload_n 0, 1) := by decide +kernel
theorem d_law_264 : decode code 264 = .ok (.iload_n 3, 1) := by decide +kernel
theorem d_law_265 : decode code 265 = .ok (.iconst 1, 1) := by decide +kernel
theorem d_law_266 : decode code 266 = .ok (.iadd, 1) := by decide +kernel
theorem d_law_267 : decode code 267 = .ok (.iaload, 1) := by decide +kernel
theorem d_law_268 : decode code 268 = .ok (.aload_n 0, 1) := by decide +kernel
theorem d_law_269 : decode code 269 = .ok (.iload_n 3, 1) := by decide +kernel
theorem d_law_270 : decode code 270 = .ok (.iconst 2, 1) := by decide +kernel
theorem d_law_271 : decode code 271 = .ok (.iadd, 1) := by decide +kernel
theorem d_law_272 : decode code 272 = .ok (.iaload, 1) := by decide +kernel
theorem d_law_273 : decode code 273 = .ok (.aload_n 0, 1) := by decide +kernel
theorem d_law_274 : decode code 274 = .ok (.iload_n 3, 1) := by decide +kernel
theorem d_law_275 : decode code 275 = .ok (.iconst 3, 1) := by decide +kernel
theorem d_law_276 : decode code 276 = .ok (.iadd, 1) := by decide +kernel
theorem d_law_277 : decode code 277 = .ok (.iaload, 1) := by decide +kernel
theorem d_law_278 : decode code 278 = .ok (.invokevirtual 23, 3) := by decide +kernel
theorem d_law_281 : decode code 281 = .ok (.aload_n 2, 1) := by decide +kernel
theorem d_law_282 : decode code 282 = .ok (.aload_n 0, 1) := by decide +kernel
theorem d_law_283 : decode code 283 = .ok (.iload_n 3, 1) := by decide +kernel
theorem d_law_284 : decode code 284 = .ok (.iconst 1, 1) := by decide +kernel
theorem d_law_285 : decode code 285 = .ok (.iadd, 1) := by decide +kernel
theorem d_law_286 : decode code 286 = .ok (.iaload, 1) := by decide +kernel
theorem d_law_287 : decode code 287 = .ok (.aload_n 0, 1) := by decide +kernel
theorem d_law_288 : decode code 288 = .ok (.iload_n 3, 1) := by decide +kernel
theorem d_law_289 : decode code 289 = .ok (.iconst 2, 1) := by decide +kernel
theorem d_law_290 : decode code 290 = .ok (.iadd, 1) := by decide +kernel
theorem d_law_291 : decode code 291 = .ok (.iaload, 1) := by decide +kernel
theorem d_law_292 : decode code 292 = .ok (.aload_n 0, 1) := by decide +kernel
theorem d_law_293 : decode code 293 = .ok (.iload_n 3, 1) := by decide +kernel
theorem d_law_294 : decode code 294 = .ok (.iconst 3, 1) := by decide +kernel
theorem d_law_295 : decode code 295 = .ok (.iadd, 1) := by decide +kernel
theorem d_law_296 : decode code 296 = .ok (.iaload, 1) := by decide +kernel
theorem d_law_297 : decode code 297 = .ok (.invokevirtual 27, 3) := by decide +kernel
theorem d_law_300 : decode code 300 = .ok (.if_icmp .eq 855, 3) := by decide +kernel
theorem d_law_303 : decode code 303 = .ok (.iconst 0, 1) := by decide +kernel
theorem d_law_304 : decode code 304 = .ok (.ireturn, 1) := by decide +kernel
theorem d_law_305 : decode code 305 = .ok (.aload_n 1, 1) := by decide +kernel
theorem d_law_306 : decode code 306 = .ok (.aload_n 0, 1) := by decide +kernel
theorem d_law_307 : decode code 307 = .ok (.iload_n 3, 1) := by decide +kernel
theorem d_law_308 : decode code 308 = .ok (.iconst 1, 1) := by decide +kernel
theorem d_law_309 : decode code 309 = .ok (.iadd, 1) := by decide +kernel
theorem d_law_310 : decode code 310 = .ok (.iaload, 1) := by decide +kernel
theorem d_law_311 : decode code 311 = .ok (.aload_n 0, 1) := by decide +kernel
theorem d_law_312 : decode code 312 = .ok (.iload_n 3, 1) := by decide +kernel
theorem d_law_313 : decode code 313 = .ok (.iconst 2, 1) := by decide +kernel
theorem d_law_314 : decode code 314 = .ok (.iadd, 1) := by decide +kernel
theorem d_law_315 : decode code 315 = .ok (.iaload, 1) := by decide +kernel
theorem d_law_316 : decode code 316 = .ok (.aload_n 0, 1) := by decide +kernel
theorem d_law_317 : decode code 317 = .ok (.iload_n 3, 1) := by decide +kernel
theorem d_law_318 : decode code 318 = .ok (.iconst 3, 1) := by decide +kernel
theorem d_law_319 : decode code 319 = .ok (.iadd, 1) := by decide +kernel
theorem d_law_320 : decode code 320 = .ok (.iaload, 1) := by decide +kernel
theorem d_law_321 : decode code 321 = .ok (.aload_n 0, 1) := by decide +kernel
theorem d_law_322 : decode code 322 = .ok (.iload_n 3, 1) := by decide +kernel
theorem d_law_323 : decode code 323 = .ok (.iconst 4, 1) := by decide +kernel
theorem d_law_324 : decode code 324 = .ok (.iadd, 1) := by decide +kernel
theorem d_law_325 : decode code 325 = .ok (.iaload, 1) := by decide +kernel
theorem d_law_326 : decode code 326 = .ok (.invokevirtual 28, 3) := by decide +kernel
theorem d_law_329 : decode code 329 = .ok (.aload_n 2, 1) := by decide +kernel
theorem d_law_330 : decode code 330 = .ok (.aload_n 0, 1) := by decide +kernel
theorem d_law_331 : decode code 331 = .ok (.iload_n 3, 1) := by decide +kernel
theorem d_law_332 : decode code 332 = .ok (.iconst 1, 1) := by decide +kernel
theorem d_law_333 : decode code 333 = .ok (.iadd, 1) := by decide +kernel
theorem d_law_334 : decode code 334 = .ok (.iaload, 1) := by decide +kernel
theorem d_law_335 : decode code 335 = .ok (.aload_n 0, 1) := by decide +kernel
theorem d_law_336 : decode code 336 = .ok (.iload_n 3, 1) := by decide +kernel
theorem d_law_337 : decode code 337 = .ok (.iconst 2, 1) := by decide +kernel
theorem d_law_338 : decode code 338 = .ok (.iadd, 1) := by decide +kernel
theorem d_law_339 : decode code 339 = .ok (.iaload, 1) := by decide +kernel
theorem d_law_340 : decode code 340 = .ok (.aload_n 0, 1) := by decide +kernel
theorem d_law_341 : decode code 341 = .ok (.iload_n 3, 1) := by decide +kernel
theorem d_law_342 : decode code 342 = .ok (.iconst 3, 1) := by decide +kernel
theorem d_law_343 : decode code 343 = .ok (.iadd, 1) := by decide +kernel
theorem d_law_344 : decode code 344 = .ok (.iaload, 1) := by decide +kernel
theorem d_law_345 : decode code 345 = .ok (.aload_n 0, 1) := by decide +kernel
theorem d_law_346 : decode code 346 = .ok (.iload_n 3, 1) := by decide +kernel
theorem d_law_347 : decode code 347 = .ok (.iconst 4, 1) := by decide +kernel
theorem d_law_348 : decode code 348 = .ok (.iadd, 1) := by decide +kernel
theorem d_law_349 : decode code 349 = .ok (.iaload, 1) := by decide +kernel
theorem d_law_350 : decode code 350 = .ok (.invokevirtual 31, 3) := by decide +kernel
theorem d_law_353 : decode code 353 = .ok (.if_icmp .eq 802, 3) := by decide +kernel
theorem d_law_356 : decode code 356 = .ok (.iconst 0, 1) := by decide +kernel
theorem d_law_357 : decode code 357 = .ok (.ireturn, 1) := by decide +kernel
theorem d_law_358 : decode code 358 = .ok (.aload_n 1, 1) := by decide +kernel
theorem d_law_359 : decode code 359 = .ok (.aload_n 0, 1) := by decide +kernel
theorem d_law_360 : decode code 360 = .ok (.iload_n 3, 1) := by decide +kernel
theorem d_law_361 : decode code 361 = .ok (.iconst 1, 1) := by decide +kernel
theorem d_law_362 : decode code 362 = .ok (.iadd, 1) := by decide +kernel
theorem d_law_363 : decode code 363 = .ok (.iaload, 1) := by decide +kernel
theorem d_law_364 : decode code 364 = .ok (.invokevirtual 32, 3) := by decide +kernel
theorem d_law_367 : decode code 367 = .ok (.aload_n 2, 1) := by decide +kernel
theorem d_law_368 : decode code 368 = .ok (.aload_n 0, 1) := by decide +kernel
theorem d_law_369 : decode code 369 = .ok (.iload_n 3, 1) := by decide +kernel
theorem d_law_370 : decode code 370 = .ok (.iconst 1, 1) := by decide +kernel
theorem d_law_371 : decode code 371 = .ok (.iadd, 1) := by decide +kernel
theorem d_law_372 : decode code 372 = .ok (.iaload, 1) := by decide +kernel
theorem d_law_373 : decode code 373 = .ok (.invokevirtual 36, 3) := by decide +kernel
theorem d_law_376 : decode code 376 = .ok (.if_icmp .eq 779, 3) := by decide +kernel
theorem d_law_379 : decode code 379 = .ok (.iconst 0, 1) := by decide +kernel
theorem d_law_380 : decode code 380 = .ok (.ireturn, 1) := by decide +kernel
theorem d_law_381 : decode code 381 = .ok (.aload_n 1, 1) := by decide +kernel
theorem d_law_382 : decode code 382 = .ok (.aload_n 0, 1) := by decide +kernel
theorem d_law_383 : decode code 383 = .ok (.iload_n 3, 1) := by decide +kernel
theorem d_law_384 : decode code 384 = .ok (.iconst 1, 1) := by decide +kernel
theorem d_law_385 : decode code 385 = .ok (.iadd, 1) := by decide +kernel
theorem d_law_386 : decode code 386 = .ok (.iaload, 1) := by decide +kernel
theorem d_law_387 : decode code 387 = .ok (.invokevirtual 37, 3) := by decide +kernel
theorem d_law_390 : decode code 390 = .ok (.aload_n 2, 1) := by decide +kernel
theorem d_law_391 : decode code 391 = .ok (.aload_n 0, 1) := by decide +kernel
theorem d_law_392 : decode code 392 = .ok (.iload_n 3, 1) := by decide +kernel
theorem d_law_393 : decode code 393 = .ok (.iconst 1, 1) := by decide +kernel
theorem d_law_394 : decode code 394 = .ok (.iadd, 1) := by decide +kernel
theorem d_law_395 : decode code 395 = .ok (.iaload, 1) := by decide +kernel
theorem d_law_396 : decode code 396 = .ok (.invokevirtual 40, 3) := by decide +kernel
theorem d_law_399 : decode code 399 = .ok (.if_icmp .eq 756, 3) := by decide +kernel
theorem d_law_402 : decode code 402 = .ok (.iconst 0, 1) := by decide +kernel
theorem d_law_403 : decode code 403 = .ok (.ireturn, 1) := by decide +kernel
theorem d_law_404 : decode code 404 = .ok (.aload_n 1, 1) := by decide +kernel
theorem d_law_405 : decode code 405 = .ok (.aload_n 0, 1) := by decide +kernel
theorem d_law_406 : decode code 406 = .ok (.iload_n 3, 1) := by decide +kernel
theorem d_law_407 : decode code 407 = .ok (.iconst 1, 1) := by decide +kernel
theorem d_law_408 : decode code 408 = .ok (.iadd, 1) := by decide +kernel
theorem d_law_409 : decode code 409 = .ok (.iaload, 1) := by decide +kernel
theorem d_law_410 : decode code 410 = .ok (.aload_n 0, 1) := by decide +kernel
theorem d_law_411 : decode code 411 = .ok (.iload_n 3, 1) := by decide +kernel
theorem d_law_412 : decode code 412 = .ok (.iconst 2, 1) := by decide +kernel
theorem d_law_413 : decode code 413 = .ok (.iadd, 1) := by decide +kernel
theorem d_law_414 : decode code 414 = .ok (.iaload, 1) := by decide +kernel
theorem d_law_415 : decode code 415 = .ok (.invokevirtual 41, 3) := by decide +kernel
theorem d_law_418 : decode code 418 = .ok (.aload_n 2, 1) := by decide +kernel
theorem d_law_419 : decode code 419 = .ok (.aload_n 0, 1) := by decide +kernel
theorem d_law_420 : decode code 420 = .ok (.iload_n 3, 1) := by decide +kernel
theorem d_law_421 : decode code 421 = .ok (.iconst 1, 1) := by decide +kernel
theorem d_law_422 : decode code 422 = .ok (.iadd, 1) := by decide +kernel
theorem d_law_423 : decode code 423 = .ok (.iaload, 1) := by decide +kernel
theorem d_law_424 : decode code 424 = .ok (.aload_n 0, 1) := by decide +kernel
theorem d_law_425 : decode code 425 = .ok (.iload_n 3, 1) := by decide +kernel
theorem d_law_426 : decode code 426 = .ok (.iconst 2, 1) := by decide +kernel
theorem d_law_427 : decode code 427 = .ok (.iadd, 1) := by decide +kernel
theorem d_law_428 : decode code 428 = .ok (.iaload, 1) := by decide +kernel
theorem d_law_429 : decode code 429 = .ok (.invokevirtual 44, 3) := by decide +kernel
theorem d_law_432 : decode code 432 = .ok (.if_icmp .eq 723, 3) := by decide +kernel
theorem d_law_435 : decode code 435 = .ok (.iconst 0, 1) := by decide +kernel
theorem d_law_436 : decode code 436 = .ok (.ireturn, 1) := by decide +kernel
theorem d_law_437 : decode code 437 = .ok (.aload_n 1, 1) := by decide +kernel
theorem d_law_438 : decode code 438 = .ok (.aload_n 0, 1) := by decide +kernel
theorem d_law_439 : decode code 439 = .ok (.iload_n 3, 1) := by decide +kernel
theorem d_law_440 : decode code 440 = .ok (.iconst 1, 1) := by decide +kernel
theorem d_law_441 : decode code 441 = .ok (.iadd, 1) := by decide +kernel
theorem d_law_442 : decode code 442 = .ok (.iaload, 1) := by decide +kernel
theorem d_law_443 : decode code 443 = .ok (.invokevirtual 45, 3) := by decide +kernel
theorem d_law_446 : decode code 446 = .ok (.aload_n 2, 1) := by decide +kernel
theorem d_law_447 : decode code 447 = .ok (.aload_n 0, 1) := by decide +kernel
theorem d_law_448 : decode code 448 = .ok (.iload_n 3, 1) := by decide +kernel
theorem d_law_449 : decode code 449 = .ok (.iconst 1, 1) := by decide +kernel
theorem d_law_450 : decode code 450 = .ok (.iadd, 1) := by decide +kernel
theorem d_law_451 : decode code 451 = .ok (.iaload, 1) := by decide +kernel
theorem d_law_452 : decode code 452 = .ok (.invokevirtual 48, 3) := by decide +kernel
theorem d_law_455 : decode code 455 = .ok (.if_icmp .eq 700, 3) := by decide +kernel
theorem d_law_458 : decode code 458 = .ok (.iconst 0, 1) := by decide +kernel
theorem d_law_459 : decode code 459 = .ok (.ireturn, 1) := by decide +kernel
theorem d_law_460 : decode code 460 = .ok (.aload_n 1, 1) := by decide +kernel
theorem d_law_461 : decode code 461 = .ok (.aload_n 0, 1) := by decide +kernel
theorem d_law_462 : decode code 462 = .ok (.iload_n 3, 1) := by decide +kernel
theorem d_law_463 : decode code 463 = .ok (.iconst 1, 1) := by decide +kernel
theorem d_law_464 : decode code 464 = .ok (.iadd, 1) := by decide +kernel
theorem d_law_465 : decode code 465 = .ok (.iaload, 1) := by decide +kernel
theorem d_law_466 : decode code 466 = .ok (.invokevirtual 49, 3) := by decide +kernel
theorem d_law_469 : decode code 469 = .ok (.aload_n 2, 1) := by decide +kernel
theorem d_law_470 : decode code 470 = .ok (.aload_n 0, 1) := by decide +kernel
theorem d_law_471 : decode code 471 = .ok (.iload_n 3, 1) := by decide +kernel
theorem d_law_472 : decode code 472 = .ok (.iconst 1, 1) := by decide +kernel
theorem d_law_473 : decode code 473 = .ok (.iadd, 1) := by decide +kernel
theorem d_law_474 : decode code 474 = .ok (.iaload, 1) := by decide +kernel
theorem d_law_475 : decode code 475 = .ok (.invokevirtual 52, 3) := by decide +kernel
theorem d_law_478 : decode code 478 = .ok (.if_icmp .eq 677, 3) := by decide +kernel
theorem d_law_481 : decode code 481 = .ok (.iconst 0, 1) := by decide +kernel
theorem d_law_482 : decode code 482 = .ok (.ireturn, 1) := by decide +kernel
theorem d_law_483 : decode code 483 = .ok (.aload_n 1, 1) := by decide +kernel
theorem d_law_484 : decode code 484 = .ok (.aload_n 0, 1) := by decide +kernel
theorem d_law_485 : decode code 485 = .ok (.iload_n 3, 1) := by decide +kernel
theorem d_law_486 : decode code 486 = .ok (.iconst 1, 1) := by decide +kernel
theorem d_law_487 : decode code 487 = .ok (.iadd, 1) := by decide +kernel
theorem d_law_488 : decode code 488 = .ok (.iaload, 1) := by decide +kernel
theorem d_law_489 : decode code 489 = .ok (.invokevirtual 53, 3) := by decide +kernel
theorem d_law_492 : decode code 492 = .ok (.aload_n 2, 1) := by decide +kernel
theorem d_law_493 : decode code 493 = .ok (.aload_n 0, 1) := by decide +kernel
theorem d_law_494 : decode code 494 = .ok (.iload_n 3, 1) := by decide +kernel
theorem d_law_495 : decode code 495 = .ok (.iconst 1, 1) := by decide +kernel
theorem d_law_496 : decode code 496 = .ok (.iadd, 1) := by decide +kernel
theorem d_law_497 : decode code 497 = .ok (.iaload, 1) := by decide +kernel
theorem d_law_498 : decode code 498 = .ok (.invokevirtual 56, 3) := by decide +kernel
theorem d_law_501 : decode code 501 = .ok (.if_icmp .eq 654, 3) := by decide +kernel
theorem d_law_504 : decode code 504 = .ok (.iconst 0, 1) := by decide +kernel
theorem d_law_505 : decode code 505 = .ok (.ireturn, 1) := by decide +kernel
theorem d_law_506 : decode code 506 = .ok (.aload_n 1, 1) := by decide +kernel
theorem d_law_507 : decode code 507 = .ok (.aload_n 0, 1) := by decide +kernel
theorem d_law_508 : decode code 508 = .ok (.iload_n 3, 1) := by decide +kernel
theorem d_law_509 : decode code 509 = .ok (.iconst 1, 1) := by decide +kernel
theorem d_law_510 : decode code 510 = .ok (.iadd, 1) := by decide +kernel
theorem d_law_511 : decode code 511 = .ok (.iaload, 1) := by decide +kernel
theorem d_law_512 : decode code 512 = .ok (.aload_n 0, 1) := by decide +kernel
theorem d_law_513 : decode code 513 = .ok (.iload_n 3, 1) := by decide +kernel
theorem d_law_514 : decode code 514 = .ok (.iconst 2, 1) := by decide +kernel
theorem d_law_515 : decode code 515 = .ok (.iadd, 1) := by decide +kernel
theorem d_law_516 : decode code 516 = .ok (.iaload, 1) := by decide +kernel
theorem d_law_517 : decode code 517 = .ok (.aload_n 0, 1) := by decide +kernel
theorem d_law_518 : decode code 518 = .ok (.iload_n 3, 1) := by decide +kernel
theorem d_law_519 : decode code 519 = .ok (.iconst 3, 1) := by decide +kernel
theorem d_law_520 : decode code 520 = .ok (.iadd, 1) := by decide +kernel
theorem d_law_521 : decode code 521 = .ok (.iaload, 1) := by decide +kernel
theorem d_law_522 : decode code 522 = .ok (.aload_n 0, 1) := by decide +kernel
theorem d_law_523 : decode code 523 = .ok (.iload_n 3, 1) := by decide +kernel
theorem d_law_524 : decode code 524 = .ok (.iconst 4, 1) := by decide +kernel
theorem d_law_525 : decode code 525 = .ok (.iadd, 1) := by decide +kernel
theorem d_law_526 : decode code 526 = .ok (.iaload, 1) := by decide +kernel
theorem d_law_527 : decode code 527 = .ok (.aload_n 0, 1) := by decide +kernel
theorem d_law_528 : decode code 528 = .ok (.iload_n 3, 1) := by decide +kernel
theorem d_law_529 : decode code 529 = .ok (.iconst 5, 1) := by decide +kernel
theorem d_law_530 : decode code 530 = .ok (.iadd, 1) := by decide +kernel
theorem d_law_531 : decode code 531 = .ok (.iaload, 1) := by decide +kernel
theorem d_law_532 : decode code 532 = .ok (.invokevirtual 57, 3) := by decide +kernel
theorem d_law_535 : decode code 535 = .ok (.aload_n 2, 1) := by decide +kernel
theorem d_law_536 : decode code 536 = .ok (.aload_n 0, 1) := by decide +kernel
theorem d_law_537 : decode code 537 = .ok (.iload_n 3, 1) := by decide +kernel
theorem d_law_538 : decode code 538 = .ok (.iconst 1, 1) := by decide +kernel
theorem d_law_539 : decode code 539 = .ok (.iadd, 1) := by decide +kernel
theorem d_law_540 : decode code 540 = .ok (.iaload, 1) := by decide +kernel
theorem d_law_541 : decode code 541 = .ok (.aload_n 0, 1) := by decide +kernel
theorem d_law_542 : decode code 542 = .ok (.iload_n 3, 1) := by decide +kernel
theorem d_law_543 : decode code 543 = .ok (.iconst 2, 1) := by decide +kernel
theorem d_law_544 : decode code 544 = .ok (.iadd, 1) := by decide +kernel
theorem d_law_545 : decode code 545 = .ok (.iaload, 1) := by decide +kernel
theorem d_law_546 : decode code 546 = .ok (.aload_n 0, 1) := by decide +kernel
theorem d_law_547 : decode code 547 = .ok (.iload_n 3, 1) := by decide +kernel
theorem d_law_548 : decode code 548 = .ok (.iconst 3, 1) := by decide +kernel
theorem d_law_549 : decode code 549 = .ok (.iadd, 1) := by decide +kernel
theorem d_law_550 : decode code 550 = .ok (.iaload, 1) := by decide +kernel
theorem d_law_551 : decode code 551 = .ok (.aload_n 0, 1) := by decide +kernel
theorem d_law_552 : decode code 552 = .ok (.iload_n 3, 1) := by decide +kernel
theorem d_law_553 : decode code 553 = .ok (.iconst 4, 1) := by decide +kernel
theorem d_law_554 : decode code 554 = .ok (.iadd, 1) := by decide +kernel
theorem d_law_555 : decode code 555 = .ok (.iaload, 1) := by decide +kernel
theorem d_law_556 : decode code 556 = .ok (.aload_n 0, 1) := by decide +kernel
theorem d_law_557 : decode code 557 = .ok (.iload_n 3, 1) := by decide +kernel
theorem d_law_558 : decode code 558 = .ok (.iconst 5, 1) := by decide +kernel
theorem d_law_559 : decode code 559 = .ok (.iadd, 1) := by decide +kernel
theorem d_law_560 : decode code 560 = .ok (.iaload, 1) := by decide +kernel
theorem d_law_561 : decode code 561 = .ok (.invokevirtual 61, 3) := by decide +kernel
theorem d_law_564 : decode code 564 = .ok (.if_icmp .eq 591, 3) := by decide +kernel
theorem d_law_567 : decode code 567 = .ok (.iconst 0, 1) := by decide +kernel
theorem d_law_568 : decode code 568 = .ok (.ireturn, 1) := by decide +kernel
theorem d_law_569 : decode code 569 = .ok (.aload_n 1, 1) := by decide +kernel
theorem d_law_570 : decode code 570 = .ok (.aload_n 0, 1) := by decide +kernel
theorem d_law_571 : decode code 571 = .ok (.iload_n 3, 1) := by decide +kernel
theorem d_law_572 : decode code 572 = .ok (.iconst 1, 1) := by decide +kernel
theorem d_law_573 : decode code 573 = .ok (.iadd, 1) := by decide +kernel
theorem d_law_574 : decode code 574 = .ok (.iaload, 1) := by decide +kernel
theorem d_law_575 : decode code 575 = .ok (.invokevirtual 62, 3) := by decide +kernel
theorem d_law_578 : decode code 578 = .ok (.aload_n 2, 1) := by decide +kernel
theorem d_law_579 : decode code 579 = .ok (.aload_n 0, 1) := by decide +kernel
theorem d_law_580 : decode code 580 = .ok (.iload_n 3, 1) := by decide +kernel
theorem d_law_581 : decode code 581 = .ok (.iconst 1, 1) := by decide +kernel
theorem d_law_582 : decode code 582 = .ok (.iadd, 1) := by decide +kernel
theorem d_law_583 : decode code 583 = .ok (.iaload, 1) := by decide +kernel
theorem d_law_584 : decode code 584 = .ok (.invokevirtual 65, 3) := by decide +kernel
theorem d_law_587 : decode code 587 = .ok (.if_icmp .eq 568, 3) := by decide +kernel
theorem d_law_590 : decode code 590 = .ok (.iconst 0, 1) := by decide +kernel
theorem d_law_591 : decode code 591 = .ok (.ireturn, 1) := by decide +kernel
theorem d_law_592 : decode code 592 = .ok (.aload_n 1, 1) := by decide +kernel
theorem d_law_593 : decode code 593 = .ok (.aload_n 0, 1) := by decide +kernel
theorem d_law_594 : decode code 594 = .ok (.iload_n 3, 1) := by decide +kernel
theorem d_law_595 : decode code 595 = .ok (.iconst 1, 1) := by decide +kernel
theorem d_law_596 : decode code 596 = .ok (.iadd, 1) := by decide +kernel
theorem d_law_597 : decode code 597 = .ok (.iaload, 1) := by decide +kernel
theorem d_law_598 : decode code 598 = .ok (.invokevirtual 66, 3) := by decide +kernel
theorem d_law_601 : decode code 601 = .ok (.aload_n 2, 1) := by decide +kernel
theorem d_law_602 : decode code 602 = .ok (.aload_n 0, 1) := by decide +kernel
theorem d_law_603 : decode code 603 = .ok (.iload_n 3, 1) := by decide +kernel
theorem d_law_604 : decode code 604 = .ok (.iconst 1, 1) := by decide +kernel
theorem d_law_605 : decode code 605 = .ok (.iadd, 1) := by decide +kernel
theorem d_law_606 : decode code 606 = .ok (.iaload, 1) := by decide +kernel
theorem d_law_607 : decode code 607 = .ok (.invokevirtual 69, 3) := by decide +kernel
theorem d_law_610 : decode code 610 = .ok (.if_icmp .eq 545, 3) := by decide +kernel
theorem d_law_613 : decode code 613 = .ok (.iconst 0, 1) := by decide +kernel
theorem d_law_614 : decode code 614 = .ok (.ireturn, 1) := by decide +kernel
theorem d_law_615 : decode code 615 = .ok (.aload_n 1, 1) := by decide +kernel
theorem d_law_616 : decode code 616 = .ok (.aload_n 0, 1) := by decide +kernel
theorem d_law_617 : decode code 617 = .ok (.iload_n 3, 1) := by decide +kernel
theorem d_law_618 : decode code 618 = .ok (.iconst 1, 1) := by decide +kernel
theorem d_law_619 : decode code 619 = .ok (.iadd, 1) := by decide +kernel
theorem d_law_620 : decode code 620 = .ok (.iaload, 1) := by decide +kernel
theorem d_law_621 : decode code 621 = .ok (.invokevirtual 70, 3) := by decide +kernel
theorem d_law_624 : decode code 624 = .ok (.aload_n 2, 1) := by decide +kernel
theorem d_law_625 : decode code 625 = .ok (.aload_n 0, 1) := by decide +kernel
theorem d_law_626 : decode code 626 = .ok (.iload_n 3, 1) := by decide +kernel
theorem d_law_627 : decode code 627 = .ok (.iconst 1, 1) := by decide +kernel
theorem d_law_628 : decode code 628 = .ok (.iadd, 1) := by decide +kernel
theorem d_law_629 : decode code 629 = .ok (.iaload, 1) := by decide +kernel
theorem d_law_630 : decode code 630 = .ok (.invokevirtual 73, 3) := by decide +kernel
theorem d_law_633 : decode code 633 = .ok (.if_icmp .eq 522, 3) := by decide +kernel
theorem d_law_636 : decode code 636 = .ok (.iconst 0, 1) := by decide +kernel
theorem d_law_637 : decode code 637 = .ok (.ireturn, 1) := by decide +kernel
theorem d_law_638 : decode code 638 = .ok (.aload_n 1, 1) := by decide +kernel
theorem d_law_639 : decode code 639 = .ok (.aload_n 0, 1) := by decide +kernel
theorem d_law_640 : decode code 640 = .ok (.iload_n 3, 1) := by decide +kernel
theorem d_law_641 : decode code 641 = .ok (.iconst 1, 1) := by decide +kernel
theorem d_law_642 : decode code 642 = .ok (.iadd, 1) := by decide +kernel
theorem d_law_643 : decode code 643 = .ok (.iaload, 1) := by decide +kernel
theorem d_law_644 : decode code 644 = .ok (.invokevirtual 74, 3) := by decide +kernel
theorem d_law_647 : decode code 647 = .ok (.aload_n 2, 1) := by decide +kernel
theorem d_law_648 : decode code 648 = .ok (.aload_n 0, 1) := by decide +kernel
theorem d_law_649 : decode code 649 = .ok (.iload_n 3, 1) := by decide +kernel
theorem d_law_650 : decode code 650 = .ok (.iconst 1, 1) := by decide +kernel
theorem d_law_651 : decode code 651 = .ok (.iadd, 1) := by decide +kernel
theorem d_law_652 : decode code 652 = .ok (.iaload, 1) := by decide +kernel
theorem d_law_653 : decode code 653 = .ok (.invokevirtual 77, 3) := by decide +kernel
theorem d_law_656 : decode code 656 = .ok (.if_icmp .eq 499, 3) := by decide +kernel
theorem d_law_659 : decode code 659 = .ok (.iconst 0, 1) := by decide +kernel
theorem d_law_660 : decode code 660 = .ok (.ireturn, 1) := by decide +kernel
theorem d_law_661 : decode code 661 = .ok (.aload_n 1, 1) := by decide +kernel
theorem d_law_662 : decode code 662 = .ok (.invokevirtual 78, 3) := by decide +kernel
theorem d_law_665 : decode code 665 = .ok (.aload_n 2, 1) := by decide +kernel
theorem d_law_666 : decode code 666 = .ok (.invokevirtual 82, 3) := by decide +kernel
theorem d_law_669 : decode code 669 = .ok (.lcmp, 1) := by decide +kernel
theorem d_law_670 : decode code 670 = .ok (.ifCond .eq 485, 3) := by decide +kernel
theorem d_law_673 : decode code 673 = .ok (.iconst 0, 1) := by decide +kernel
theorem d_law_674 : decode code 674 = .ok (.ireturn, 1) := by decide +kernel
theorem d_law_675 : decode code 675 = .ok (.aload_n 1, 1) := by decide +kernel
theorem d_law_676 : decode code 676 = .ok (.aload_n 0, 1) := by decide +kernel
theorem d_law_677 : decode code 677 = .ok (.iload_n 3, 1) := by decide +kernel
theorem d_law_678 : decode code 678 = .ok (.iconst 1, 1) := by decide +kernel
theorem d_law_679 : decode code 679 = .ok (.iadd, 1) := by decide +kernel
theorem d_law_680 : decode code 680 = .ok (.iaload, 1) := by decide +kernel
theorem d_law_681 : decode code 681 = .ok (.aload_n 0, 1) := by decide +kernel
theorem d_law_682 : decode code 682 = .ok (.iload_n 3, 1) := by decide +kernel
theorem d_law_683 : decode code 683 = .ok (.iconst 2, 1) := by decide +kernel
theorem d_law_684 : decode code 684 = .ok (.iadd, 1) := by decide +kernel
theorem d_law_685 : decode code 685 = .ok (.iaload, 1) := by decide +kernel
theorem d_law_686 : decode code 686 = .ok (.invokevirtual 83, 3) := by decide +kernel
theorem d_law_689 : decode code 689 = .ok (.aload_n 2, 1) := by decide +kernel
theorem d_law_690 : decode code 690 = .ok (.aload_n 0, 1) := by decide +kernel
theorem d_law_691 : decode code 691 = .ok (.iload_n 3, 1) := by decide +kernel
theorem d_law_692 : decode code 692 = .ok (.iconst 1, 1) := by decide +kernel
theorem d_law_693 : decode code 693 = .ok (.iadd, 1) := by decide +kernel
theorem d_law_694 : decode code 694 = .ok (.iaload, 1) := by decide +kernel
theorem d_law_695 : decode code 695 = .ok (.aload_n 0, 1) := by decide +kernel
theorem d_law_696 : decode code 696 = .ok (.iload_n 3, 1) := by decide +kernel
theorem d_law_697 : decode code 697 = .ok (.iconst 2, 1) := by decide +kernel
theorem d_law_698 : decode code 698 = .ok (.iadd, 1) := by decide +kernel
theorem d_law_699 : decode code 699 = .ok (.iaload, 1) := by decide +kernel
theorem d_law_700 : decode code 700 = .ok (.invokevirtual 86, 3) := by decide +kernel
theorem d_law_703 : decode code 703 = .ok (.if_icmp .eq 452, 3) := by decide +kernel
theorem d_law_706 : decode code 706 = .ok (.iconst 0, 1) := by decide +kernel
theorem d_law_707 : decode code 707 = .ok (.ireturn, 1) := by decide +kernel
theorem d_law_708 : decode code 708 = .ok (.aload_n 1, 1) := by decide +kernel
theorem d_law_709 : decode code 709 = .ok (.aload_n 0, 1) := by decide +kernel
theorem d_law_710 : decode code 710 = .ok (.iload_n 3, 1) := by decide +kernel
theorem d_law_711 : decode code 711 = .ok (.iconst 1, 1) := by decide +kernel
theorem d_law_712 : decode code 712 = .ok (.iadd, 1) := by decide +kernel
theorem d_law_713 : decode code 713 = .ok (.iaload, 1) := by decide +kernel
theorem d_law_714 : decode code 714 = .ok (.invokevirtual 87, 3) := by decide +kernel
theorem d_law_717 : decode code 717 = .ok (.aload_n 2, 1) := by decide +kernel
theorem d_law_718 : decode code 718 = .ok (.aload_n 0, 1) := by decide +kernel
theorem d_law_719 : decode code 719 = .ok (.iload_n 3, 1) := by decide +kernel
theorem d_law_720 : decode code 720 = .ok (.iconst 1, 1) := by decide +kernel
theorem d_law_721 : decode code 721 = .ok (.iadd, 1) := by decide +kernel
theorem d_law_722 : decode code 722 = .ok (.iaload, 1) := by decide +kernel
theorem d_law_723 : decode code 723 = .ok (.invokevirtual 90, 3) := by decide +kernel
theorem d_law_726 : decode code 726 = .ok (.if_icmp .eq 429, 3) := by decide +kernel
theorem d_law_729 : decode code 729 = .ok (.iconst 0, 1) := by decide +kernel
theorem d_law_730 : decode code 730 = .ok (.ireturn, 1) := by decide +kernel
theorem d_law_731 : decode code 731 = .ok (.aload_n 1, 1) := by decide +kernel
theorem d_law_732 : decode code 732 = .ok (.aload_n 0, 1) := by decide +kernel
theorem d_law_733 : decode code 733 = .ok (.iload_n 3, 1) := by decide +kernel
theorem d_law_734 : decode code 734 = .ok (.iconst 1, 1) := by decide +kernel
theorem d_law_735 : decode code 735 = .ok (.iadd, 1) := by decide +kernel
theorem d_law_736 : decode code 736 = .ok (.iaload, 1) := by decide +kernel
theorem d_law_737 : decode code 737 = .ok (.invokevirtual 91, 3) := by decide +kernel
theorem d_law_740 : decode code 740 = .ok (.aload_n 2, 1) := by decide +kernel
theorem d_law_741 : decode code 741 = .ok (.aload_n 0, 1) := by decide +kernel
theorem d_law_742 : decode code 742 = .ok (.iload_n 3, 1) := by decide +kernel
theorem d_law_743 : decode code 743 = .ok (.iconst 1, 1) := by decide +kernel
theorem d_law_744 : decode code 744 = .ok (.iadd, 1) := by decide +kernel
theorem d_law_745 : decode code 745 = .ok (.iaload, 1) := by decide +kernel
theorem d_law_746 : decode code 746 = .ok (.invokevirtual 94, 3) := by decide +kernel
theorem d_law_749 : decode code 749 = .ok (.if_icmp .eq 406, 3) := by decide +kernel
theorem d_law_752 : decode code 752 = .ok (.iconst 0, 1) := by decide +kernel
theorem d_law_753 : decode code 753 = .ok (.ireturn, 1) := by decide +kernel
theorem d_law_754 : decode code 754 = .ok (.aload_n 1, 1) := by decide +kernel
theorem d_law_755 : decode code 755 = .ok (.aload_n 0, 1) := by decide +kernel
theorem d_law_756 : decode code 756 = .ok (.iload_n 3, 1) := by decide +kernel
theorem d_law_757 : decode code 757 = .ok (.iconst 1, 1) := by decide +kernel
theorem d_law_758 : decode code 758 = .ok (.iadd, 1) := by decide +kernel
theorem d_law_759 : decode code 759 = .ok (.iaload, 1) := by decide +kernel
theorem d_law_760 : decode code 760 = .ok (.invokevirtual 95, 3) := by decide +kernel
theorem d_law_763 : decode code 763 = .ok (.aload_n 2, 1) := by decide +kernel
theorem d_law_764 : decode code 764 = .ok (.aload_n 0, 1) := by decide +kernel
theorem d_law_765 : decode code 765 = .ok (.iload_n 3, 1) := by decide +kernel
theorem d_law_766 : decode code 766 = .ok (.iconst 1, 1) := by decide +kernel
theorem d_law_767 : decode code 767 = .ok (.iadd, 1) := by decide +kernel
theorem d_law_768 : decode code 768 = .ok (.iaload, 1) := by decide +kernel
theorem d_law_769 : decode code 769 = .ok (.invokevirtual 98, 3) := by decide +kernel
theorem d_law_772 : decode code 772 = .ok (.if_icmp .eq 383, 3) := by decide +kernel
theorem d_law_775 : decode code 775 = .ok (.iconst 0, 1) := by decide +kernel
theorem d_law_776 : decode code 776 = .ok (.ireturn, 1) := by decide +kernel
theorem d_law_777 : decode code 777 = .ok (.aload_n 1, 1) := by decide +kernel
theorem d_law_778 : decode code 778 = .ok (.aload_n 0, 1) := by decide +kernel
theorem d_law_779 : decode code 779 = .ok (.iload_n 3, 1) := by decide +kernel
theorem d_law_780 : decode code 780 = .ok (.iconst 1, 1) := by decide +kernel
theorem d_law_781 : decode code 781 = .ok (.iadd, 1) := by decide +kernel
theorem d_law_782 : decode code 782 = .ok (.iaload, 1) := by decide +kernel
theorem d_law_783 : decode code 783 = .ok (.aload_n 0, 1) := by decide +kernel
theorem d_law_784 : decode code 784 = .ok (.iload_n 3, 1) := by decide +kernel
theorem d_law_785 : decode code 785 = .ok (.iconst 2, 1) := by decide +kernel
theorem d_law_786 : decode code 786 = .ok (.iadd, 1) := by decide +kernel
theorem d_law_787 : decode code 787 = .ok (.iaload, 1) := by decide +kernel
theorem d_law_788 : decode code 788 = .ok (.invokevirtual 99, 3) := by decide +kernel
theorem d_law_791 : decode code 791 = .ok (.aload_n 2, 1) := by decide +kernel
theorem d_law_792 : decode code 792 = .ok (.aload_n 0, 1) := by decide +kernel
theorem d_law_793 : decode code 793 = .ok (.iload_n 3, 1) := by decide +kernel
theorem d_law_794 : decode code 794 = .ok (.iconst 1, 1) := by decide +kernel
theorem d_law_795 : decode code 795 = .ok (.iadd, 1) := by decide +kernel
theorem d_law_796 : decode code 796 = .ok (.iaload, 1) := by decide +kernel
theorem d_law_797 : decode code 797 = .ok (.aload_n 0, 1) := by decide +kernel
theorem d_law_798 : decode code 798 = .ok (.iload_n 3, 1) := by decide +kernel
theorem d_law_799 : decode code 799 = .ok (.iconst 2, 1) := by decide +kernel
theorem d_law_800 : decode code 800 = .ok (.iadd, 1) := by decide +kernel
theorem d_law_801 : decode code 801 = .ok (.iaload, 1) := by decide +kernel
theorem d_law_802 : decode code 802 = .ok (.invokevirtual 103, 3) := by decide +kernel
theorem d_law_805 : decode code 805 = .ok (.lcmp, 1) := by decide +kernel
theorem d_law_806 : decode code 806 = .ok (.ifCond .eq 349, 3) := by decide +kernel
theorem d_law_809 : decode code 809 = .ok (.iconst 0, 1) := by decide +kernel
theorem d_law_810 : decode code 810 = .ok (.ireturn, 1) := by decide +kernel
theorem d_law_811 : decode code 811 = .ok (.aload_n 1, 1) := by decide +kernel
theorem d_law_812 : decode code 812 = .ok (.aload_n 0, 1) := by decide +kernel
theorem d_law_813 : decode code 813 = .ok (.iload_n 3, 1) := by decide +kernel
theorem d_law_814 : decode code 814 = .ok (.iconst 1, 1) := by decide +kernel
theorem d_law_815 : decode code 815 = .ok (.iadd, 1) := by decide +kernel
theorem d_law_816 : decode code 816 = .ok (.iaload, 1) := by decide +kernel
theorem d_law_817 : decode code 817 = .ok (.aload_n 0, 1) := by decide +kernel
theorem d_law_818 : decode code 818 = .ok (.iload_n 3, 1) := by decide +kernel
theorem d_law_819 : decode code 819 = .ok (.iconst 2, 1) := by decide +kernel
theorem d_law_820 : decode code 820 = .ok (.iadd, 1) := by decide +kernel
theorem d_law_821 : decode code 821 = .ok (.iaload, 1) := by decide +kernel
theorem d_law_822 : decode code 822 = .ok (.aload_n 0, 1) := by decide +kernel
theorem d_law_823 : decode code 823 = .ok (.iload_n 3, 1) := by decide +kernel
theorem d_law_824 : decode code 824 = .ok (.iconst 3, 1) := by decide +kernel
theorem d_law_825 : decode code 825 = .ok (.iadd, 1) := by decide +kernel
theorem d_law_826 : decode code 826 = .ok (.iaload, 1) := by decide +kernel
theorem d_law_827 : decode code 827 = .ok (.invokevirtual 104, 3) := by decide +kernel
theorem d_law_830 : decode code 830 = .ok (.aload_n 2, 1) := by decide +kernel
theorem d_law_831 : decode code 831 = .ok (.aload_n 0, 1) := by decide +kernel
theorem d_law_832 : decode code 832 = .ok (.iload_n 3, 1) := by decide +kernel
theorem d_law_833 : decode code 833 = .ok (.iconst 1, 1) := by decide +kernel
theorem d_law_834 : decode code 834 = .ok (.iadd, 1) := by decide +kernel
theorem d_law_835 : decode code 835 = .ok (.iaload, 1) := by decide +kernel
theorem d_law_836 : decode code 836 = .ok (.aload_n 0, 1) := by decide +kernel
theorem d_law_837 : decode code 837 = .ok (.iload_n 3, 1) := by decide +kernel
theorem d_law_838 : decode code 838 = .ok (.iconst 2, 1) := by decide +kernel
theorem d_law_839 : decode code 839 = .ok (.iadd, 1) := by decide +kernel
theorem d_law_840 : decode code 840 = .ok (.iaload, 1) := by decide +kernel
theorem d_law_841 : decode code 841 = .ok (.aload_n 0, 1) := by decide +kernel
theorem d_law_842 : decode code 842 = .ok (.iload_n 3, 1) := by decide +kernel
theorem d_law_843 : decode code 843 = .ok (.iconst 3, 1) := by decide +kernel
theorem d_law_844 : decode code 844 = .ok (.iadd, 1) := by decide +kernel
theorem d_law_845 : decode code 845 = .ok (.iaload, 1) := by decide +kernel
theorem d_law_846 : decode code 846 = .ok (.invokevirtual 107, 3) := by decide +kernel
theorem d_law_849 : decode code 849 = .ok (.if_icmp .eq 306, 3) := by decide +kernel
theorem d_law_852 : decode code 852 = .ok (.iconst 0, 1) := by decide +kernel
theorem d_law_853 : decode code 853 = .ok (.ireturn, 1) := by decide +kernel
theorem d_law_854 : decode code 854 = .ok (.aload_n 1, 1) := by decide +kernel
theorem d_law_855 : decode code 855 = .ok (.aload_n 0, 1) := by decide +kernel
theorem d_law_856 : decode code 856 = .ok (.iload_n 3, 1) := by decide +kernel
theorem d_law_857 : decode code 857 = .ok (.iconst 1, 1) := by decide +kernel
theorem d_law_858 : decode code 858 = .ok (.iadd, 1) := by decide +kernel
theorem d_law_859 : decode code 859 = .ok (.iaload, 1) := by decide +kernel
theorem d_law_860 : decode code 860 = .ok (.invokevirtual 108, 3) := by decide +kernel
theorem d_law_863 : decode code 863 = .ok (.aload_n 2, 1) := by decide +kernel
theorem d_law_864 : decode code 864 = .ok (.aload_n 0, 1) := by decide +kernel
theorem d_law_865 : decode code 865 = .ok (.iload_n 3, 1) := by decide +kernel
theorem d_law_866 : decode code 866 = .ok (.iconst 1, 1) := by decide +kernel
theorem d_law_867 : decode code 867 = .ok (.iadd, 1) := by decide +kernel
theorem d_law_868 : decode code 868 = .ok (.iaload, 1) := by decide +kernel
theorem d_law_869 : decode code 869 = .ok (.invokevirtual 111, 3) := by decide +kernel
theorem d_law_872 : decode code 872 = .ok (.if_icmp .eq 283, 3) := by decide +kernel
theorem d_law_875 : decode code 875 = .ok (.iconst 0, 1) := by decide +kernel
theorem d_law_876 : decode code 876 = .ok (.ireturn, 1) := by decide +kernel
theorem d_law_877 : decode code 877 = .ok (.aload_n 1, 1) := by decide +kernel
theorem d_law_878 : decode code 878 = .ok (.aload_n 0, 1) := by decide +kernel
theorem d_law_879 : decode code 879 = .ok (.iload_n 3, 1) := by decide +kernel
theorem d_law_880 : decode code 880 = .ok (.iconst 1, 1) := by decide +kernel
theorem d_law_881 : decode code 881 = .ok (.iadd, 1) := by decide +kernel
theorem d_law_882 : decode code 882 = .ok (.iaload, 1) := by decide +kernel
theorem d_law_883 : decode code 883 = .ok (.aload_n 0, 1) := by decide +kernel
theorem d_law_884 : decode code 884 = .ok (.iload_n 3, 1) := by decide +kernel
theorem d_law_885 : decode code 885 = .ok (.iconst 2, 1) := by decide +kernel
theorem d_law_886 : decode code 886 = .ok (.iadd, 1) := by decide +kernel
theorem d_law_887 : decode code 887 = .ok (.iaload, 1) := by decide +kernel
theorem d_law_888 : decode code 888 = .ok (.aload_n 0, 1) := by decide +kernel
theorem d_law_889 : decode code 889 = .ok (.iload_n 3, 1) := by decide +kernel
theorem d_law_890 : decode code 890 = .ok (.iconst 3, 1) := by decide +kernel
theorem d_law_891 : decode code 891 = .ok (.iadd, 1) := by decide +kernel
theorem d_law_892 : decode code 892 = .ok (.iaload, 1) := by decide +kernel
theorem d_law_893 : decode code 893 = .ok (.invokevirtual 112, 3) := by decide +kernel
theorem d_law_896 : decode code 896 = .ok (.aload_n 2, 1) := by decide +kernel
theorem d_law_897 : decode code 897 = .ok (.aload_n 0, 1) := by decide +kernel
theorem d_law_898 : decode code 898 = .ok (.iload_n 3, 1) := by decide +kernel
theorem d_law_899 : decode code 899 = .ok (.iconst 1, 1) := by decide +kernel
theorem d_law_900 : decode code 900 = .ok (.iadd, 1) := by decide +kernel
theorem d_law_901 : decode code 901 = .ok (.iaload, 1) := by decide +kernel
theorem d_law_902 : decode code 902 = .ok (.aload_n 0, 1) := by decide +kernel
theorem d_law_903 : decode code 903 = .ok (.iload_n 3, 1) := by decide +kernel
theorem d_law_904 : decode code 904 = .ok (.iconst 2, 1) := by decide +kernel
theorem d_law_905 : decode code 905 = .ok (.iadd, 1) := by decide +kernel
theorem d_law_906 : decode code 906 = .ok (.iaload, 1) := by decide +kernel
theorem d_law_907 : decode code 907 = .ok (.aload_n 0, 1) := by decide +kernel
theorem d_law_908 : decode code 908 = .ok (.iload_n 3, 1) := by decide +kernel
theorem d_law_909 : decode code 909 = .ok (.iconst 3, 1) := by decide +kernel
theorem d_law_910 : decode code 910 = .ok (.iadd, 1) := by decide +kernel
theorem d_law_911 : decode code 911 = .ok (.iaload, 1) := by decide +kernel
theorem d_law_912 : decode code 912 = .ok (.invokevirtual 115, 3) := by decide +kernel
theorem d_law_915 : decode code 915 = .ok (.if_icmp .eq 240, 3) := by decide +kernel
theorem d_law_918 : decode code 918 = .ok (.iconst 0, 1) := by decide +kernel
theorem d_law_919 : decode code 919 = .ok (.ireturn, 1) := by decide +kernel
theorem d_law_920 : decode code 920 = .ok (.aload_n 1, 1) := by decide +kernel
theorem d_law_921 : decode code 921 = .ok (.aload_n 0, 1) := by decide +kernel
theorem d_law_922 : decode code 922 = .ok (.iload_n 3, 1) := by decide +kernel
theorem d_law_923 : decode code 923 = .ok (.iconst 1, 1) := by decide +kernel
theorem d_law_924 : decode code 924 = .ok (.iadd, 1) := by decide +kernel
theorem d_law_925 : decode code 925 = .ok (.iaload, 1) := by decide +kernel
theorem d_law_926 : decode code 926 = .ok (.aload_n 0, 1) := by decide +kernel
theorem d_law_927 : decode code 927 = .ok (.iload_n 3, 1) := by decide +kernel
theorem d_law_928 : decode code 928 = .ok (.iconst 2, 1) := by decide +kernel
theorem d_law_929 : decode code 929 = .ok (.iadd, 1) := by decide +kernel
theorem d_law_930 : decode code 930 = .ok (.iaload, 1) := by decide +kernel
theorem d_law_931 : decode code 931 = .ok (.aload_n 0, 1) := by decide +kernel
theorem d_law_932 : decode code 932 = .ok (.iload_n 3, 1) := by decide +kernel
theorem d_law_933 : decode code 933 = .ok (.iconst 3, 1) := by decide +kernel
theorem d_law_934 : decode code 934 = .ok (.iadd, 1) := by decide +kernel
theorem d_law_935 : decode code 935 = .ok (.iaload, 1) := by decide +kernel
theorem d_law_936 : decode code 936 = .ok (.invokevirtual 116, 3) := by decide +kernel
theorem d_law_939 : decode code 939 = .ok (.aload_n 2, 1) := by decide +kernel
theorem d_law_940 : decode code 940 = .ok (.aload_n 0, 1) := by decide +kernel
theorem d_law_941 : decode code 941 = .ok (.iload_n 3, 1) := by decide +kernel
theorem d_law_942 : decode code 942 = .ok (.iconst 1, 1) := by decide +kernel
theorem d_law_943 : decode code 943 = .ok (.iadd, 1) := by decide +kernel
theorem d_law_944 : decode code 944 = .ok (.iaload, 1) := by decide +kernel
theorem d_law_945 : decode code 945 = .ok (.aload_n 0, 1) := by decide +kernel
theorem d_law_946 : decode code 946 = .ok (.iload_n 3, 1) := by decide +kernel
theorem d_law_947 : decode code 947 = .ok (.iconst 2, 1) := by decide +kernel
theorem d_law_948 : decode code 948 = .ok (.iadd, 1) := by decide +kernel
theorem d_law_949 : decode code 949 = .ok (.iaload, 1) := by decide +kernel
theorem d_law_950 : decode code 950 = .ok (.aload_n 0, 1) := by decide +kernel
theorem d_law_951 : decode code 951 = .ok (.iload_n 3, 1) := by decide +kernel
theorem d_law_952 : decode code 952 = .ok (.iconst 3, 1) := by decide +kernel
theorem d_law_953 : decode code 953 = .ok (.iadd, 1) := by decide +kernel
theorem d_law_954 : decode code 954 = .ok (.iaload, 1) := by decide +kernel
theorem d_law_955 : decode code 955 = .ok (.invokevirtual 120, 3) := by decide +kernel
theorem d_law_958 : decode code 958 = .ok (.lcmp, 1) := by decide +kernel
theorem d_law_959 : decode code 959 = .ok (.ifCond .eq 196, 3) := by decide +kernel
theorem d_law_962 : decode code 962 = .ok (.iconst 0, 1) := by decide +kernel
theorem d_law_963 : decode code 963 = .ok (.ireturn, 1) := by decide +kernel
theorem d_law_964 : decode code 964 = .ok (.aload_n 1, 1) := by decide +kernel
theorem d_law_965 : decode code 965 = .ok (.aload_n 0, 1) := by decide +kernel
theorem d_law_966 : decode code 966 = .ok (.iload_n 3, 1) := by decide +kernel
theorem d_law_967 : decode code 967 = .ok (.iconst 1, 1) := by decide +kernel
theorem d_law_968 : decode code 968 = .ok (.iadd, 1) := by decide +kernel
theorem d_law_969 : decode code 969 = .ok (.iaload, 1) := by decide +kernel
theorem d_law_970 : decode code 970 = .ok (.aload_n 0, 1) := by decide +kernel
theorem d_law_971 : decode code 971 = .ok (.iload_n 3, 1) := by decide +kernel
theorem d_law_972 : decode code 972 = .ok (.iconst 2, 1) := by decide +kernel
theorem d_law_973 : decode code 973 = .ok (.iadd, 1) := by decide +kernel
theorem d_law_974 : decode code 974 = .ok (.iaload, 1) := by decide +kernel
theorem d_law_975 : decode code 975 = .ok (.aload_n 0, 1) := by decide +kernel
theorem d_law_976 : decode code 976 = .ok (.iload_n 3, 1) := by decide +kernel
theorem d_law_977 : decode code 977 = .ok (.iconst 3, 1) := by decide +kernel
theorem d_law_978 : decode code 978 = .ok (.iadd, 1) := by decide +kernel
theorem d_law_979 : decode code 979 = .ok (.iaload, 1) := by decide +kernel
theorem d_law_980 : decode code 980 = .ok (.aload_n 0, 1) := by decide +kernel
theorem d_law_981 : decode code 981 = .ok (.iload_n 3, 1) := by decide +kernel
theorem d_law_982 : decode code 982 = .ok (.iconst 4, 1) := by decide +kernel
theorem d_law_983 : decode code 983 = .ok (.iadd, 1) := by decide +kernel
theorem d_law_984 : decode code 984 = .ok (.iaload, 1) := by decide +kernel
theorem d_law_985 : decode code 985 = .ok (.aload_n 0, 1) := by decide +kernel
theorem d_law_986 : decode code 986 = .ok (.iload_n 3, 1) := by decide +kernel
theorem d_law_987 : decode code 987 = .ok (.iconst 5, 1) := by decide +kernel
theorem d_law_988 : decode code 988 = .ok (.iadd, 1) := by decide +kernel
theorem d_law_989 : decode code 989 = .ok (.iaload, 1) := by decide +kernel
theorem d_law_990 : decode code 990 = .ok (.invokevirtual 121, 3) := by decide +kernel
theorem d_law_993 : decode code 993 = .ok (.aload_n 2, 1) := by decide +kernel
theorem d_law_994 : decode code 994 = .ok (.aload_n 0, 1) := by decide +kernel
theorem d_law_995 : decode code 995 = .ok (.iload_n 3, 1) := by decide +kernel
theorem d_law_996 : decode code 996 = .ok (.iconst 1, 1) := by decide +kernel
theorem d_law_997 : decode code 997 = .ok (.iadd, 1) := by decide +kernel
theorem d_law_998 : decode code 998 = .ok (.iaload, 1) := by decide +kernel
theorem d_law_999 : decode code 999 = .ok (.aload_n 0, 1) := by decide +kernel
theorem d_law_1000 : decode code 1000 = .ok (.iload_n 3, 1) := by decide +kernel
theorem d_law_1001 : decode code 1001 = .ok (.iconst 2, 1) := by decide +kernel
theorem d_law_1002 : decode code 1002 = .ok (.iadd, 1) := by decide +kernel
theorem d_law_1003 : decode code 1003 = .ok (.iaload, 1) := by decide +kernel
theorem d_law_1004 : decode code 1004 = .ok (.aload_n 0, 1) := by decide +kernel
theorem d_law_1005 : decode code 1005 = .ok (.iload_n 3, 1) := by decide +kernel
theorem d_law_1006 : decode code 1006 = .ok (.iconst 3, 1) := by decide +kernel
theorem d_law_1007 : decode code 1007 = .ok (.iadd, 1) := by decide +kernel
theorem d_law_1008 : decode code 1008 = .ok (.iaload, 1) := by decide +kernel
theorem d_law_1009 : decode code 1009 = .ok (.aload_n 0, 1) := by decide +kernel
theorem d_law_1010 : decode code 1010 = .ok (.iload_n 3, 1) := by decide +kernel
theorem d_law_1011 : decode code 1011 = .ok (.iconst 4, 1) := by decide +kernel
theorem d_law_1012 : decode code 1012 = .ok (.iadd, 1) := by decide +kernel
theorem d_law_1013 : decode code 1013 = .ok (.iaload, 1) := by decide +kernel
theorem d_law_1014 : decode code 1014 = .ok (.aload_n 0, 1) := by decide +kernel
theorem d_law_1015 : decode code 1015 = .ok (.iload_n 3, 1) := by decide +kernel
theorem d_law_1016 : decode code 1016 = .ok (.iconst 5, 1) := by decide +kernel
theorem d_law_1017 : decode code 1017 = .ok (.iadd, 1) := by decide +kernel
theorem d_law_1018 : decode code 1018 = .ok (.iaload, 1) := by decide +kernel
theorem d_law_1019 : decode code 1019 = .ok (.invokevirtual 124, 3) := by decide +kernel
theorem d_law_1022 : decode code 1022 = .ok (.if_icmp .eq 133, 3) := by decide +kernel
theorem d_law_1025 : decode code 1025 = .ok (.iconst 0, 1) := by decide +kernel
theorem d_law_1026 : decode code 1026 = .ok (.ireturn, 1) := by decide +kernel
theorem d_law_1027 : decode code 1027 = .ok (.aload_n 1, 1) := by decide +kernel
theorem d_law_1028 : decode code 1028 = .ok (.aload_n 0, 1) := by decide +kernel
theorem d_law_1029 : decode code 1029 = .ok (.iload_n 3, 1) := by decide +kernel
theorem d_law_1030 : decode code 1030 = .ok (.iconst 1, 1) := by decide +kernel
theorem d_law_1031 : decode code 1031 = .ok (.iadd, 1) := by decide +kernel
theorem d_law_1032 : decode code 1032 = .ok (.iaload, 1) := by decide +kernel
theorem d_law_1033 : decode code 1033 = .ok (.invokevirtual 125, 3) := by decide +kernel
theorem d_law_1036 : decode code 1036 = .ok (.aload_n 2, 1) := by decide +kernel
theorem d_law_1037 : decode code 1037 = .ok (.aload_n 0, 1) := by decide +kernel
theorem d_law_1038 : decode code 1038 = .ok (.iload_n 3, 1) := by decide +kernel
theorem d_law_1039 : decode code 1039 = .ok (.iconst 1, 1) := by decide +kernel
theorem d_law_1040 : decode code 1040 = .ok (.iadd, 1) := by decide +kernel
theorem d_law_1041 : decode code 1041 = .ok (.iaload, 1) := by decide +kernel
theorem d_law_1042 : decode code 1042 = .ok (.invokevirtual 128, 3) := by decide +kernel
theorem d_law_1045 : decode code 1045 = .ok (.if_icmp .eq 110, 3) := by decide +kernel
theorem d_law_1048 : decode code 1048 = .ok (.iconst 0, 1) := by decide +kernel
theorem d_law_1049 : decode code 1049 = .ok (.ireturn, 1) := by decide +kernel
theorem d_law_1050 : decode code 1050 = .ok (.aload_n 1, 1) := by decide +kernel
theorem d_law_1051 : decode code 1051 = .ok (.aload_n 0, 1) := by decide +kernel
theorem d_law_1052 : decode code 1052 = .ok (.iload_n 3, 1) := by decide +kernel
theorem d_law_1053 : decode code 1053 = .ok (.iconst 1, 1) := by decide +kernel
theorem d_law_1054 : decode code 1054 = .ok (.iadd, 1) := by decide +kernel
theorem d_law_1055 : decode code 1055 = .ok (.iaload, 1) := by decide +kernel
theorem d_law_1056 : decode code 1056 = .ok (.invokevirtual 129, 3) := by decide +kernel
theorem d_law_1059 : decode code 1059 = .ok (.aload_n 2, 1) := by decide +kernel
theorem d_law_1060 : decode code 1060 = .ok (.aload_n 0, 1) := by decide +kernel
theorem d_law_1061 : decode code 1061 = .ok (.iload_n 3, 1) := by decide +kernel
theorem d_law_1062 : decode code 1062 = .ok (.iconst 1, 1) := by decide +kernel
theorem d_law_1063 : decode code 1063 = .ok (.iadd, 1) := by decide +kernel
theorem d_law_1064 : decode code 1064 = .ok (.iaload, 1) := by decide +kernel
theorem d_law_1065 : decode code 1065 = .ok (.invokevirtual 132, 3) := by decide +kernel
theorem d_law_1068 : decode code 1068 = .ok (.if_icmp .eq 87, 3) := by decide +kernel
theorem d_law_1071 : decode code 1071 = .ok (.iconst 0, 1) := by decide +kernel
theorem d_law_1072 : decode code 1072 = .ok (.ireturn, 1) := by decide +kernel
theorem d_law_1073 : decode code 1073 = .ok (.aload_n 1, 1) := by decide +kernel
theorem d_law_1074 : decode code 1074 = .ok (.aload_n 0, 1) := by decide +kernel
theorem d_law_1075 : decode code 1075 = .ok (.iload_n 3, 1) := by decide +kernel
theorem d_law_1076 : decode code 1076 = .ok (.iconst 1, 1) := by decide +kernel
theorem d_law_1077 : decode code 1077 = .ok (.iadd, 1) := by decide +kernel
theorem d_law_1078 : decode code 1078 = .ok (.iaload, 1) := by decide +kernel
theorem d_law_1079 : decode code 1079 = .ok (.aload_n 0, 1) := by decide +kernel
theorem d_law_1080 : decode code 1080 = .ok (.iload_n 3, 1) := by decide +kernel
theorem d_law_1081 : decode code 1081 = .ok (.iconst 2, 1) := by decide +kernel
theorem d_law_1082 : decode code 1082 = .ok (.iadd, 1) := by decide +kernel
theorem d_law_1083 : decode code 1083 = .ok (.iaload, 1) := by decide +kernel
theorem d_law_1084 : decode code 1084 = .ok (.invokevirtual 133, 3) := by decide +kernel
theorem d_law_1087 : decode code 1087 = .ok (.aload_n 2, 1) := by decide +kernel
theorem d_law_1088 : decode code 1088 = .ok (.aload_n 0, 1) := by decide +kernel
theorem d_law_1089 : decode code 1089 = .ok (.iload_n 3, 1) := by decide +kernel
theorem d_law_1090 : decode code 1090 = .ok (.iconst 1, 1) := by decide +kernel
theorem d_law_1091 : decode code 1091 = .ok (.iadd, 1) := by decide +kernel
theorem d_law_1092 : decode code 1092 = .ok (.iaload, 1) := by decide +kernel
theorem d_law_1093 : decode code 1093 = .ok (.aload_n 0, 1) := by decide +kernel
theorem d_law_1094 : decode code 1094 = .ok (.iload_n 3, 1) := by decide +kernel
theorem d_law_1095 : decode code 1095 = .ok (.iconst 2, 1) := by decide +kernel
theorem d_law_1096 : decode code 1096 = .ok (.iadd, 1) := by decide +kernel
theorem d_law_1097 : decode code 1097 = .ok (.iaload, 1) := by decide +kernel
theorem d_law_1098 : decode code 1098 = .ok (.invokevirtual 136, 3) := by decide +kernel
theorem d_law_1101 : decode code 1101 = .ok (.if_icmp .eq 54, 3) := by decide +kernel
theorem d_law_1104 : decode code 1104 = .ok (.iconst 0, 1) := by decide +kernel
theorem d_law_1105 : decode code 1105 = .ok (.ireturn, 1) := by decide +kernel
theorem d_law_1106 : decode code 1106 = .ok (.aload_n 1, 1) := by decide +kernel
theorem d_law_1107 : decode code 1107 = .ok (.invokevirtual 137, 3) := by decide +kernel
theorem d_law_1110 : decode code 1110 = .ok (.aload_n 2, 1) := by decide +kernel
theorem d_law_1111 : decode code 1111 = .ok (.invokevirtual 141, 3) := by decide +kernel
theorem d_law_1114 : decode code 1114 = .ok (.if_icmp .eq 41, 3) := by decide +kernel
theorem d_law_1117 : decode code 1117 = .ok (.iconst 0, 1) := by decide +kernel
theorem d_law_1118 : decode code 1118 = .ok (.ireturn, 1) := by decide +kernel
theorem d_law_1119 : decode code 1119 = .ok (.aload_n 1, 1) := by decide +kernel
theorem d_law_1120 : decode code 1120 = .ok (.invokevirtual 142, 3) := by decide +kernel
theorem d_law_1123 : decode code 1123 = .ok (.aload_n 2, 1) := by decide +kernel
theorem d_law_1124 : decode code 1124 = .ok (.invokevirtual 145, 3) := by decide +kernel
theorem d_law_1127 : decode code 1127 = .ok (.if_icmp .eq 28, 3) := by decide +kernel
theorem d_law_1130 : decode code 1130 = .ok (.iconst 0, 1) := by decide +kernel
theorem d_law_1131 : decode code 1131 = .ok (.ireturn, 1) := by decide +kernel
theorem d_law_1132 : decode code 1132 = .ok (.aload_n 1, 1) := by decide +kernel
theorem d_law_1133 : decode code 1133 = .ok (.aload_n 0, 1) := by decide +kernel
theorem d_law_1134 : decode code 1134 = .ok (.iload_n 3, 1) := by decide +kernel
theorem d_law_1135 : decode code 1135 = .ok (.iconst 1, 1) := by decide +kernel
theorem d_law_1136 : decode code 1136 = .ok (.iadd, 1) := by decide +kernel
theorem d_law_1137 : decode code 1137 = .ok (.iaload, 1) := by decide +kernel
theorem d_law_1138 : decode code 1138 = .ok (.invokevirtual 146, 3) := by decide +kernel
theorem d_law_1141 : decode code 1141 = .ok (.aload_n 2, 1) := by decide +kernel
theorem d_law_1142 : decode code 1142 = .ok (.aload_n 0, 1) := by decide +kernel
theorem d_law_1143 : decode code 1143 = .ok (.iload_n 3, 1) := by decide +kernel
theorem d_law_1144 : decode code 1144 = .ok (.iconst 1, 1) := by decide +kernel
theorem d_law_1145 : decode code 1145 = .ok (.iadd, 1) := by decide +kernel
theorem d_law_1146 : decode code 1146 = .ok (.iaload, 1) := by decide +kernel
theorem d_law_1147 : decode code 1147 = .ok (.invokevirtual 149, 3) := by decide +kernel
theorem d_law_1150 : decode code 1150 = .ok (.if_icmp .eq 5, 3) := by decide +kernel
theorem d_law_1153 : decode code 1153 = .ok (.iconst 0, 1) := by decide +kernel
theorem d_law_1154 : decode code 1154 = .ok (.ireturn, 1) := by decide +kernel
theorem d_law_1155 : decode code 1155 = .ok (.iinc 3 6, 3) := by decide +kernel
theorem d_law_1158 : decode code 1158 = .ok (.goto (-1140), 3) := by decide +kernel
theorem d_law_1161 : decode code 1161 = .ok (.iconst 1, 1) := by decide +kernel
theorem d_law_1162 : decode code 1162 = .ok (.ireturn, 1) := by decide +kernel

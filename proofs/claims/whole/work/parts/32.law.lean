/-! THE CLAIM OUT OF ONE WALK OF THE LAW'S BODY. Your part is whole_start (and what it stands on); all else here is the same for every law, but numbers. -/
def R_law : String := "WeatherWagesLaw"
def lw_P (b : Addr) (xs : List Int32) (args : Array Value) (s : State) : Prop := args = #[.ref b] ∧ s.IntsAt b xs ∧ xs.length ≤ 3072 ∧ (Jvm.Cond.and given_1 narrow_1).before args s = true
def lw_Q (_ : Array Value) (s : State) (o : Outcome) (t : State) : Prop := o = .returned (some (.int 1)) ∧ Framed s o t [] 600000 7302250
def lw_Z (below : List Frame) (a : Array Value) (s : State) : State → Prop := fun t => ∃ o, t.status = .running ∧ Ended t below o ∧ lw_Q a s o t
/-- the law's own end, with 1 on the stack, nothing written that was there before, its room as the claim has it -/
theorem lw_ret {p : Program} {l : Launch} {e : Env} {s : State} {m : MethodId} {below : List Frame} {meth : Method} {c : Code} {b : Nat} (hx : p.tables.exec = Jvm.exec) (hb : c.code = code) (hr : meth.sig.returnType = ret) (hlocks : meth.locks = false) {pc : Nat} {H : Heap} {ls : Array Slot} (hdg : decode code pc = .ok (.ireturn, 1)) : W p l e room_1 s m #[Value.ref b] below meth c H [] 600000 7302250 (lw_Z below #[Value.ref b] s) (F0 m pc ls [.int 1]) := by
  intro T hT X
  obtain ⟨fs, hret, hrun, hended, hW, hframe⟩ := X.leave (v := some (.int 1)) (hlocks := hlocks) (fun h => by rw [hr] at h; cases h)
  have hmeth' : T.vm.method? m = some meth := X.method'
  refine ⟨T.setFrames fs, ?_, .returned (some (.int 1)), hrun, hended, rfl, ⟨_, rfl⟩, hW, hframe⟩
  jvm_step X.here [X.here.top, hx, hb, hdg, hmeth', hr, ret, narrow_b1]
  (try refine ⟨rfl, ?_⟩); (try refine ⟨rfl, ?_⟩)
  first | (intro acts; rw [hret _ acts rfl rfl rfl]) | rw [hret _ _ rfl rfl rfl]
  exact Steps.refl _
/-- what holds at the law's entry: the machine, the code, the tables' words (any of lw_tbl by 'hts w (by decide +kernel)'), the script of L ints xs at the cell b, what the Statement gives of the start (any of its parts by flat_of_before) -/
def lw_At (p : Program) (s : State) (m : MethodId) (meth : Method) (c : Code) (b L : Nat) (xs : Nat → Int32) : Prop :=
  p.tables.exec = Jvm.exec ∧ c.code = code ∧ meth.sig.returnType = ret ∧ c.maxLocals = 4 ∧ s.vm.findClass R_law = some m.cls ∧ (∀ w ∈ lw_tbl, w.before #[Value.ref b] s = true) ∧ va_X b L xs s s.heap ∧ b < s.heap.size ∧ meth.locks = false ∧ (Jvm.Cond.and given_1 narrow_1).before #[Value.ref b] s = true

theorem dL_law_0 : decode cL_law 0 = .ok (.new 7, 3) := by decide +kernel
theorem dL_law_3 : decode cL_law 3 = .ok (.dup, 1) := by decide +kernel
theorem dL_law_4 : decode cL_law 4 = .ok (.invokespecial 9, 3) := by decide +kernel
theorem dL_law_7 : decode cL_law 7 = .ok (.astore_n 1, 1) := by decide +kernel
theorem dL_law_8 : decode cL_law 8 = .ok (.new 10, 3) := by decide +kernel
theorem dL_law_11 : decode cL_law 11 = .ok (.dup, 1) := by decide +kernel
theorem dL_law_12 : decode cL_law 12 = .ok (.invokespecial 12, 3) := by decide +kernel
theorem dL_law_15 : decode cL_law 15 = .ok (.astore_n 2, 1) := by decide +kernel
theorem dL_law_16 : decode cL_law 16 = .ok (.iconst 0, 1) := by decide +kernel
theorem dL_law_17 : decode cL_law 17 = .ok (.istore_n 3, 1) := by decide +kernel
theorem dL_law_18 : decode cL_law 18 = .ok (.iload_n 3, 1) := by decide +kernel
theorem dL_law_19 : decode cL_law 19 = .ok (.aload_n 0, 1) := by decide +kernel
theorem dL_law_20 : decode cL_law 20 = .ok (.arraylength, 1) := by decide +kernel
theorem dL_law_21 : decode cL_law 21 = .ok (.bipush 6, 2) := by decide +kernel
theorem dL_law_23 : decode cL_law 23 = .ok (.isub, 1) := by decide +kernel
theorem dL_law_24 : decode cL_law 24 = .ok (.if_icmp .gt 1409, 3) := by decide +kernel
theorem dL_law_27 : decode cL_law 27 = .ok (.aload_n 0, 1) := by decide +kernel
theorem dL_law_28 : decode cL_law 28 = .ok (.iload_n 3, 1) := by decide +kernel
theorem dL_law_29 : decode cL_law 29 = .ok (.iaload, 1) := by decide +kernel
theorem dL_law_30 : decode cL_law 30 = .ok (.bipush 63, 2) := by decide +kernel
theorem dL_law_32 : decode cL_law 32 = .ok (.iand, 1) := by decide +kernel
theorem dL_law_33 : decode cL_law 33 = .ok (.tableswitch 1394 0 40 #[179, 242, 265, 278, 301, 334, 367, 400, 433, 466, 489, 532, 585, 628, 641, 654, 667, 700, 723, 756, 789, 822, 855, 868, 901, 934, 977, 990, 1003, 1026, 1049, 1072, 1131, 1190, 1213, 1236, 1259, 1292, 1325, 1348, 1371], 179) := by decide +kernel
theorem dL_law_212 : decode cL_law 212 = .ok (.aload_n 1, 1) := by decide +kernel
theorem dL_law_213 : decode cL_law 213 = .ok (.aload_n 0, 1) := by decide +kernel
theorem dL_law_214 : decode cL_law 214 = .ok (.iload_n 3, 1) := by decide +kernel
theorem dL_law_215 : decode cL_law 215 = .ok (.iconst 1, 1) := by decide +kernel
theorem dL_law_216 : decode cL_law 216 = .ok (.iadd, 1) := by decide +kernel
theorem dL_law_217 : decode cL_law 217 = .ok (.iaload, 1) := by decide +kernel
theorem dL_law_218 : decode cL_law 218 = .ok (.aload_n 0, 1) := by decide +kernel
theorem dL_law_219 : decode cL_law 219 = .ok (.iload_n 3, 1) := by decide +kernel
theorem dL_law_220 : decode cL_law 220 = .ok (.iconst 2, 1) := by decide +kernel
theorem dL_law_221 : decode cL_law 221 = .ok (.iadd, 1) := by decide +kernel
theorem dL_law_222 : decode cL_law 222 = .ok (.iaload, 1) := by decide +kernel
theorem dL_law_223 : decode cL_law 223 = .ok (.aload_n 0, 1) := by decide +kernel
theorem dL_law_224 : decode cL_law 224 = .ok (.iload_n 3, 1) := by decide +kernel
theorem dL_law_225 : decode cL_law 225 = .ok (.iconst 3, 1) := by decide +kernel
theorem dL_law_226 : decode cL_law 226 = .ok (.iadd, 1) := by decide +kernel
theorem dL_law_227 : decode cL_law 227 = .ok (.iaload, 1) := by decide +kernel
theorem dL_law_228 : decode cL_law 228 = .ok (.aload_n 0, 1) := by decide +kernel
theorem dL_law_229 : decode cL_law 229 = .ok (.iload_n 3, 1) := by decide +kernel
theorem dL_law_230 : decode cL_law 230 = .ok (.iconst 4, 1) := by decide +kernel
theorem dL_law_231 : decode cL_law 231 = .ok (.iadd, 1) := by decide +kernel
theorem dL_law_232 : decode cL_law 232 = .ok (.iaload, 1) := by decide +kernel
theorem dL_law_233 : decode cL_law 233 = .ok (.aload_n 0, 1) := by decide +kernel
theorem dL_law_234 : decode cL_law 234 = .ok (.iload_n 3, 1) := by decide +kernel
theorem dL_law_235 : decode cL_law 235 = .ok (.iconst 5, 1) := by decide +kernel
theorem dL_law_236 : decode cL_law 236 = .ok (.iadd, 1) := by decide +kernel
theorem dL_law_237 : decode cL_law 237 = .ok (.iaload, 1) := by decide +kernel
theorem dL_law_238 : decode cL_law 238 = .ok (.invokevirtual 13, 3) := by decide +kernel
theorem dL_law_241 : decode cL_law 241 = .ok (.aload_n 2, 1) := by decide +kernel
theorem dL_law_242 : decode cL_law 242 = .ok (.aload_n 0, 1) := by decide +kernel
theorem dL_law_243 : decode cL_law 243 = .ok (.iload_n 3, 1) := by decide +kernel
theorem dL_law_244 : decode cL_law 244 = .ok (.iconst 1, 1) := by decide +kernel
theorem dL_law_245 : decode cL_law 245 = .ok (.iadd, 1) := by decide +kernel
theorem dL_law_246 : decode cL_law 246 = .ok (.iaload, 1) := by decide +kernel
theorem dL_law_247 : decode cL_law 247 = .ok (.aload_n 0, 1) := by decide +kernel
theorem dL_law_248 : decode cL_law 248 = .ok (.iload_n 3, 1) := by decide +kernel
theorem dL_law_249 : decode cL_law 249 = .ok (.iconst 2, 1) := by decide +kernel
theorem dL_law_250 : decode cL_law 250 = .ok (.iadd, 1) := by decide +kernel
theorem dL_law_251 : decode cL_law 251 = .ok (.iaload, 1) := by decide +kernel
theorem dL_law_252 : decode cL_law 252 = .ok (.aload_n 0, 1) := by decide +kernel
theorem dL_law_253 : decode cL_law 253 = .ok (.iload_n 3, 1) := by decide +kernel
theorem dL_law_254 : decode cL_law 254 = .ok (.iconst 3, 1) := by decide +kernel
theorem dL_law_255 : decode cL_law 255 = .ok (.iadd, 1) := by decide +kernel
theorem dL_law_256 : decode cL_law 256 = .ok (.iaload, 1) := by decide +kernel
theorem dL_law_257 : decode cL_law 257 = .ok (.aload_n 0, 1) := by decide +kernel
theorem dL_law_258 : decode cL_law 258 = .ok (.iload_n 3, 1) := by decide +kernel
theorem dL_law_259 : decode cL_law 259 = .ok (.iconst 4, 1) := by decide +kernel
theorem dL_law_260 : decode cL_law 260 = .ok (.iadd, 1) := by decide +kernel
theorem dL_law_261 : decode cL_law 261 = .ok (.iaload, 1) := by decide +kernel
theorem dL_law_262 : decode cL_law 262 = .ok (.aload_n 0, 1) := by decide +kernel
theorem dL_law_263 : decode cL_law 263 = .ok (.iload_n 3, 1) := by decide +kernel
theorem dL_law_264 : decode cL_law 264 = .ok (.iconst 5, 1) := by decide +kernel
theorem dL_law_265 : decode cL_law 265 = .ok (.iadd, 1) := by decide +kernel
theorem dL_law_266 : decode cL_law 266 = .ok (.iaload, 1) := by decide +kernel
theorem dL_law_267 : decode cL_law 267 = .ok (.invokevirtual 17, 3) := by decide +kernel
theorem dL_law_270 : decode cL_law 270 = .ok (.if_icmp .eq 1157, 3) := by decide +kernel
theorem dL_law_273 : decode cL_law 273 = .ok (.iconst 0, 1) := by decide +kernel
theorem dL_law_274 : decode cL_law 274 = .ok (.ireturn, 1) := by decide +kernel
theorem dL_law_275 : decode cL_law 275 = .ok (.aload_n 1, 1) := by decide +kernel
theorem dL_law_276 : decode cL_law 276 = .ok (.aload_n 0, 1) := by decide +kernel
theorem dL_law_277 : decode cL_law 277 = .ok (.iload_n 3, 1) := by decide +kernel
theorem dL_law_278 : decode cL_law 278 = .ok (.iconst 1, 1) := by decide +kernel
theorem dL_law_279 : decode cL_law 279 = .ok (.iadd, 1) := by decide +kernel
theorem dL_law_280 : decode cL_law 280 = .ok (.iaload, 1) := by decide +kernel
theorem dL_law_281 : decode cL_law 281 = .ok (.invokevirtual 18, 3) := by decide +kernel
theorem dL_law_284 : decode cL_law 284 = .ok (.aload_n 2, 1) := by decide +kernel
theorem dL_law_285 : decode cL_law 285 = .ok (.aload_n 0, 1) := by decide +kernel
theorem dL_law_286 : decode cL_law 286 = .ok (.iload_n 3, 1) := by decide +kernel
theorem dL_law_287 : decode cL_law 287 = .ok (.iconst 1, 1) := by decide +kernel
theorem dL_law_288 : decode cL_law 288 = .ok (.iadd, 1) := by decide +kernel
theorem dL_law_289 : decode cL_law 289 = .ok (.iaload, 1) := by decide +kernel
theorem dL_law_290 : decode cL_law 290 = .ok (.invokevirtual 22, 3) := by decide +kernel
theorem dL_law_293 : decode cL_law 293 = .ok (.if_icmp .eq 1134, 3) := by decide +kernel
theorem dL_law_296 : decode cL_law 296 = .ok (.iconst 0, 1) := by decide +kernel
theorem dL_law_297 : decode cL_law 297 = .ok (.ireturn, 1) := by decide +kernel
theorem dL_law_298 : decode cL_law 298 = .ok (.aload_n 1, 1) := by decide +kernel
theorem dL_law_299 : decode cL_law 299 = .ok (.invokevirtual 23, 3) := by decide +kernel
theorem dL_law_302 : decode cL_law 302 = .ok (.aload_n 2, 1) := by decide +kernel
theorem dL_law_303 : decode cL_law 303 = .ok (.invokevirtual 27, 3) := by decide +kernel
theorem dL_law_306 : decode cL_law 306 = .ok (.if_icmp .eq 1121, 3) := by decide +kernel
theorem dL_law_309 : decode cL_law 309 = .ok (.iconst 0, 1) := by decide +kernel
theorem dL_law_310 : decode cL_law 310 = .ok (.ireturn, 1) := by decide +kernel
theorem dL_law_311 : decode cL_law 311 = .ok (.aload_n 1, 1) := by decide +kernel
theorem dL_law_312 : decode cL_law 312 = .ok (.aload_n 0, 1) := by decide +kernel
theorem dL_law_313 : decode cL_law 313 = .ok (.iload_n 3, 1) := by decide +kernel
theorem dL_law_314 : decode cL_law 314 = .ok (.iconst 1, 1) := by decide +kernel
theorem dL_law_315 : decode cL_law 315 = .ok (.iadd, 1) := by decide +kernel
theorem dL_law_316 : decode cL_law 316 = .ok (.iaload, 1) := by decide +kernel
theorem dL_law_317 : decode cL_law 317 = .ok (.invokevirtual 28, 3) := by decide +kernel
theorem dL_law_320 : decode cL_law 320 = .ok (.aload_n 2, 1) := by decide +kernel
theorem dL_law_321 : decode cL_law 321 = .ok (.aload_n 0, 1) := by decide +kernel
theorem dL_law_322 : decode cL_law 322 = .ok (.iload_n 3, 1) := by decide +kernel
theorem dL_law_323 : decode cL_law 323 = .ok (.iconst 1, 1) := by decide +kernel
theorem dL_law_324 : decode cL_law 324 = .ok (.iadd, 1) := by decide +kernel
theorem dL_law_325 : decode cL_law 325 = .ok (.iaload, 1) := by decide +kernel
theorem dL_law_326 : decode cL_law 326 = .ok (.invokevirtual 31, 3) := by decide +kernel
theorem dL_law_329 : decode cL_law 329 = .ok (.if_icmp .eq 1098, 3) := by decide +kernel
theorem dL_law_332 : decode cL_law 332 = .ok (.iconst 0, 1) := by decide +kernel
theorem dL_law_333 : decode cL_law 333 = .ok (.ireturn, 1) := by decide +kernel
theorem dL_law_334 : decode cL_law 334 = .ok (.aload_n 1, 1) := by decide +kernel
theorem dL_law_335 : decode cL_law 335 = .ok (.aload_n 0, 1) := by decide +kernel
theorem dL_law_336 : decode cL_law 336 = .ok (.iload_n 3, 1) := by decide +kernel
theorem dL_law_337 : decode cL_law 337 = .ok (.iconst 1, 1) := by decide +kernel
theorem dL_law_338 : decode cL_law 338 = .ok (.iadd, 1) := by decide +kernel
theorem dL_law_339 : decode cL_law 339 = .ok (.iaload, 1) := by decide +kernel
theorem dL_law_340 : decode cL_law 340 = .ok (.aload_n 0, 1) := by decide +kernel
theorem dL_law_341 : decode cL_law 341 = .ok (.iload_n 3, 1) := by decide +kernel
theorem dL_law_342 : decode cL_law 342 = .ok (.iconst 2, 1) := by decide +kernel
theorem dL_law_343 : decode cL_law 343 = .ok (.iadd, 1) := by decide +kernel
theorem dL_law_344 : decode cL_law 344 = .ok (.iaload, 1) := by decide +kernel
theorem dL_law_345 : decode cL_law 345 = .ok (.invokevirtual 32, 3) := by decide +kernel
theorem dL_law_348 : decode cL_law 348 = .ok (.aload_n 2, 1) := by decide +kernel
theorem dL_law_349 : decode cL_law 349 = .ok (.aload_n 0, 1) := by decide +kernel
theorem dL_law_350 : decode cL_law 350 = .ok (.iload_n 3, 1) := by decide +kernel
theorem dL_law_351 : decode cL_law 351 = .ok (.iconst 1, 1) := by decide +kernel
theorem dL_law_352 : decode cL_law 352 = .ok (.iadd, 1) := by decide +kernel
theorem dL_law_353 : decode cL_law 353 = .ok (.iaload, 1) := by decide +kernel
theorem dL_law_354 : decode cL_law 354 = .ok (.aload_n 0, 1) := by decide +kernel
theorem dL_law_355 : decode cL_law 355 = .ok (.iload_n 3, 1) := by decide +kernel
theorem dL_law_356 : decode cL_law 356 = .ok (.iconst 2, 1) := by decide +kernel
theorem dL_law_357 : decode cL_law 357 = .ok (.iadd, 1) := by decide +kernel
theorem dL_law_358 : decode cL_law 358 = .ok (.iaload, 1) := by decide +kernel
theorem dL_law_359 : decode cL_law 359 = .ok (.invokevirtual 36, 3) := by decide +kernel
theorem dL_law_362 : decode cL_law 362 = .ok (.if_icmp .eq 1065, 3) := by decide +kernel
theorem dL_law_365 : decode cL_law 365 = .ok (.iconst 0, 1) := by decide +kernel
theorem dL_law_366 : decode cL_law 366 = .ok (.ireturn, 1) := by decide +kernel
theorem dL_law_367 : decode cL_law 367 = .ok (.aload_n 1, 1) := by decide +kernel
theorem dL_law_368 : decode cL_law 368 = .ok (.aload_n 0, 1) := by decide +kernel
theorem dL_law_369 : decode cL_law 369 = .ok (.iload_n 3, 1) := by decide +kernel
theorem dL_law_370 : decode cL_law 370 = .ok (.iconst 1, 1) := by decide +kernel
theorem dL_law_371 : decode cL_law 371 = .ok (.iadd, 1) := by decide +kernel
theorem dL_law_372 : decode cL_law 372 = .ok (.iaload, 1) := by decide +kernel
theorem dL_law_373 : decode cL_law 373 = .ok (.aload_n 0, 1) := by decide +kernel
theorem dL_law_374 : decode cL_law 374 = .ok (.iload_n 3, 1) := by decide +kernel
theorem dL_law_375 : decode cL_law 375 = .ok (.iconst 2, 1) := by decide +kernel
theorem dL_law_376 : decode cL_law 376 = .ok (.iadd, 1) := by decide +kernel
theorem dL_law_377 : decode cL_law 377 = .ok (.iaload, 1) := by decide +kernel
theorem dL_law_378 : decode cL_law 378 = .ok (.invokevirtual 37, 3) := by decide +kernel
theorem dL_law_381 : decode cL_law 381 = .ok (.aload_n 2, 1) := by decide +kernel
theorem dL_law_382 : decode cL_law 382 = .ok (.aload_n 0, 1) := by decide +kernel
theorem dL_law_383 : decode cL_law 383 = .ok (.iload_n 3, 1) := by decide +kernel
theorem dL_law_384 : decode cL_law 384 = .ok (.iconst 1, 1) := by decide +kernel
theorem dL_law_385 : decode cL_law 385 = .ok (.iadd, 1) := by decide +kernel
theorem dL_law_386 : decode cL_law 386 = .ok (.iaload, 1) := by decide +kernel
theorem dL_law_387 : decode cL_law 387 = .ok (.aload_n 0, 1) := by decide +kernel
theorem dL_law_388 : decode cL_law 388 = .ok (.iload_n 3, 1) := by decide +kernel
theorem dL_law_389 : decode cL_law 389 = .ok (.iconst 2, 1) := by decide +kernel
theorem dL_law_390 : decode cL_law 390 = .ok (.iadd, 1) := by decide +kernel
theorem dL_law_391 : decode cL_law 391 = .ok (.iaload, 1) := by decide +kernel
theorem dL_law_392 : decode cL_law 392 = .ok (.invokevirtual 40, 3) := by decide +kernel
theorem dL_law_395 : decode cL_law 395 = .ok (.if_icmp .eq 1032, 3) := by decide +kernel
theorem dL_law_398 : decode cL_law 398 = .ok (.iconst 0, 1) := by decide +kernel
theorem dL_law_399 : decode cL_law 399 = .ok (.ireturn, 1) := by decide +kernel
theorem dL_law_400 : decode cL_law 400 = .ok (.aload_n 1, 1) := by decide +kernel
theorem dL_law_401 : decode cL_law 401 = .ok (.aload_n 0, 1) := by decide +kernel
theorem dL_law_402 : decode cL_law 402 = .ok (.iload_n 3, 1) := by decide +kernel
theorem dL_law_403 : decode cL_law 403 = .ok (.iconst 1, 1) := by decide +kernel
theorem dL_law_404 : decode cL_law 404 = .ok (.iadd, 1) := by decide +kernel
theorem dL_law_405 : decode cL_law 405 = .ok (.iaload, 1) := by decide +kernel
theorem dL_law_406 : decode cL_law 406 = .ok (.aload_n 0, 1) := by decide +kernel
theorem dL_law_407 : decode cL_law 407 = .ok (.iload_n 3, 1) := by decide +kernel
theorem dL_law_408 : decode cL_law 408 = .ok (.iconst 2, 1) := by decide +kernel
theorem dL_law_409 : decode cL_law 409 = .ok (.iadd, 1) := by decide +kernel
theorem dL_law_410 : decode cL_law 410 = .ok (.iaload, 1) := by decide +kernel
theorem dL_law_411 : decode cL_law 411 = .ok (.invokevirtual 41, 3) := by decide +kernel
theorem dL_law_414 : decode cL_law 414 = .ok (.aload_n 2, 1) := by decide +kernel
theorem dL_law_415 : decode cL_law 415 = .ok (.aload_n 0, 1) := by decide +kernel
theorem dL_law_416 : decode cL_law 416 = .ok (.iload_n 3, 1) := by decide +kernel
theorem dL_law_417 : decode cL_law 417 = .ok (.iconst 1, 1) := by decide +kernel
theorem dL_law_418 : decode cL_law 418 = .ok (.iadd, 1) := by decide +kernel
theorem dL_law_419 : decode cL_law 419 = .ok (.iaload, 1) := by decide +kernel
theorem dL_law_420 : decode cL_law 420 = .ok (.aload_n 0, 1) := by decide +kernel
theorem dL_law_421 : decode cL_law 421 = .ok (.iload_n 3, 1) := by decide +kernel
theorem dL_law_422 : decode cL_law 422 = .ok (.iconst 2, 1) := by decide +kernel
theorem dL_law_423 : decode cL_law 423 = .ok (.iadd, 1) := by decide +kernel
theorem dL_law_424 : decode cL_law 424 = .ok (.iaload, 1) := by decide +kernel
theorem dL_law_425 : decode cL_law 425 = .ok (.invokevirtual 44, 3) := by decide +kernel
theorem dL_law_428 : decode cL_law 428 = .ok (.if_icmp .eq 999, 3) := by decide +kernel
theorem dL_law_431 : decode cL_law 431 = .ok (.iconst 0, 1) := by decide +kernel
theorem dL_law_432 : decode cL_law 432 = .ok (.ireturn, 1) := by decide +kernel
theorem dL_law_433 : decode cL_law 433 = .ok (.aload_n 1, 1) := by decide +kernel
theorem dL_law_434 : decode cL_law 434 = .ok (.aload_n 0, 1) := by decide +kernel
theorem dL_law_435 : decode cL_law 435 = .ok (.iload_n 3, 1) := by decide +kernel
theorem dL_law_436 : decode cL_law 436 = .ok (.iconst 1, 1) := by decide +kernel
theorem dL_law_437 : decode cL_law 437 = .ok (.iadd, 1) := by decide +kernel
theorem dL_law_438 : decode cL_law 438 = .ok (.iaload, 1) := by decide +kernel
theorem dL_law_439 : decode cL_law 439 = .ok (.aload_n 0, 1) := by decide +kernel
theorem dL_law_440 : decode cL_law 440 = .ok (.iload_n 3, 1) := by decide +kernel
theorem dL_law_441 : decode cL_law 441 = .ok (.iconst 2, 1) := by decide +kernel
theorem dL_law_442 : decode cL_law 442 = .ok (.iadd, 1) := by decide +kernel
theorem dL_law_443 : decode cL_law 443 = .ok (.iaload, 1) := by decide +kernel
theorem dL_law_444 : decode cL_law 444 = .ok (.invokevirtual 45, 3) := by decide +kernel
theorem dL_law_447 : decode cL_law 447 = .ok (.aload_n 2, 1) := by decide +kernel
theorem dL_law_448 : decode cL_law 448 = .ok (.aload_n 0, 1) := by decide +kernel
theorem dL_law_449 : decode cL_law 449 = .ok (.iload_n 3, 1) := by decide +kernel
theorem dL_law_450 : decode cL_law 450 = .ok (.iconst 1, 1) := by decide +kernel
theorem dL_law_451 : decode cL_law 451 = .ok (.iadd, 1) := by decide +kernel
theorem dL_law_452 : decode cL_law 452 = .ok (.iaload, 1) := by decide +kernel
theorem dL_law_453 : decode cL_law 453 = .ok (.aload_n 0, 1) := by decide +kernel
theorem dL_law_454 : decode cL_law 454 = .ok (.iload_n 3, 1) := by decide +kernel
theorem dL_law_455 : decode cL_law 455 = .ok (.iconst 2, 1) := by decide +kernel
theorem dL_law_456 : decode cL_law 456 = .ok (.iadd, 1) := by decide +kernel
theorem dL_law_457 : decode cL_law 457 = .ok (.iaload, 1) := by decide +kernel
theorem dL_law_458 : decode cL_law 458 = .ok (.invokevirtual 48, 3) := by decide +kernel
theorem dL_law_461 : decode cL_law 461 = .ok (.if_icmp .eq 966, 3) := by decide +kernel
theorem dL_law_464 : decode cL_law 464 = .ok (.iconst 0, 1) := by decide +kernel
theorem dL_law_465 : decode cL_law 465 = .ok (.ireturn, 1) := by decide +kernel
theorem dL_law_466 : decode cL_law 466 = .ok (.aload_n 1, 1) := by decide +kernel
theorem dL_law_467 : decode cL_law 467 = .ok (.aload_n 0, 1) := by decide +kernel
theorem dL_law_468 : decode cL_law 468 = .ok (.iload_n 3, 1) := by decide +kernel
theorem dL_law_469 : decode cL_law 469 = .ok (.iconst 1, 1) := by decide +kernel
theorem dL_law_470 : decode cL_law 470 = .ok (.iadd, 1) := by decide +kernel
theorem dL_law_471 : decode cL_law 471 = .ok (.iaload, 1) := by decide +kernel
theorem dL_law_472 : decode cL_law 472 = .ok (.aload_n 0, 1) := by decide +kernel
theorem dL_law_473 : decode cL_law 473 = .ok (.iload_n 3, 1) := by decide +kernel
theorem dL_law_474 : decode cL_law 474 = .ok (.iconst 2, 1) := by decide +kernel
theorem dL_law_475 : decode cL_law 475 = .ok (.iadd, 1) := by decide +kernel
theorem dL_law_476 : decode cL_law 476 = .ok (.iaload, 1) := by decide +kernel
theorem dL_law_477 : decode cL_law 477 = .ok (.invokevirtual 49, 3) := by decide +kernel
theorem dL_law_480 : decode cL_law 480 = .ok (.aload_n 2, 1) := by decide +kernel
theorem dL_law_481 : decode cL_law 481 = .ok (.aload_n 0, 1) := by decide +kernel
theorem dL_law_482 : decode cL_law 482 = .ok (.iload_n 3, 1) := by decide +kernel
theorem dL_law_483 : decode cL_law 483 = .ok (.iconst 1, 1) := by decide +kernel
theorem dL_law_484 : decode cL_law 484 = .ok (.iadd, 1) := by decide +kernel
theorem dL_law_485 : decode cL_law 485 = .ok (.iaload, 1) := by decide +kernel
theorem dL_law_486 : decode cL_law 486 = .ok (.aload_n 0, 1) := by decide +kernel
theorem dL_law_487 : decode cL_law 487 = .ok (.iload_n 3, 1) := by decide +kernel
theorem dL_law_488 : decode cL_law 488 = .ok (.iconst 2, 1) := by decide +kernel
theorem dL_law_489 : decode cL_law 489 = .ok (.iadd, 1) := by decide +kernel
theorem dL_law_490 : decode cL_law 490 = .ok (.iaload, 1) := by decide +kernel
theorem dL_law_491 : decode cL_law 491 = .ok (.invokevirtual 52, 3) := by decide +kernel
theorem dL_law_494 : decode cL_law 494 = .ok (.if_icmp .eq 933, 3) := by decide +kernel
theorem dL_law_497 : decode cL_law 497 = .ok (.iconst 0, 1) := by decide +kernel
theorem dL_law_498 : decode cL_law 498 = .ok (.ireturn, 1) := by decide +kernel
theorem dL_law_499 : decode cL_law 499 = .ok (.aload_n 1, 1) := by decide +kernel
theorem dL_law_500 : decode cL_law 500 = .ok (.aload_n 0, 1) := by decide +kernel
theorem dL_law_501 : decode cL_law 501 = .ok (.iload_n 3, 1) := by decide +kernel
theorem dL_law_502 : decode cL_law 502 = .ok (.iconst 1, 1) := by decide +kernel
theorem dL_law_503 : decode cL_law 503 = .ok (.iadd, 1) := by decide +kernel
theorem dL_law_504 : decode cL_law 504 = .ok (.iaload, 1) := by decide +kernel
theorem dL_law_505 : decode cL_law 505 = .ok (.invokevirtual 53, 3) := by decide +kernel
theorem dL_law_508 : decode cL_law 508 = .ok (.aload_n 2, 1) := by decide +kernel
theorem dL_law_509 : decode cL_law 509 = .ok (.aload_n 0, 1) := by decide +kernel
theorem dL_law_510 : decode cL_law 510 = .ok (.iload_n 3, 1) := by decide +kernel
theorem dL_law_511 : decode cL_law 511 = .ok (.iconst 1, 1) := by decide +kernel
theorem dL_law_512 : decode cL_law 512 = .ok (.iadd, 1) := by decide +kernel
theorem dL_law_513 : decode cL_law 513 = .ok (.iaload, 1) := by decide +kernel
theorem dL_law_514 : decode cL_law 514 = .ok (.invokevirtual 56, 3) := by decide +kernel
theorem dL_law_517 : decode cL_law 517 = .ok (.if_icmp .eq 910, 3) := by decide +kernel
theorem dL_law_520 : decode cL_law 520 = .ok (.iconst 0, 1) := by decide +kernel
theorem dL_law_521 : decode cL_law 521 = .ok (.ireturn, 1) := by decide +kernel
theorem dL_law_522 : decode cL_law 522 = .ok (.aload_n 1, 1) := by decide +kernel
theorem dL_law_523 : decode cL_law 523 = .ok (.aload_n 0, 1) := by decide +kernel
theorem dL_law_524 : decode cL_law 524 = .ok (.iload_n 3, 1) := by decide +kernel
theorem dL_law_525 : decode cL_law 525 = .ok (.iconst 1, 1) := by decide +kernel
theorem dL_law_526 : decode cL_law 526 = .ok (.iadd, 1) := by decide +kernel
theorem dL_law_527 : decode cL_law 527 = .ok (.iaload, 1) := by decide +kernel
theorem dL_law_528 : decode cL_law 528 = .ok (.aload_n 0, 1) := by decide +kernel
theorem dL_law_529 : decode cL_law 529 = .ok (.iload_n 3, 1) := by decide +kernel
theorem dL_law_530 : decode cL_law 530 = .ok (.iconst 2, 1) := by decide +kernel
theorem dL_law_531 : decode cL_law 531 = .ok (.iadd, 1) := by decide +kernel
theorem dL_law_532 : decode cL_law 532 = .ok (.iaload, 1) := by decide +kernel
theorem dL_law_533 : decode cL_law 533 = .ok (.aload_n 0, 1) := by decide +kernel
theorem dL_law_534 : decode cL_law 534 = .ok (.iload_n 3, 1) := by decide +kernel
theorem dL_law_535 : decode cL_law 535 = .ok (.iconst 3, 1) := by decide +kernel
theorem dL_law_536 : decode cL_law 536 = .ok (.iadd, 1) := by decide +kernel
theorem dL_law_537 : decode cL_law 537 = .ok (.iaload, 1) := by decide +kernel
theorem dL_law_538 : decode cL_law 538 = .ok (.invokevirtual 57, 3) := by decide +kernel
theorem dL_law_541 : decode cL_law 541 = .ok (.aload_n 2, 1) := by decide +kernel
theorem dL_law_542 : decode cL_law 542 = .ok (.aload_n 0, 1) := by decide +kernel
theorem dL_law_543 : decode cL_law 543 = .ok (.iload_n 3, 1) := by decide +kernel
theorem dL_law_544 : decode cL_law 544 = .ok (.iconst 1, 1) := by decide +kernel
theorem dL_law_545 : decode cL_law 545 = .ok (.iadd, 1) := by decide +kernel
theorem dL_law_546 : decode cL_law 546 = .ok (.iaload, 1) := by decide +kernel
theorem dL_law_547 : decode cL_law 547 = .ok (.aload_n 0, 1) := by decide +kernel
theorem dL_law_548 : decode cL_law 548 = .ok (.iload_n 3, 1) := by decide +kernel
theorem dL_law_549 : decode cL_law 549 = .ok (.iconst 2, 1) := by decide +kernel
theorem dL_law_550 : decode cL_law 550 = .ok (.iadd, 1) := by decide +kernel
theorem dL_law_551 : decode cL_law 551 = .ok (.iaload, 1) := by decide +kernel
theorem dL_law_552 : decode cL_law 552 = .ok (.aload_n 0, 1) := by decide +kernel
theorem dL_law_553 : decode cL_law 553 = .ok (.iload_n 3, 1) := by decide +kernel
theorem dL_law_554 : decode cL_law 554 = .ok (.iconst 3, 1) := by decide +kernel
theorem dL_law_555 : decode cL_law 555 = .ok (.iadd, 1) := by decide +kernel
theorem dL_law_556 : decode cL_law 556 = .ok (.iaload, 1) := by decide +kernel
theorem dL_law_557 : decode cL_law 557 = .ok (.invokevirtual 61, 3) := by decide +kernel
theorem dL_law_560 : decode cL_law 560 = .ok (.if_icmp .eq 867, 3) := by decide +kernel
theorem dL_law_563 : decode cL_law 563 = .ok (.iconst 0, 1) := by decide +kernel
theorem dL_law_564 : decode cL_law 564 = .ok (.ireturn, 1) := by decide +kernel
theorem dL_law_565 : decode cL_law 565 = .ok (.aload_n 1, 1) := by decide +kernel
theorem dL_law_566 : decode cL_law 566 = .ok (.aload_n 0, 1) := by decide +kernel
theorem dL_law_567 : decode cL_law 567 = .ok (.iload_n 3, 1) := by decide +kernel
theorem dL_law_568 : decode cL_law 568 = .ok (.iconst 1, 1) := by decide +kernel
theorem dL_law_569 : decode cL_law 569 = .ok (.iadd, 1) := by decide +kernel
theorem dL_law_570 : decode cL_law 570 = .ok (.iaload, 1) := by decide +kernel
theorem dL_law_571 : decode cL_law 571 = .ok (.aload_n 0, 1) := by decide +kernel
theorem dL_law_572 : decode cL_law 572 = .ok (.iload_n 3, 1) := by decide +kernel
theorem dL_law_573 : decode cL_law 573 = .ok (.iconst 2, 1) := by decide +kernel
theorem dL_law_574 : decode cL_law 574 = .ok (.iadd, 1) := by decide +kernel
theorem dL_law_575 : decode cL_law 575 = .ok (.iaload, 1) := by decide +kernel
theorem dL_law_576 : decode cL_law 576 = .ok (.aload_n 0, 1) := by decide +kernel
theorem dL_law_577 : decode cL_law 577 = .ok (.iload_n 3, 1) := by decide +kernel
theorem dL_law_578 : decode cL_law 578 = .ok (.iconst 3, 1) := by decide +kernel
theorem dL_law_579 : decode cL_law 579 = .ok (.iadd, 1) := by decide +kernel
theorem dL_law_580 : decode cL_law 580 = .ok (.iaload, 1) := by decide +kernel
theorem dL_law_581 : decode cL_law 581 = .ok (.aload_n 0, 1) := by decide +kernel
theorem dL_law_582 : decode cL_law 582 = .ok (.iload_n 3, 1) := by decide +kernel
theorem dL_law_583 : decode cL_law 583 = .ok (.iconst 4, 1) := by decide +kernel
theorem dL_law_584 : decode cL_law 584 = .ok (.iadd, 1) := by decide +kernel
theorem dL_law_585 : decode cL_law 585 = .ok (.iaload, 1) := by decide +kernel
theorem dL_law_586 : decode cL_law 586 = .ok (.invokevirtual 62, 3) := by decide +kernel
theorem dL_law_589 : decode cL_law 589 = .ok (.aload_n 2, 1) := by decide +kernel
theorem dL_law_590 : decode cL_law 590 = .ok (.aload_n 0, 1) := by decide +kernel
theorem dL_law_591 : decode cL_law 591 = .ok (.iload_n 3, 1) := by decide +kernel
theorem dL_law_592 : decode cL_law 592 = .ok (.iconst 1, 1) := by decide +kernel
theorem dL_law_593 : decode cL_law 593 = .ok (.iadd, 1) := by decide +kernel
theorem dL_law_594 : decode cL_law 594 = .ok (.iaload, 1) := by decide +kernel
theorem dL_law_595 : decode cL_law 595 = .ok (.aload_n 0, 1) := by decide +kernel
theorem dL_law_596 : decode cL_law 596 = .ok (.iload_n 3, 1) := by decide +kernel
theorem dL_law_597 : decode cL_law 597 = .ok (.iconst 2, 1) := by decide +kernel
theorem dL_law_598 : decode cL_law 598 = .ok (.iadd, 1) := by decide +kernel
theorem dL_law_599 : decode cL_law 599 = .ok (.iaload, 1) := by decide +kernel
theorem dL_law_600 : decode cL_law 600 = .ok (.aload_n 0, 1) := by decide +kernel
theorem dL_law_601 : decode cL_law 601 = .ok (.iload_n 3, 1) := by decide +kernel
theorem dL_law_602 : decode cL_law 602 = .ok (.iconst 3, 1) := by decide +kernel
theorem dL_law_603 : decode cL_law 603 = .ok (.iadd, 1) := by decide +kernel
theorem dL_law_604 : decode cL_law 604 = .ok (.iaload, 1) := by decide +kernel
theorem dL_law_605 : decode cL_law 605 = .ok (.aload_n 0, 1) := by decide +kernel
theorem dL_law_606 : decode cL_law 606 = .ok (.iload_n 3, 1) := by decide +kernel
theorem dL_law_607 : decode cL_law 607 = .ok (.iconst 4, 1) := by decide +kernel
theorem dL_law_608 : decode cL_law 608 = .ok (.iadd, 1) := by decide +kernel
theorem dL_law_609 : decode cL_law 609 = .ok (.iaload, 1) := by decide +kernel
theorem dL_law_610 : decode cL_law 610 = .ok (.invokevirtual 66, 3) := by decide +kernel
theorem dL_law_613 : decode cL_law 613 = .ok (.if_icmp .eq 814, 3) := by decide +kernel
theorem dL_law_616 : decode cL_law 616 = .ok (.iconst 0, 1) := by decide +kernel
theorem dL_law_617 : decode cL_law 617 = .ok (.ireturn, 1) := by decide +kernel
theorem dL_law_618 : decode cL_law 618 = .ok (.aload_n 1, 1) := by decide +kernel
theorem dL_law_619 : decode cL_law 619 = .ok (.aload_n 0, 1) := by decide +kernel
theorem dL_law_620 : decode cL_law 620 = .ok (.iload_n 3, 1) := by decide +kernel
theorem dL_law_621 : decode cL_law 621 = .ok (.iconst 1, 1) := by decide +kernel
theorem dL_law_622 : decode cL_law 622 = .ok (.iadd, 1) := by decide +kernel
theorem dL_law_623 : decode cL_law 623 = .ok (.iaload, 1) := by decide +kernel
theorem dL_law_624 : decode cL_law 624 = .ok (.aload_n 0, 1) := by decide +kernel
theorem dL_law_625 : decode cL_law 625 = .ok (.iload_n 3, 1) := by decide +kernel
theorem dL_law_626 : decode cL_law 626 = .ok (.iconst 2, 1) := by decide +kernel
theorem dL_law_627 : decode cL_law 627 = .ok (.iadd, 1) := by decide +kernel
theorem dL_law_628 : decode cL_law 628 = .ok (.iaload, 1) := by decide +kernel
theorem dL_law_629 : decode cL_law 629 = .ok (.aload_n 0, 1) := by decide +kernel
theorem dL_law_630 : decode cL_law 630 = .ok (.iload_n 3, 1) := by decide +kernel
theorem dL_law_631 : decode cL_law 631 = .ok (.iconst 3, 1) := by decide +kernel
theorem dL_law_632 : decode cL_law 632 = .ok (.iadd, 1) := by decide +kernel
theorem dL_law_633 : decode cL_law 633 = .ok (.iaload, 1) := by decide +kernel
theorem dL_law_634 : decode cL_law 634 = .ok (.invokevirtual 67, 3) := by decide +kernel
theorem dL_law_637 : decode cL_law 637 = .ok (.aload_n 2, 1) := by decide +kernel
theorem dL_law_638 : decode cL_law 638 = .ok (.aload_n 0, 1) := by decide +kernel
theorem dL_law_639 : decode cL_law 639 = .ok (.iload_n 3, 1) := by decide +kernel
theorem dL_law_640 : decode cL_law 640 = .ok (.iconst 1, 1) := by decide +kernel
theorem dL_law_641 : decode cL_law 641 = .ok (.iadd, 1) := by decide +kernel
theorem dL_law_642 : decode cL_law 642 = .ok (.iaload, 1) := by decide +kernel
theorem dL_law_643 : decode cL_law 643 = .ok (.aload_n 0, 1) := by decide +kernel
theorem dL_law_644 : decode cL_law 644 = .ok (.iload_n 3, 1) := by decide +kernel
theorem dL_law_645 : decode cL_law 645 = .ok (.iconst 2, 1) := by decide +kernel
theorem dL_law_646 : decode cL_law 646 = .ok (.iadd, 1) := by decide +kernel
theorem dL_law_647 : decode cL_law 647 = .ok (.iaload, 1) := by decide +kernel
theorem dL_law_648 : decode cL_law 648 = .ok (.aload_n 0, 1) := by decide +kernel
theorem dL_law_649 : decode cL_law 649 = .ok (.iload_n 3, 1) := by decide +kernel
theorem dL_law_650 : decode cL_law 650 = .ok (.iconst 3, 1) := by decide +kernel
theorem dL_law_651 : decode cL_law 651 = .ok (.iadd, 1) := by decide +kernel
theorem dL_law_652 : decode cL_law 652 = .ok (.iaload, 1) := by decide +kernel
theorem dL_law_653 : decode cL_law 653 = .ok (.invokevirtual 70, 3) := by decide +kernel
theorem dL_law_656 : decode cL_law 656 = .ok (.if_icmp .eq 771, 3) := by decide +kernel
theorem dL_law_659 : decode cL_law 659 = .ok (.iconst 0, 1) := by decide +kernel
theorem dL_law_660 : decode cL_law 660 = .ok (.ireturn, 1) := by decide +kernel
theorem dL_law_661 : decode cL_law 661 = .ok (.aload_n 1, 1) := by decide +kernel
theorem dL_law_662 : decode cL_law 662 = .ok (.invokevirtual 71, 3) := by decide +kernel
theorem dL_law_665 : decode cL_law 665 = .ok (.aload_n 2, 1) := by decide +kernel
theorem dL_law_666 : decode cL_law 666 = .ok (.invokevirtual 74, 3) := by decide +kernel
theorem dL_law_669 : decode cL_law 669 = .ok (.if_icmp .eq 758, 3) := by decide +kernel
theorem dL_law_672 : decode cL_law 672 = .ok (.iconst 0, 1) := by decide +kernel
theorem dL_law_673 : decode cL_law 673 = .ok (.ireturn, 1) := by decide +kernel
theorem dL_law_674 : decode cL_law 674 = .ok (.aload_n 1, 1) := by decide +kernel
theorem dL_law_675 : decode cL_law 675 = .ok (.invokevirtual 75, 3) := by decide +kernel
theorem dL_law_678 : decode cL_law 678 = .ok (.aload_n 2, 1) := by decide +kernel
theorem dL_law_679 : decode cL_law 679 = .ok (.invokevirtual 79, 3) := by decide +kernel
theorem dL_law_682 : decode cL_law 682 = .ok (.if_icmp .eq 745, 3) := by decide +kernel
theorem dL_law_685 : decode cL_law 685 = .ok (.iconst 0, 1) := by decide +kernel
theorem dL_law_686 : decode cL_law 686 = .ok (.ireturn, 1) := by decide +kernel
theorem dL_law_687 : decode cL_law 687 = .ok (.aload_n 1, 1) := by decide +kernel
theorem dL_law_688 : decode cL_law 688 = .ok (.invokevirtual 80, 3) := by decide +kernel
theorem dL_law_691 : decode cL_law 691 = .ok (.aload_n 2, 1) := by decide +kernel
theorem dL_law_692 : decode cL_law 692 = .ok (.invokevirtual 83, 3) := by decide +kernel
theorem dL_law_695 : decode cL_law 695 = .ok (.if_icmp .eq 732, 3) := by decide +kernel
theorem dL_law_698 : decode cL_law 698 = .ok (.iconst 0, 1) := by decide +kernel
theorem dL_law_699 : decode cL_law 699 = .ok (.ireturn, 1) := by decide +kernel
theorem dL_law_700 : decode cL_law 700 = .ok (.aload_n 1, 1) := by decide +kernel
theorem dL_law_701 : decode cL_law 701 = .ok (.aload_n 0, 1) := by decide +kernel
theorem dL_law_702 : decode cL_law 702 = .ok (.iload_n 3, 1) := by decide +kernel
theorem dL_law_703 : decode cL_law 703 = .ok (.iconst 1, 1) := by decide +kernel
theorem dL_law_704 : decode cL_law 704 = .ok (.iadd, 1) := by decide +kernel
theorem dL_law_705 : decode cL_law 705 = .ok (.iaload, 1) := by decide +kernel
theorem dL_law_706 : decode cL_law 706 = .ok (.aload_n 0, 1) := by decide +kernel
theorem dL_law_707 : decode cL_law 707 = .ok (.iload_n 3, 1) := by decide +kernel
theorem dL_law_708 : decode cL_law 708 = .ok (.iconst 2, 1) := by decide +kernel
theorem dL_law_709 : decode cL_law 709 = .ok (.iadd, 1) := by decide +kernel
theorem dL_law_710 : decode cL_law 710 = .ok (.iaload, 1) := by decide +kernel
theorem dL_law_711 : decode cL_law 711 = .ok (.invokevirtual 84, 3) := by decide +kernel
theorem dL_law_714 : decode cL_law 714 = .ok (.aload_n 2, 1) := by decide +kernel
theorem dL_law_715 : decode cL_law 715 = .ok (.aload_n 0, 1) := by decide +kernel
theorem dL_law_716 : decode cL_law 716 = .ok (.iload_n 3, 1) := by decide +kernel
theorem dL_law_717 : decode cL_law 717 = .ok (.iconst 1, 1) := by decide +kernel
theorem dL_law_718 : decode cL_law 718 = .ok (.iadd, 1) := by decide +kernel
theorem dL_law_719 : decode cL_law 719 = .ok (.iaload, 1) := by decide +kernel
theorem dL_law_720 : decode cL_law 720 = .ok (.aload_n 0, 1) := by decide +kernel
theorem dL_law_721 : decode cL_law 721 = .ok (.iload_n 3, 1) := by decide +kernel
theorem dL_law_722 : decode cL_law 722 = .ok (.iconst 2, 1) := by decide +kernel
theorem dL_law_723 : decode cL_law 723 = .ok (.iadd, 1) := by decide +kernel
theorem dL_law_724 : decode cL_law 724 = .ok (.iaload, 1) := by decide +kernel
theorem dL_law_725 : decode cL_law 725 = .ok (.invokevirtual 87, 3) := by decide +kernel
theorem dL_law_728 : decode cL_law 728 = .ok (.if_icmp .eq 699, 3) := by decide +kernel
theorem dL_law_731 : decode cL_law 731 = .ok (.iconst 0, 1) := by decide +kernel
theorem dL_law_732 : decode cL_law 732 = .ok (.ireturn, 1) := by decide +kernel
theorem dL_law_733 : decode cL_law 733 = .ok (.aload_n 1, 1) := by decide +kernel
theorem dL_law_734 : decode cL_law 734 = .ok (.aload_n 0, 1) := by decide +kernel
theorem dL_law_735 : decode cL_law 735 = .ok (.iload_n 3, 1) := by decide +kernel
theorem dL_law_736 : decode cL_law 736 = .ok (.iconst 1, 1) := by decide +kernel
theorem dL_law_737 : decode cL_law 737 = .ok (.iadd, 1) := by decide +kernel
theorem dL_law_738 : decode cL_law 738 = .ok (.iaload, 1) := by decide +kernel
theorem dL_law_739 : decode cL_law 739 = .ok (.invokevirtual 88, 3) := by decide +kernel
theorem dL_law_742 : decode cL_law 742 = .ok (.aload_n 2, 1) := by decide +kernel
theorem dL_law_743 : decode cL_law 743 = .ok (.aload_n 0, 1) := by decide +kernel
theorem dL_law_744 : decode cL_law 744 = .ok (.iload_n 3, 1) := by decide +kernel
theorem dL_law_745 : decode cL_law 745 = .ok (.iconst 1, 1) := by decide +kernel
theorem dL_law_746 : decode cL_law 746 = .ok (.iadd, 1) := by decide +kernel
theorem dL_law_747 : decode cL_law 747 = .ok (.iaload, 1) := by decide +kernel
theorem dL_law_748 : decode cL_law 748 = .ok (.invokevirtual 91, 3) := by decide +kernel
theorem dL_law_751 : decode cL_law 751 = .ok (.if_icmp .eq 676, 3) := by decide +kernel
theorem dL_law_754 : decode cL_law 754 = .ok (.iconst 0, 1) := by decide +kernel
theorem dL_law_755 : decode cL_law 755 = .ok (.ireturn, 1) := by decide +kernel
theorem dL_law_756 : decode cL_law 756 = .ok (.aload_n 1, 1) := by decide +kernel
theorem dL_law_757 : decode cL_law 757 = .ok (.aload_n 0, 1) := by decide +kernel
theorem dL_law_758 : decode cL_law 758 = .ok (.iload_n 3, 1) := by decide +kernel
theorem dL_law_759 : decode cL_law 759 = .ok (.iconst 1, 1) := by decide +kernel
theorem dL_law_760 : decode cL_law 760 = .ok (.iadd, 1) := by decide +kernel
theorem dL_law_761 : decode cL_law 761 = .ok (.iaload, 1) := by decide +kernel
theorem dL_law_762 : decode cL_law 762 = .ok (.aload_n 0, 1) := by decide +kernel
theorem dL_law_763 : decode cL_law 763 = .ok (.iload_n 3, 1) := by decide +kernel
theorem dL_law_764 : decode cL_law 764 = .ok (.iconst 2, 1) := by decide +kernel
theorem dL_law_765 : decode cL_law 765 = .ok (.iadd, 1) := by decide +kernel
theorem dL_law_766 : decode cL_law 766 = .ok (.iaload, 1) := by decide +kernel
theorem dL_law_767 : decode cL_law 767 = .ok (.invokevirtual 92, 3) := by decide +kernel
theorem dL_law_770 : decode cL_law 770 = .ok (.aload_n 2, 1) := by decide +kernel
theorem dL_law_771 : decode cL_law 771 = .ok (.aload_n 0, 1) := by decide +kernel
theorem dL_law_772 : decode cL_law 772 = .ok (.iload_n 3, 1) := by decide +kernel
theorem dL_law_773 : decode cL_law 773 = .ok (.iconst 1, 1) := by decide +kernel
theorem dL_law_774 : decode cL_law 774 = .ok (.iadd, 1) := by decide +kernel
theorem dL_law_775 : decode cL_law 775 = .ok (.iaload, 1) := by decide +kernel
theorem dL_law_776 : decode cL_law 776 = .ok (.aload_n 0, 1) := by decide +kernel
theorem dL_law_777 : decode cL_law 777 = .ok (.iload_n 3, 1) := by decide +kernel
theorem dL_law_778 : decode cL_law 778 = .ok (.iconst 2, 1) := by decide +kernel
theorem dL_law_779 : decode cL_law 779 = .ok (.iadd, 1) := by decide +kernel
theorem dL_law_780 : decode cL_law 780 = .ok (.iaload, 1) := by decide +kernel
theorem dL_law_781 : decode cL_law 781 = .ok (.invokevirtual 95, 3) := by decide +kernel
theorem dL_law_784 : decode cL_law 784 = .ok (.if_icmp .eq 643, 3) := by decide +kernel
theorem dL_law_787 : decode cL_law 787 = .ok (.iconst 0, 1) := by decide +kernel
theorem dL_law_788 : decode cL_law 788 = .ok (.ireturn, 1) := by decide +kernel
theorem dL_law_789 : decode cL_law 789 = .ok (.aload_n 1, 1) := by decide +kernel
theorem dL_law_790 : decode cL_law 790 = .ok (.aload_n 0, 1) := by decide +kernel
theorem dL_law_791 : decode cL_law 791 = .ok (.iload_n 3, 1) := by decide +kernel
theorem dL_law_792 : decode cL_law 792 = .ok (.iconst 1, 1) := by decide +kernel
theorem dL_law_793 : decode cL_law 793 = .ok (.iadd, 1) := by decide +kernel
theorem dL_law_794 : decode cL_law 794 = .ok (.iaload, 1) := by decide +kernel
theorem dL_law_795 : decode cL_law 795 = .ok (.aload_n 0, 1) := by decide +kernel
theorem dL_law_796 : decode cL_law 796 = .ok (.iload_n 3, 1) := by decide +kernel
theorem dL_law_797 : decode cL_law 797 = .ok (.iconst 2, 1) := by decide +kernel
theorem dL_law_798 : decode cL_law 798 = .ok (.iadd, 1) := by decide +kernel
theorem dL_law_799 : decode cL_law 799 = .ok (.iaload, 1) := by decide +kernel
theorem dL_law_800 : decode cL_law 800 = .ok (.invokevirtual 96, 3) := by decide +kernel
theorem dL_law_803 : decode cL_law 803 = .ok (.aload_n 2, 1) := by decide +kernel
theorem dL_law_804 : decode cL_law 804 = .ok (.aload_n 0, 1) := by decide +kernel
theorem dL_law_805 : decode cL_law 805 = .ok (.iload_n 3, 1) := by decide +kernel
theorem dL_law_806 : decode cL_law 806 = .ok (.iconst 1, 1) := by decide +kernel
theorem dL_law_807 : decode cL_law 807 = .ok (.iadd, 1) := by decide +kernel
theorem dL_law_808 : decode cL_law 808 = .ok (.iaload, 1) := by decide +kernel
theorem dL_law_809 : decode cL_law 809 = .ok (.aload_n 0, 1) := by decide +kernel
theorem dL_law_810 : decode cL_law 810 = .ok (.iload_n 3, 1) := by decide +kernel
theorem dL_law_811 : decode cL_law 811 = .ok (.iconst 2, 1) := by decide +kernel
theorem dL_law_812 : decode cL_law 812 = .ok (.iadd, 1) := by decide +kernel
theorem dL_law_813 : decode cL_law 813 = .ok (.iaload, 1) := by decide +kernel
theorem dL_law_814 : decode cL_law 814 = .ok (.invokevirtual 99, 3) := by decide +kernel
theorem dL_law_817 : decode cL_law 817 = .ok (.if_icmp .eq 610, 3) := by decide +kernel
theorem dL_law_820 : decode cL_law 820 = .ok (.iconst 0, 1) := by decide +kernel
theorem dL_law_821 : decode cL_law 821 = .ok (.ireturn, 1) := by decide +kernel
theorem dL_law_822 : decode cL_law 822 = .ok (.aload_n 1, 1) := by decide +kernel
theorem dL_law_823 : decode cL_law 823 = .ok (.aload_n 0, 1) := by decide +kernel
theorem dL_law_824 : decode cL_law 824 = .ok (.iload_n 3, 1) := by decide +kernel
theorem dL_law_825 : decode cL_law 825 = .ok (.iconst 1, 1) := by decide +kernel
theorem dL_law_826 : decode cL_law 826 = .ok (.iadd, 1) := by decide +kernel
theorem dL_law_827 : decode cL_law 827 = .ok (.iaload, 1) := by decide +kernel
theorem dL_law_828 : decode cL_law 828 = .ok (.aload_n 0, 1) := by decide +kernel
theorem dL_law_829 : decode cL_law 829 = .ok (.iload_n 3, 1) := by decide +kernel
theorem dL_law_830 : decode cL_law 830 = .ok (.iconst 2, 1) := by decide +kernel
theorem dL_law_831 : decode cL_law 831 = .ok (.iadd, 1) := by decide +kernel
theorem dL_law_832 : decode cL_law 832 = .ok (.iaload, 1) := by decide +kernel
theorem dL_law_833 : decode cL_law 833 = .ok (.invokevirtual 100, 3) := by decide +kernel
theorem dL_law_836 : decode cL_law 836 = .ok (.aload_n 2, 1) := by decide +kernel
theorem dL_law_837 : decode cL_law 837 = .ok (.aload_n 0, 1) := by decide +kernel
theorem dL_law_838 : decode cL_law 838 = .ok (.iload_n 3, 1) := by decide +kernel
theorem dL_law_839 : decode cL_law 839 = .ok (.iconst 1, 1) := by decide +kernel
theorem dL_law_840 : decode cL_law 840 = .ok (.iadd, 1) := by decide +kernel
theorem dL_law_841 : decode cL_law 841 = .ok (.iaload, 1) := by decide +kernel
theorem dL_law_842 : decode cL_law 842 = .ok (.aload_n 0, 1) := by decide +kernel
theorem dL_law_843 : decode cL_law 843 = .ok (.iload_n 3, 1) := by decide +kernel
theorem dL_law_844 : decode cL_law 844 = .ok (.iconst 2, 1) := by decide +kernel
theorem dL_law_845 : decode cL_law 845 = .ok (.iadd, 1) := by decide +kernel
theorem dL_law_846 : decode cL_law 846 = .ok (.iaload, 1) := by decide +kernel
theorem dL_law_847 : decode cL_law 847 = .ok (.invokevirtual 103, 3) := by decide +kernel
theorem dL_law_850 : decode cL_law 850 = .ok (.if_icmp .eq 577, 3) := by decide +kernel
theorem dL_law_853 : decode cL_law 853 = .ok (.iconst 0, 1) := by decide +kernel
theorem dL_law_854 : decode cL_law 854 = .ok (.ireturn, 1) := by decide +kernel
theorem dL_law_855 : decode cL_law 855 = .ok (.aload_n 1, 1) := by decide +kernel
theorem dL_law_856 : decode cL_law 856 = .ok (.aload_n 0, 1) := by decide +kernel
theorem dL_law_857 : decode cL_law 857 = .ok (.iload_n 3, 1) := by decide +kernel
theorem dL_law_858 : decode cL_law 858 = .ok (.iconst 1, 1) := by decide +kernel
theorem dL_law_859 : decode cL_law 859 = .ok (.iadd, 1) := by decide +kernel
theorem dL_law_860 : decode cL_law 860 = .ok (.iaload, 1) := by decide +kernel
theorem dL_law_861 : decode cL_law 861 = .ok (.aload_n 0, 1) := by decide +kernel
theorem dL_law_862 : decode cL_law 862 = .ok (.iload_n 3, 1) := by decide +kernel
theorem dL_law_863 : decode cL_law 863 = .ok (.iconst 2, 1) := by decide +kernel
theorem dL_law_864 : decode cL_law 864 = .ok (.iadd, 1) := by decide +kernel
theorem dL_law_865 : decode cL_law 865 = .ok (.iaload, 1) := by decide +kernel
theorem dL_law_866 : decode cL_law 866 = .ok (.invokevirtual 104, 3) := by decide +kernel
theorem dL_law_869 : decode cL_law 869 = .ok (.aload_n 2, 1) := by decide +kernel
theorem dL_law_870 : decode cL_law 870 = .ok (.aload_n 0, 1) := by decide +kernel
theorem dL_law_871 : decode cL_law 871 = .ok (.iload_n 3, 1) := by decide +kernel
theorem dL_law_872 : decode cL_law 872 = .ok (.iconst 1, 1) := by decide +kernel
theorem dL_law_873 : decode cL_law 873 = .ok (.iadd, 1) := by decide +kernel
theorem dL_law_874 : decode cL_law 874 = .ok (.iaload, 1) := by decide +kernel
theorem dL_law_875 : decode cL_law 875 = .ok (.aload_n 0, 1) := by decide +kernel
theorem dL_law_876 : decode cL_law 876 = .ok (.iload_n 3, 1) := by decide +kernel
theorem dL_law_877 : decode cL_law 877 = .ok (.iconst 2, 1) := by decide +kernel
theorem dL_law_878 : decode cL_law 878 = .ok (.iadd, 1) := by decide +kernel
theorem dL_law_879 : decode cL_law 879 = .ok (.iaload, 1) := by decide +kernel
theorem dL_law_880 : decode cL_law 880 = .ok (.invokevirtual 107, 3) := by decide +kernel
theorem dL_law_883 : decode cL_law 883 = .ok (.if_icmp .eq 544, 3) := by decide +kernel
theorem dL_law_886 : decode cL_law 886 = .ok (.iconst 0, 1) := by decide +kernel
theorem dL_law_887 : decode cL_law 887 = .ok (.ireturn, 1) := by decide +kernel
theorem dL_law_888 : decode cL_law 888 = .ok (.aload_n 1, 1) := by decide +kernel
theorem dL_law_889 : decode cL_law 889 = .ok (.invokevirtual 108, 3) := by decide +kernel
theorem dL_law_892 : decode cL_law 892 = .ok (.aload_n 2, 1) := by decide +kernel
theorem dL_law_893 : decode cL_law 893 = .ok (.invokevirtual 111, 3) := by decide +kernel
theorem dL_law_896 : decode cL_law 896 = .ok (.if_icmp .eq 531, 3) := by decide +kernel
theorem dL_law_899 : decode cL_law 899 = .ok (.iconst 0, 1) := by decide +kernel
theorem dL_law_900 : decode cL_law 900 = .ok (.ireturn, 1) := by decide +kernel
theorem dL_law_901 : decode cL_law 901 = .ok (.aload_n 1, 1) := by decide +kernel
theorem dL_law_902 : decode cL_law 902 = .ok (.aload_n 0, 1) := by decide +kernel
theorem dL_law_903 : decode cL_law 903 = .ok (.iload_n 3, 1) := by decide +kernel
theorem dL_law_904 : decode cL_law 904 = .ok (.iconst 1, 1) := by decide +kernel
theorem dL_law_905 : decode cL_law 905 = .ok (.iadd, 1) := by decide +kernel
theorem dL_law_906 : decode cL_law 906 = .ok (.iaload, 1) := by decide +kernel
theorem dL_law_907 : decode cL_law 907 = .ok (.aload_n 0, 1) := by decide +kernel
theorem dL_law_908 : decode cL_law 908 = .ok (.iload_n 3, 1) := by decide +kernel
theorem dL_law_909 : decode cL_law 909 = .ok (.iconst 2, 1) := by decide +kernel
theorem dL_law_910 : decode cL_law 910 = .ok (.iadd, 1) := by decide +kernel
theorem dL_law_911 : decode cL_law 911 = .ok (.iaload, 1) := by decide +kernel
theorem dL_law_912 : decode cL_law 912 = .ok (.invokevirtual 112, 3) := by decide +kernel
theorem dL_law_915 : decode cL_law 915 = .ok (.aload_n 2, 1) := by decide +kernel
theorem dL_law_916 : decode cL_law 916 = .ok (.aload_n 0, 1) := by decide +kernel
theorem dL_law_917 : decode cL_law 917 = .ok (.iload_n 3, 1) := by decide +kernel
theorem dL_law_918 : decode cL_law 918 = .ok (.iconst 1, 1) := by decide +kernel
theorem dL_law_919 : decode cL_law 919 = .ok (.iadd, 1) := by decide +kernel
theorem dL_law_920 : decode cL_law 920 = .ok (.iaload, 1) := by decide +kernel
theorem dL_law_921 : decode cL_law 921 = .ok (.aload_n 0, 1) := by decide +kernel
theorem dL_law_922 : decode cL_law 922 = .ok (.iload_n 3, 1) := by decide +kernel
theorem dL_law_923 : decode cL_law 923 = .ok (.iconst 2, 1) := by decide +kernel
theorem dL_law_924 : decode cL_law 924 = .ok (.iadd, 1) := by decide +kernel
theorem dL_law_925 : decode cL_law 925 = .ok (.iaload, 1) := by decide +kernel
theorem dL_law_926 : decode cL_law 926 = .ok (.invokevirtual 115, 3) := by decide +kernel
theorem dL_law_929 : decode cL_law 929 = .ok (.if_icmp .eq 498, 3) := by decide +kernel
theorem dL_law_932 : decode cL_law 932 = .ok (.iconst 0, 1) := by decide +kernel
theorem dL_law_933 : decode cL_law 933 = .ok (.ireturn, 1) := by decide +kernel
theorem dL_law_934 : decode cL_law 934 = .ok (.aload_n 1, 1) := by decide +kernel
theorem dL_law_935 : decode cL_law 935 = .ok (.aload_n 0, 1) := by decide +kernel
theorem dL_law_936 : decode cL_law 936 = .ok (.iload_n 3, 1) := by decide +kernel
theorem dL_law_937 : decode cL_law 937 = .ok (.iconst 1, 1) := by decide +kernel
theorem dL_law_938 : decode cL_law 938 = .ok (.iadd, 1) := by decide +kernel
theorem dL_law_939 : decode cL_law 939 = .ok (.iaload, 1) := by decide +kernel
theorem dL_law_940 : decode cL_law 940 = .ok (.aload_n 0, 1) := by decide +kernel
theorem dL_law_941 : decode cL_law 941 = .ok (.iload_n 3, 1) := by decide +kernel
theorem dL_law_942 : decode cL_law 942 = .ok (.iconst 2, 1) := by decide +kernel
theorem dL_law_943 : decode cL_law 943 = .ok (.iadd, 1) := by decide +kernel
theorem dL_law_944 : decode cL_law 944 = .ok (.iaload, 1) := by decide +kernel
theorem dL_law_945 : decode cL_law 945 = .ok (.invokevirtual 116, 3) := by decide +kernel
theorem dL_law_948 : decode cL_law 948 = .ok (.aload_n 2, 1) := by decide +kernel
theorem dL_law_949 : decode cL_law 949 = .ok (.aload_n 0, 1) := by decide +kernel
theorem dL_law_950 : decode cL_law 950 = .ok (.iload_n 3, 1) := by decide +kernel
theorem dL_law_951 : decode cL_law 951 = .ok (.iconst 1, 1) := by decide +kernel
theorem dL_law_952 : decode cL_law 952 = .ok (.iadd, 1) := by decide +kernel
theorem dL_law_953 : decode cL_law 953 = .ok (.iaload, 1) := by decide +kernel
theorem dL_law_954 : decode cL_law 954 = .ok (.aload_n 0, 1) := by decide +kernel
theorem dL_law_955 : decode cL_law 955 = .ok (.iload_n 3, 1) := by decide +kernel
theorem dL_law_956 : decode cL_law 956 = .ok (.iconst 2, 1) := by decide +kernel
theorem dL_law_957 : decode cL_law 957 = .ok (.iadd, 1) := by decide +kernel
theorem dL_law_958 : decode cL_law 958 = .ok (.iaload, 1) := by decide +kernel
theorem dL_law_959 : decode cL_law 959 = .ok (.invokevirtual 119, 3) := by decide +kernel
theorem dL_law_962 : decode cL_law 962 = .ok (.if_icmp .eq 465, 3) := by decide +kernel
theorem dL_law_965 : decode cL_law 965 = .ok (.iconst 0, 1) := by decide +kernel
theorem dL_law_966 : decode cL_law 966 = .ok (.ireturn, 1) := by decide +kernel
theorem dL_law_967 : decode cL_law 967 = .ok (.aload_n 1, 1) := by decide +kernel
theorem dL_law_968 : decode cL_law 968 = .ok (.aload_n 0, 1) := by decide +kernel
theorem dL_law_969 : decode cL_law 969 = .ok (.iload_n 3, 1) := by decide +kernel
theorem dL_law_970 : decode cL_law 970 = .ok (.iconst 1, 1) := by decide +kernel
theorem dL_law_971 : decode cL_law 971 = .ok (.iadd, 1) := by decide +kernel
theorem dL_law_972 : decode cL_law 972 = .ok (.iaload, 1) := by decide +kernel
theorem dL_law_973 : decode cL_law 973 = .ok (.aload_n 0, 1) := by decide +kernel
theorem dL_law_974 : decode cL_law 974 = .ok (.iload_n 3, 1) := by decide +kernel
theorem dL_law_975 : decode cL_law 975 = .ok (.iconst 2, 1) := by decide +kernel
theorem dL_law_976 : decode cL_law 976 = .ok (.iadd, 1) := by decide +kernel
theorem dL_law_977 : decode cL_law 977 = .ok (.iaload, 1) := by decide +kernel
theorem dL_law_978 : decode cL_law 978 = .ok (.aload_n 0, 1) := by decide +kernel
theorem dL_law_979 : decode cL_law 979 = .ok (.iload_n 3, 1) := by decide +kernel
theorem dL_law_980 : decode cL_law 980 = .ok (.iconst 3, 1) := by decide +kernel
theorem dL_law_981 : decode cL_law 981 = .ok (.iadd, 1) := by decide +kernel
theorem dL_law_982 : decode cL_law 982 = .ok (.iaload, 1) := by decide +kernel
theorem dL_law_983 : decode cL_law 983 = .ok (.invokevirtual 120, 3) := by decide +kernel
theorem dL_law_986 : decode cL_law 986 = .ok (.aload_n 2, 1) := by decide +kernel
theorem dL_law_987 : decode cL_law 987 = .ok (.aload_n 0, 1) := by decide +kernel
theorem dL_law_988 : decode cL_law 988 = .ok (.iload_n 3, 1) := by decide +kernel
theorem dL_law_989 : decode cL_law 989 = .ok (.iconst 1, 1) := by decide +kernel
theorem dL_law_990 : decode cL_law 990 = .ok (.iadd, 1) := by decide +kernel
theorem dL_law_991 : decode cL_law 991 = .ok (.iaload, 1) := by decide +kernel
theorem dL_law_992 : decode cL_law 992 = .ok (.aload_n 0, 1) := by decide +kernel
theorem dL_law_993 : decode cL_law 993 = .ok (.iload_n 3, 1) := by decide +kernel
theorem dL_law_994 : decode cL_law 994 = .ok (.iconst 2, 1) := by decide +kernel
theorem dL_law_995 : decode cL_law 995 = .ok (.iadd, 1) := by decide +kernel
theorem dL_law_996 : decode cL_law 996 = .ok (.iaload, 1) := by decide +kernel
theorem dL_law_997 : decode cL_law 997 = .ok (.aload_n 0, 1) := by decide +kernel
theorem dL_law_998 : decode cL_law 998 = .ok (.iload_n 3, 1) := by decide +kernel
theorem dL_law_999 : decode cL_law 999 = .ok (.iconst 3, 1) := by decide +kernel
theorem dL_law_1000 : decode cL_law 1000 = .ok (.iadd, 1) := by decide +kernel
theorem dL_law_1001 : decode cL_law 1001 = .ok (.iaload, 1) := by decide +kernel
theorem dL_law_1002 : decode cL_law 1002 = .ok (.invokevirtual 123, 3) := by decide +kernel
theorem dL_law_1005 : decode cL_law 1005 = .ok (.if_icmp .eq 422, 3) := by decide +kernel
theorem dL_law_1008 : decode cL_law 1008 = .ok (.iconst 0, 1) := by decide +kernel
theorem dL_law_1009 : decode cL_law 1009 = .ok (.ireturn, 1) := by decide +kernel
theorem dL_law_1010 : decode cL_law 1010 = .ok (.aload_n 1, 1) := by decide +kernel
theorem dL_law_1011 : decode cL_law 1011 = .ok (.invokevirtual 124, 3) := by decide +kernel
theorem dL_law_1014 : decode cL_law 1014 = .ok (.aload_n 2, 1) := by decide +kernel
theorem dL_law_1015 : decode cL_law 1015 = .ok (.invokevirtual 127, 3) := by decide +kernel
theorem dL_law_1018 : decode cL_law 1018 = .ok (.if_icmp .eq 409, 3) := by decide +kernel
theorem dL_law_1021 : decode cL_law 1021 = .ok (.iconst 0, 1) := by decide +kernel
theorem dL_law_1022 : decode cL_law 1022 = .ok (.ireturn, 1) := by decide +kernel
theorem dL_law_1023 : decode cL_law 1023 = .ok (.aload_n 1, 1) := by decide +kernel
theorem dL_law_1024 : decode cL_law 1024 = .ok (.invokevirtual 128, 3) := by decide +kernel
theorem dL_law_1027 : decode cL_law 1027 = .ok (.aload_n 2, 1) := by decide +kernel
theorem dL_law_1028 : decode cL_law 1028 = .ok (.invokevirtual 131, 3) := by decide +kernel
theorem dL_law_1031 : decode cL_law 1031 = .ok (.if_icmp .eq 396, 3) := by decide +kernel
theorem dL_law_1034 : decode cL_law 1034 = .ok (.iconst 0, 1) := by decide +kernel
theorem dL_law_1035 : decode cL_law 1035 = .ok (.ireturn, 1) := by decide +kernel
theorem dL_law_1036 : decode cL_law 1036 = .ok (.aload_n 1, 1) := by decide +kernel
theorem dL_law_1037 : decode cL_law 1037 = .ok (.aload_n 0, 1) := by decide +kernel
theorem dL_law_1038 : decode cL_law 1038 = .ok (.iload_n 3, 1) := by decide +kernel
theorem dL_law_1039 : decode cL_law 1039 = .ok (.iconst 1, 1) := by decide +kernel
theorem dL_law_1040 : decode cL_law 1040 = .ok (.iadd, 1) := by decide +kernel
theorem dL_law_1041 : decode cL_law 1041 = .ok (.iaload, 1) := by decide +kernel
theorem dL_law_1042 : decode cL_law 1042 = .ok (.invokevirtual 132, 3) := by decide +kernel
theorem dL_law_1045 : decode cL_law 1045 = .ok (.aload_n 2, 1) := by decide +kernel
theorem dL_law_1046 : decode cL_law 1046 = .ok (.aload_n 0, 1) := by decide +kernel
theorem dL_law_1047 : decode cL_law 1047 = .ok (.iload_n 3, 1) := by decide +kernel
theorem dL_law_1048 : decode cL_law 1048 = .ok (.iconst 1, 1) := by decide +kernel
theorem dL_law_1049 : decode cL_law 1049 = .ok (.iadd, 1) := by decide +kernel
theorem dL_law_1050 : decode cL_law 1050 = .ok (.iaload, 1) := by decide +kernel
theorem dL_law_1051 : decode cL_law 1051 = .ok (.invokevirtual 135, 3) := by decide +kernel
theorem dL_law_1054 : decode cL_law 1054 = .ok (.if_icmp .eq 373, 3) := by decide +kernel
theorem dL_law_1057 : decode cL_law 1057 = .ok (.iconst 0, 1) := by decide +kernel
theorem dL_law_1058 : decode cL_law 1058 = .ok (.ireturn, 1) := by decide +kernel
theorem dL_law_1059 : decode cL_law 1059 = .ok (.aload_n 1, 1) := by decide +kernel
theorem dL_law_1060 : decode cL_law 1060 = .ok (.aload_n 0, 1) := by decide +kernel
theorem dL_law_1061 : decode cL_law 1061 = .ok (.iload_n 3, 1) := by decide +kernel
theorem dL_law_1062 : decode cL_law 1062 = .ok (.iconst 1, 1) := by decide +kernel
theorem dL_law_1063 : decode cL_law 1063 = .ok (.iadd, 1) := by decide +kernel
theorem dL_law_1064 : decode cL_law 1064 = .ok (.iaload, 1) := by decide +kernel
theorem dL_law_1065 : decode cL_law 1065 = .ok (.invokevirtual 136, 3) := by decide +kernel
theorem dL_law_1068 : decode cL_law 1068 = .ok (.aload_n 2, 1) := by decide +kernel
theorem dL_law_1069 : decode cL_law 1069 = .ok (.aload_n 0, 1) := by decide +kernel
theorem dL_law_1070 : decode cL_law 1070 = .ok (.iload_n 3, 1) := by decide +kernel
theorem dL_law_1071 : decode cL_law 1071 = .ok (.iconst 1, 1) := by decide +kernel
theorem dL_law_1072 : decode cL_law 1072 = .ok (.iadd, 1) := by decide +kernel
theorem dL_law_1073 : decode cL_law 1073 = .ok (.iaload, 1) := by decide +kernel
theorem dL_law_1074 : decode cL_law 1074 = .ok (.invokevirtual 139, 3) := by decide +kernel
theorem dL_law_1077 : decode cL_law 1077 = .ok (.if_icmp .eq 350, 3) := by decide +kernel
theorem dL_law_1080 : decode cL_law 1080 = .ok (.iconst 0, 1) := by decide +kernel
theorem dL_law_1081 : decode cL_law 1081 = .ok (.ireturn, 1) := by decide +kernel
theorem dL_law_1082 : decode cL_law 1082 = .ok (.aload_n 1, 1) := by decide +kernel
theorem dL_law_1083 : decode cL_law 1083 = .ok (.aload_n 0, 1) := by decide +kernel
theorem dL_law_1084 : decode cL_law 1084 = .ok (.iload_n 3, 1) := by decide +kernel
theorem dL_law_1085 : decode cL_law 1085 = .ok (.iconst 1, 1) := by decide +kernel
theorem dL_law_1086 : decode cL_law 1086 = .ok (.iadd, 1) := by decide +kernel
theorem dL_law_1087 : decode cL_law 1087 = .ok (.iaload, 1) := by decide +kernel
theorem dL_law_1088 : decode cL_law 1088 = .ok (.invokevirtual 140, 3) := by decide +kernel
theorem dL_law_1091 : decode cL_law 1091 = .ok (.aload_n 2, 1) := by decide +kernel
theorem dL_law_1092 : decode cL_law 1092 = .ok (.aload_n 0, 1) := by decide +kernel
theorem dL_law_1093 : decode cL_law 1093 = .ok (.iload_n 3, 1) := by decide +kernel
theorem dL_law_1094 : decode cL_law 1094 = .ok (.iconst 1, 1) := by decide +kernel
theorem dL_law_1095 : decode cL_law 1095 = .ok (.iadd, 1) := by decide +kernel
theorem dL_law_1096 : decode cL_law 1096 = .ok (.iaload, 1) := by decide +kernel
theorem dL_law_1097 : decode cL_law 1097 = .ok (.invokevirtual 143, 3) := by decide +kernel
theorem dL_law_1100 : decode cL_law 1100 = .ok (.if_icmp .eq 327, 3) := by decide +kernel
theorem dL_law_1103 : decode cL_law 1103 = .ok (.iconst 0, 1) := by decide +kernel
theorem dL_law_1104 : decode cL_law 1104 = .ok (.ireturn, 1) := by decide +kernel
theorem dL_law_1105 : decode cL_law 1105 = .ok (.aload_n 1, 1) := by decide +kernel
theorem dL_law_1106 : decode cL_law 1106 = .ok (.aload_n 0, 1) := by decide +kernel
theorem dL_law_1107 : decode cL_law 1107 = .ok (.iload_n 3, 1) := by decide +kernel
theorem dL_law_1108 : decode cL_law 1108 = .ok (.iconst 1, 1) := by decide +kernel
theorem dL_law_1109 : decode cL_law 1109 = .ok (.iadd, 1) := by decide +kernel
theorem dL_law_1110 : decode cL_law 1110 = .ok (.iaload, 1) := by decide +kernel
theorem dL_law_1111 : decode cL_law 1111 = .ok (.aload_n 0, 1) := by decide +kernel
theorem dL_law_1112 : decode cL_law 1112 = .ok (.iload_n 3, 1) := by decide +kernel
theorem dL_law_1113 : decode cL_law 1113 = .ok (.iconst 2, 1) := by decide +kernel
theorem dL_law_1114 : decode cL_law 1114 = .ok (.iadd, 1) := by decide +kernel
theorem dL_law_1115 : decode cL_law 1115 = .ok (.iaload, 1) := by decide +kernel
theorem dL_law_1116 : decode cL_law 1116 = .ok (.aload_n 0, 1) := by decide +kernel
theorem dL_law_1117 : decode cL_law 1117 = .ok (.iload_n 3, 1) := by decide +kernel
theorem dL_law_1118 : decode cL_law 1118 = .ok (.iconst 3, 1) := by decide +kernel
theorem dL_law_1119 : decode cL_law 1119 = .ok (.iadd, 1) := by decide +kernel
theorem dL_law_1120 : decode cL_law 1120 = .ok (.iaload, 1) := by decide +kernel
theorem dL_law_1121 : decode cL_law 1121 = .ok (.ifCond .eq 7, 3) := by decide +kernel
theorem dL_law_1124 : decode cL_law 1124 = .ok (.iconst 1, 1) := by decide +kernel
theorem dL_law_1125 : decode cL_law 1125 = .ok (.goto 4, 3) := by decide +kernel
theorem dL_law_1128 : decode cL_law 1128 = .ok (.iconst 0, 1) := by decide +kernel
theorem dL_law_1129 : decode cL_law 1129 = .ok (.invokevirtual 144, 3) := by decide +kernel
theorem dL_law_1132 : decode cL_law 1132 = .ok (.aload_n 2, 1) := by decide +kernel
theorem dL_law_1133 : decode cL_law 1133 = .ok (.aload_n 0, 1) := by decide +kernel
theorem dL_law_1134 : decode cL_law 1134 = .ok (.iload_n 3, 1) := by decide +kernel
theorem dL_law_1135 : decode cL_law 1135 = .ok (.iconst 1, 1) := by decide +kernel
theorem dL_law_1136 : decode cL_law 1136 = .ok (.iadd, 1) := by decide +kernel
theorem dL_law_1137 : decode cL_law 1137 = .ok (.iaload, 1) := by decide +kernel
theorem dL_law_1138 : decode cL_law 1138 = .ok (.aload_n 0, 1) := by decide +kernel
theorem dL_law_1139 : decode cL_law 1139 = .ok (.iload_n 3, 1) := by decide +kernel
theorem dL_law_1140 : decode cL_law 1140 = .ok (.iconst 2, 1) := by decide +kernel
theorem dL_law_1141 : decode cL_law 1141 = .ok (.iadd, 1) := by decide +kernel
theorem dL_law_1142 : decode cL_law 1142 = .ok (.iaload, 1) := by decide +kernel
theorem dL_law_1143 : decode cL_law 1143 = .ok (.aload_n 0, 1) := by decide +kernel
theorem dL_law_1144 : decode cL_law 1144 = .ok (.iload_n 3, 1) := by decide +kernel
theorem dL_law_1145 : decode cL_law 1145 = .ok (.iconst 3, 1) := by decide +kernel
theorem dL_law_1146 : decode cL_law 1146 = .ok (.iadd, 1) := by decide +kernel
theorem dL_law_1147 : decode cL_law 1147 = .ok (.iaload, 1) := by decide +kernel
theorem dL_law_1148 : decode cL_law 1148 = .ok (.ifCond .eq 7, 3) := by decide +kernel
theorem dL_law_1151 : decode cL_law 1151 = .ok (.iconst 1, 1) := by decide +kernel
theorem dL_law_1152 : decode cL_law 1152 = .ok (.goto 4, 3) := by decide +kernel
theorem dL_law_1155 : decode cL_law 1155 = .ok (.iconst 0, 1) := by decide +kernel
theorem dL_law_1156 : decode cL_law 1156 = .ok (.invokevirtual 148, 3) := by decide +kernel
theorem dL_law_1159 : decode cL_law 1159 = .ok (.if_icmp .eq 268, 3) := by decide +kernel
theorem dL_law_1162 : decode cL_law 1162 = .ok (.iconst 0, 1) := by decide +kernel
theorem dL_law_1163 : decode cL_law 1163 = .ok (.ireturn, 1) := by decide +kernel
theorem dL_law_1164 : decode cL_law 1164 = .ok (.aload_n 1, 1) := by decide +kernel
theorem dL_law_1165 : decode cL_law 1165 = .ok (.aload_n 0, 1) := by decide +kernel
theorem dL_law_1166 : decode cL_law 1166 = .ok (.iload_n 3, 1) := by decide +kernel
theorem dL_law_1167 : decode cL_law 1167 = .ok (.iconst 1, 1) := by decide +kernel
theorem dL_law_1168 : decode cL_law 1168 = .ok (.iadd, 1) := by decide +kernel
theorem dL_law_1169 : decode cL_law 1169 = .ok (.iaload, 1) := by decide +kernel
theorem dL_law_1170 : decode cL_law 1170 = .ok (.aload_n 0, 1) := by decide +kernel
theorem dL_law_1171 : decode cL_law 1171 = .ok (.iload_n 3, 1) := by decide +kernel
theorem dL_law_1172 : decode cL_law 1172 = .ok (.iconst 2, 1) := by decide +kernel
theorem dL_law_1173 : decode cL_law 1173 = .ok (.iadd, 1) := by decide +kernel
theorem dL_law_1174 : decode cL_law 1174 = .ok (.iaload, 1) := by decide +kernel
theorem dL_law_1175 : decode cL_law 1175 = .ok (.aload_n 0, 1) := by decide +kernel
theorem dL_law_1176 : decode cL_law 1176 = .ok (.iload_n 3, 1) := by decide +kernel
theorem dL_law_1177 : decode cL_law 1177 = .ok (.iconst 3, 1) := by decide +kernel
theorem dL_law_1178 : decode cL_law 1178 = .ok (.iadd, 1) := by decide +kernel
theorem dL_law_1179 : decode cL_law 1179 = .ok (.iaload, 1) := by decide +kernel
theorem dL_law_1180 : decode cL_law 1180 = .ok (.ifCond .eq 7, 3) := by decide +kernel
theorem dL_law_1183 : decode cL_law 1183 = .ok (.iconst 1, 1) := by decide +kernel
theorem dL_law_1184 : decode cL_law 1184 = .ok (.goto 4, 3) := by decide +kernel
theorem dL_law_1187 : decode cL_law 1187 = .ok (.iconst 0, 1) := by decide +kernel
theorem dL_law_1188 : decode cL_law 1188 = .ok (.invokevirtual 149, 3) := by decide +kernel
theorem dL_law_1191 : decode cL_law 1191 = .ok (.aload_n 2, 1) := by decide +kernel
theorem dL_law_1192 : decode cL_law 1192 = .ok (.aload_n 0, 1) := by decide +kernel
theorem dL_law_1193 : decode cL_law 1193 = .ok (.iload_n 3, 1) := by decide +kernel
theorem dL_law_1194 : decode cL_law 1194 = .ok (.iconst 1, 1) := by decide +kernel
theorem dL_law_1195 : decode cL_law 1195 = .ok (.iadd, 1) := by decide +kernel
theorem dL_law_1196 : decode cL_law 1196 = .ok (.iaload, 1) := by decide +kernel
theorem dL_law_1197 : decode cL_law 1197 = .ok (.aload_n 0, 1) := by decide +kernel
theorem dL_law_1198 : decode cL_law 1198 = .ok (.iload_n 3, 1) := by decide +kernel
theorem dL_law_1199 : decode cL_law 1199 = .ok (.iconst 2, 1) := by decide +kernel
theorem dL_law_1200 : decode cL_law 1200 = .ok (.iadd, 1) := by decide +kernel
theorem dL_law_1201 : decode cL_law 1201 = .ok (.iaload, 1) := by decide +kernel
theorem dL_law_1202 : decode cL_law 1202 = .ok (.aload_n 0, 1) := by decide +kernel
theorem dL_law_1203 : decode cL_law 1203 = .ok (.iload_n 3, 1) := by decide +kernel
theorem dL_law_1204 : decode cL_law 1204 = .ok (.iconst 3, 1) := by decide +kernel
theorem dL_law_1205 : decode cL_law 1205 = .ok (.iadd, 1) := by decide +kernel
theorem dL_law_1206 : decode cL_law 1206 = .ok (.iaload, 1) := by decide +kernel
theorem dL_law_1207 : decode cL_law 1207 = .ok (.ifCond .eq 7, 3) := by decide +kernel
theorem dL_law_1210 : decode cL_law 1210 = .ok (.iconst 1, 1) := by decide +kernel
theorem dL_law_1211 : decode cL_law 1211 = .ok (.goto 4, 3) := by decide +kernel
theorem dL_law_1214 : decode cL_law 1214 = .ok (.iconst 0, 1) := by decide +kernel
theorem dL_law_1215 : decode cL_law 1215 = .ok (.invokevirtual 152, 3) := by decide +kernel
theorem dL_law_1218 : decode cL_law 1218 = .ok (.if_icmp .eq 209, 3) := by decide +kernel
theorem dL_law_1221 : decode cL_law 1221 = .ok (.iconst 0, 1) := by decide +kernel
theorem dL_law_1222 : decode cL_law 1222 = .ok (.ireturn, 1) := by decide +kernel
theorem dL_law_1223 : decode cL_law 1223 = .ok (.aload_n 1, 1) := by decide +kernel
theorem dL_law_1224 : decode cL_law 1224 = .ok (.aload_n 0, 1) := by decide +kernel
theorem dL_law_1225 : decode cL_law 1225 = .ok (.iload_n 3, 1) := by decide +kernel
theorem dL_law_1226 : decode cL_law 1226 = .ok (.iconst 1, 1) := by decide +kernel
theorem dL_law_1227 : decode cL_law 1227 = .ok (.iadd, 1) := by decide +kernel
theorem dL_law_1228 : decode cL_law 1228 = .ok (.iaload, 1) := by decide +kernel
theorem dL_law_1229 : decode cL_law 1229 = .ok (.invokevirtual 153, 3) := by decide +kernel
theorem dL_law_1232 : decode cL_law 1232 = .ok (.aload_n 2, 1) := by decide +kernel
theorem dL_law_1233 : decode cL_law 1233 = .ok (.aload_n 0, 1) := by decide +kernel
theorem dL_law_1234 : decode cL_law 1234 = .ok (.iload_n 3, 1) := by decide +kernel
theorem dL_law_1235 : decode cL_law 1235 = .ok (.iconst 1, 1) := by decide +kernel
theorem dL_law_1236 : decode cL_law 1236 = .ok (.iadd, 1) := by decide +kernel
theorem dL_law_1237 : decode cL_law 1237 = .ok (.iaload, 1) := by decide +kernel
theorem dL_law_1238 : decode cL_law 1238 = .ok (.invokevirtual 157, 3) := by decide +kernel
theorem dL_law_1241 : decode cL_law 1241 = .ok (.if_icmp .eq 186, 3) := by decide +kernel
theorem dL_law_1244 : decode cL_law 1244 = .ok (.iconst 0, 1) := by decide +kernel
theorem dL_law_1245 : decode cL_law 1245 = .ok (.ireturn, 1) := by decide +kernel
theorem dL_law_1246 : decode cL_law 1246 = .ok (.aload_n 1, 1) := by decide +kernel
theorem dL_law_1247 : decode cL_law 1247 = .ok (.aload_n 0, 1) := by decide +kernel
theorem dL_law_1248 : decode cL_law 1248 = .ok (.iload_n 3, 1) := by decide +kernel
theorem dL_law_1249 : decode cL_law 1249 = .ok (.iconst 1, 1) := by decide +kernel
theorem dL_law_1250 : decode cL_law 1250 = .ok (.iadd, 1) := by decide +kernel
theorem dL_law_1251 : decode cL_law 1251 = .ok (.iaload, 1) := by decide +kernel
theorem dL_law_1252 : decode cL_law 1252 = .ok (.invokevirtual 158, 3) := by decide +kernel
theorem dL_law_1255 : decode cL_law 1255 = .ok (.aload_n 2, 1) := by decide +kernel
theorem dL_law_1256 : decode cL_law 1256 = .ok (.aload_n 0, 1) := by decide +kernel
theorem dL_law_1257 : decode cL_law 1257 = .ok (.iload_n 3, 1) := by decide +kernel
theorem dL_law_1258 : decode cL_law 1258 = .ok (.iconst 1, 1) := by decide +kernel
theorem dL_law_1259 : decode cL_law 1259 = .ok (.iadd, 1) := by decide +kernel
theorem dL_law_1260 : decode cL_law 1260 = .ok (.iaload, 1) := by decide +kernel
theorem dL_law_1261 : decode cL_law 1261 = .ok (.invokevirtual 161, 3) := by decide +kernel
theorem dL_law_1264 : decode cL_law 1264 = .ok (.if_icmp .eq 163, 3) := by decide +kernel
theorem dL_law_1267 : decode cL_law 1267 = .ok (.iconst 0, 1) := by decide +kernel
theorem dL_law_1268 : decode cL_law 1268 = .ok (.ireturn, 1) := by decide +kernel
theorem dL_law_1269 : decode cL_law 1269 = .ok (.aload_n 1, 1) := by decide +kernel
theorem dL_law_1270 : decode cL_law 1270 = .ok (.aload_n 0, 1) := by decide +kernel
theorem dL_law_1271 : decode cL_law 1271 = .ok (.iload_n 3, 1) := by decide +kernel
theorem dL_law_1272 : decode cL_law 1272 = .ok (.iconst 1, 1) := by decide +kernel
theorem dL_law_1273 : decode cL_law 1273 = .ok (.iadd, 1) := by decide +kernel
theorem dL_law_1274 : decode cL_law 1274 = .ok (.iaload, 1) := by decide +kernel
theorem dL_law_1275 : decode cL_law 1275 = .ok (.invokevirtual 162, 3) := by decide +kernel
theorem dL_law_1278 : decode cL_law 1278 = .ok (.aload_n 2, 1) := by decide +kernel
theorem dL_law_1279 : decode cL_law 1279 = .ok (.aload_n 0, 1) := by decide +kernel
theorem dL_law_1280 : decode cL_law 1280 = .ok (.iload_n 3, 1) := by decide +kernel
theorem dL_law_1281 : decode cL_law 1281 = .ok (.iconst 1, 1) := by decide +kernel
theorem dL_law_1282 : decode cL_law 1282 = .ok (.iadd, 1) := by decide +kernel
theorem dL_law_1283 : decode cL_law 1283 = .ok (.iaload, 1) := by decide +kernel
theorem dL_law_1284 : decode cL_law 1284 = .ok (.invokevirtual 165, 3) := by decide +kernel
theorem dL_law_1287 : decode cL_law 1287 = .ok (.if_icmp .eq 140, 3) := by decide +kernel
theorem dL_law_1290 : decode cL_law 1290 = .ok (.iconst 0, 1) := by decide +kernel
theorem dL_law_1291 : decode cL_law 1291 = .ok (.ireturn, 1) := by decide +kernel
theorem dL_law_1292 : decode cL_law 1292 = .ok (.aload_n 1, 1) := by decide +kernel
theorem dL_law_1293 : decode cL_law 1293 = .ok (.aload_n 0, 1) := by decide +kernel
theorem dL_law_1294 : decode cL_law 1294 = .ok (.iload_n 3, 1) := by decide +kernel
theorem dL_law_1295 : decode cL_law 1295 = .ok (.iconst 1, 1) := by decide +kernel
theorem dL_law_1296 : decode cL_law 1296 = .ok (.iadd, 1) := by decide +kernel
theorem dL_law_1297 : decode cL_law 1297 = .ok (.iaload, 1) := by decide +kernel
theorem dL_law_1298 : decode cL_law 1298 = .ok (.aload_n 0, 1) := by decide +kernel
theorem dL_law_1299 : decode cL_law 1299 = .ok (.iload_n 3, 1) := by decide +kernel
theorem dL_law_1300 : decode cL_law 1300 = .ok (.iconst 2, 1) := by decide +kernel
theorem dL_law_1301 : decode cL_law 1301 = .ok (.iadd, 1) := by decide +kernel
theorem dL_law_1302 : decode cL_law 1302 = .ok (.iaload, 1) := by decide +kernel
theorem dL_law_1303 : decode cL_law 1303 = .ok (.invokevirtual 166, 3) := by decide +kernel
theorem dL_law_1306 : decode cL_law 1306 = .ok (.aload_n 2, 1) := by decide +kernel
theorem dL_law_1307 : decode cL_law 1307 = .ok (.aload_n 0, 1) := by decide +kernel
theorem dL_law_1308 : decode cL_law 1308 = .ok (.iload_n 3, 1) := by decide +kernel
theorem dL_law_1309 : decode cL_law 1309 = .ok (.iconst 1, 1) := by decide +kernel
theorem dL_law_1310 : decode cL_law 1310 = .ok (.iadd, 1) := by decide +kernel
theorem dL_law_1311 : decode cL_law 1311 = .ok (.iaload, 1) := by decide +kernel
theorem dL_law_1312 : decode cL_law 1312 = .ok (.aload_n 0, 1) := by decide +kernel
theorem dL_law_1313 : decode cL_law 1313 = .ok (.iload_n 3, 1) := by decide +kernel
theorem dL_law_1314 : decode cL_law 1314 = .ok (.iconst 2, 1) := by decide +kernel
theorem dL_law_1315 : decode cL_law 1315 = .ok (.iadd, 1) := by decide +kernel
theorem dL_law_1316 : decode cL_law 1316 = .ok (.iaload, 1) := by decide +kernel
theorem dL_law_1317 : decode cL_law 1317 = .ok (.invokevirtual 169, 3) := by decide +kernel
theorem dL_law_1320 : decode cL_law 1320 = .ok (.if_icmp .eq 107, 3) := by decide +kernel
theorem dL_law_1323 : decode cL_law 1323 = .ok (.iconst 0, 1) := by decide +kernel
theorem dL_law_1324 : decode cL_law 1324 = .ok (.ireturn, 1) := by decide +kernel
theorem dL_law_1325 : decode cL_law 1325 = .ok (.aload_n 1, 1) := by decide +kernel
theorem dL_law_1326 : decode cL_law 1326 = .ok (.aload_n 0, 1) := by decide +kernel
theorem dL_law_1327 : decode cL_law 1327 = .ok (.iload_n 3, 1) := by decide +kernel
theorem dL_law_1328 : decode cL_law 1328 = .ok (.iconst 1, 1) := by decide +kernel
theorem dL_law_1329 : decode cL_law 1329 = .ok (.iadd, 1) := by decide +kernel
theorem dL_law_1330 : decode cL_law 1330 = .ok (.iaload, 1) := by decide +kernel
theorem dL_law_1331 : decode cL_law 1331 = .ok (.aload_n 0, 1) := by decide +kernel
theorem dL_law_1332 : decode cL_law 1332 = .ok (.iload_n 3, 1) := by decide +kernel
theorem dL_law_1333 : decode cL_law 1333 = .ok (.iconst 2, 1) := by decide +kernel
theorem dL_law_1334 : decode cL_law 1334 = .ok (.iadd, 1) := by decide +kernel
theorem dL_law_1335 : decode cL_law 1335 = .ok (.iaload, 1) := by decide +kernel
theorem dL_law_1336 : decode cL_law 1336 = .ok (.invokevirtual 170, 3) := by decide +kernel
theorem dL_law_1339 : decode cL_law 1339 = .ok (.aload_n 2, 1) := by decide +kernel
theorem dL_law_1340 : decode cL_law 1340 = .ok (.aload_n 0, 1) := by decide +kernel
theorem dL_law_1341 : decode cL_law 1341 = .ok (.iload_n 3, 1) := by decide +kernel
theorem dL_law_1342 : decode cL_law 1342 = .ok (.iconst 1, 1) := by decide +kernel
theorem dL_law_1343 : decode cL_law 1343 = .ok (.iadd, 1) := by decide +kernel
theorem dL_law_1344 : decode cL_law 1344 = .ok (.iaload, 1) := by decide +kernel
theorem dL_law_1345 : decode cL_law 1345 = .ok (.aload_n 0, 1) := by decide +kernel
theorem dL_law_1346 : decode cL_law 1346 = .ok (.iload_n 3, 1) := by decide +kernel
theorem dL_law_1347 : decode cL_law 1347 = .ok (.iconst 2, 1) := by decide +kernel
theorem dL_law_1348 : decode cL_law 1348 = .ok (.iadd, 1) := by decide +kernel
theorem dL_law_1349 : decode cL_law 1349 = .ok (.iaload, 1) := by decide +kernel
theorem dL_law_1350 : decode cL_law 1350 = .ok (.invokevirtual 173, 3) := by decide +kernel
theorem dL_law_1353 : decode cL_law 1353 = .ok (.if_icmp .eq 74, 3) := by decide +kernel
theorem dL_law_1356 : decode cL_law 1356 = .ok (.iconst 0, 1) := by decide +kernel
theorem dL_law_1357 : decode cL_law 1357 = .ok (.ireturn, 1) := by decide +kernel
theorem dL_law_1358 : decode cL_law 1358 = .ok (.aload_n 1, 1) := by decide +kernel
theorem dL_law_1359 : decode cL_law 1359 = .ok (.aload_n 0, 1) := by decide +kernel
theorem dL_law_1360 : decode cL_law 1360 = .ok (.iload_n 3, 1) := by decide +kernel
theorem dL_law_1361 : decode cL_law 1361 = .ok (.iconst 1, 1) := by decide +kernel
theorem dL_law_1362 : decode cL_law 1362 = .ok (.iadd, 1) := by decide +kernel
theorem dL_law_1363 : decode cL_law 1363 = .ok (.iaload, 1) := by decide +kernel
theorem dL_law_1364 : decode cL_law 1364 = .ok (.invokevirtual 174, 3) := by decide +kernel
theorem dL_law_1367 : decode cL_law 1367 = .ok (.aload_n 2, 1) := by decide +kernel
theorem dL_law_1368 : decode cL_law 1368 = .ok (.aload_n 0, 1) := by decide +kernel
theorem dL_law_1369 : decode cL_law 1369 = .ok (.iload_n 3, 1) := by decide +kernel
theorem dL_law_1370 : decode cL_law 1370 = .ok (.iconst 1, 1) := by decide +kernel
theorem dL_law_1371 : decode cL_law 1371 = .ok (.iadd, 1) := by decide +kernel
theorem dL_law_1372 : decode cL_law 1372 = .ok (.iaload, 1) := by decide +kernel
theorem dL_law_1373 : decode cL_law 1373 = .ok (.invokevirtual 177, 3) := by decide +kernel
theorem dL_law_1376 : decode cL_law 1376 = .ok (.if_icmp .eq 51, 3) := by decide +kernel
theorem dL_law_1379 : decode cL_law 1379 = .ok (.iconst 0, 1) := by decide +kernel
theorem dL_law_1380 : decode cL_law 1380 = .ok (.ireturn, 1) := by decide +kernel
theorem dL_law_1381 : decode cL_law 1381 = .ok (.aload_n 1, 1) := by decide +kernel
theorem dL_law_1382 : decode cL_law 1382 = .ok (.aload_n 0, 1) := by decide +kernel
theorem dL_law_1383 : decode cL_law 1383 = .ok (.iload_n 3, 1) := by decide +kernel
theorem dL_law_1384 : decode cL_law 1384 = .ok (.iconst 1, 1) := by decide +kernel
theorem dL_law_1385 : decode cL_law 1385 = .ok (.iadd, 1) := by decide +kernel
theorem dL_law_1386 : decode cL_law 1386 = .ok (.iaload, 1) := by decide +kernel
theorem dL_law_1387 : decode cL_law 1387 = .ok (.invokevirtual 178, 3) := by decide +kernel
theorem dL_law_1390 : decode cL_law 1390 = .ok (.aload_n 2, 1) := by decide +kernel
theorem dL_law_1391 : decode cL_law 1391 = .ok (.aload_n 0, 1) := by decide +kernel
theorem dL_law_1392 : decode cL_law 1392 = .ok (.iload_n 3, 1) := by decide +kernel
theorem dL_law_1393 : decode cL_law 1393 = .ok (.iconst 1, 1) := by decide +kernel
theorem dL_law_1394 : decode cL_law 1394 = .ok (.iadd, 1) := by decide +kernel
theorem dL_law_1395 : decode cL_law 1395 = .ok (.iaload, 1) := by decide +kernel
theorem dL_law_1396 : decode cL_law 1396 = .ok (.invokevirtual 181, 3) := by decide +kernel
theorem dL_law_1399 : decode cL_law 1399 = .ok (.if_icmp .eq 28, 3) := by decide +kernel
theorem dL_law_1402 : decode cL_law 1402 = .ok (.iconst 0, 1) := by decide +kernel
theorem dL_law_1403 : decode cL_law 1403 = .ok (.ireturn, 1) := by decide +kernel
theorem dL_law_1404 : decode cL_law 1404 = .ok (.aload_n 1, 1) := by decide +kernel
theorem dL_law_1405 : decode cL_law 1405 = .ok (.aload_n 0, 1) := by decide +kernel
theorem dL_law_1406 : decode cL_law 1406 = .ok (.iload_n 3, 1) := by decide +kernel
theorem dL_law_1407 : decode cL_law 1407 = .ok (.iconst 1, 1) := by decide +kernel
theorem dL_law_1408 : decode cL_law 1408 = .ok (.iadd, 1) := by decide +kernel
theorem dL_law_1409 : decode cL_law 1409 = .ok (.iaload, 1) := by decide +kernel
theorem dL_law_1410 : decode cL_law 1410 = .ok (.invokevirtual 182, 3) := by decide +kernel
theorem dL_law_1413 : decode cL_law 1413 = .ok (.aload_n 2, 1) := by decide +kernel
theorem dL_law_1414 : decode cL_law 1414 = .ok (.aload_n 0, 1) := by decide +kernel
theorem dL_law_1415 : decode cL_law 1415 = .ok (.iload_n 3, 1) := by decide +kernel
theorem dL_law_1416 : decode cL_law 1416 = .ok (.iconst 1, 1) := by decide +kernel
theorem dL_law_1417 : decode cL_law 1417 = .ok (.iadd, 1) := by decide +kernel
theorem dL_law_1418 : decode cL_law 1418 = .ok (.iaload, 1) := by decide +kernel
theorem dL_law_1419 : decode cL_law 1419 = .ok (.invokevirtual 185, 3) := by decide +kernel
theorem dL_law_1422 : decode cL_law 1422 = .ok (.if_icmp .eq 5, 3) := by decide +kernel
theorem dL_law_1425 : decode cL_law 1425 = .ok (.iconst 0, 1) := by decide +kernel
theorem dL_law_1426 : decode cL_law 1426 = .ok (.ireturn, 1) := by decide +kernel
theorem dL_law_1427 : decode cL_law 1427 = .ok (.iinc 3 6, 3) := by decide +kernel
theorem dL_law_1430 : decode cL_law 1430 = .ok (.goto (-1412), 3) := by decide +kernel
theorem dL_law_1433 : decode cL_law 1433 = .ok (.iconst 1, 1) := by decide +kernel
theorem dL_law_1434 : decode cL_law 1434 = .ok (.ireturn, 1) := by decide +kernel
/-- what holds all through the law, once both objects stand -/
def zLC (p : Program) (l : Launch) (s : State) (m : MethodId) (meth : Method) (c : Code) (b L : Nat) (xs : Nat → Int32) (D : va_G) (aC adX adM : Nat → Nat) : Prop :=
  L ≤ 3072 ∧ lw_At p s m meth c b L xs ∧ va_K D vwCl (ztys (l, D, aC, adX)) s ∧ (zInj (l, D, aC, adX) zTX ∧ zInj (l, D, aC, adM) zTM) ∧ (∀ i j : Nat, i < zTX.length → j < zTM.length → adX i ≠ adM j) ∧ ((∀ i : Nat, i < zTX.length → s.heap.size ≤ adX i) ∧ ∀ i : Nat, i < zTM.length → s.heap.size ≤ adM i) ∧ zStt (l, D, aC, adX) zTX s s.heap ∧ zStt (l, D, aC, adM) zTM s s.heap
def Lx (p : Program) (l : Launch) (e : Env) (s : State) (m : MethodId) (below : List Frame) (meth : Method) (c : Code) (b : Nat) (D : va_G) (aC adX adM : Nat → Nat) (pc : Nat) (lv : List (Option Value)) (st : List Value) (MX MM : Mem) : Prop :=
  ∀ (H : Heap) (locs : List Loc) (ls : Array Slot), va_P D vwCl (zWs (l, D, aC, adX) zTX MX) H → va_P D vwCl (zWs (l, D, aC, adM) zTM MM) H → va_S (fun q : Nat => s.heap.size ≤ q) s.heap H locs → zlv ls 4 lv →
  W p l e room_1 s m #[Value.ref b] below meth c H locs 600000 7302250 (lw_Z below #[Value.ref b] s) (F0 m pc ls st)
def zStep (R : Mem → Mem → Prop) (x y : Mem → Option (Option Value × Mem)) : Prop := ∀ MX MM : Mem, R MX MM → ∃ (v : Int32) (MX' MM' : Mem), x MX = some (some (.int v), MX') ∧ y MM = some (some (.int v), MM') ∧ R MX' MM'
theorem zTB_lw : ∀ w ∈ zTB, w ∈ lw_tbl := fun w h => (List.mem_filter.mp h).1
section LAW
variable {p : Program} {l : Launch} {e : Env} {s : State} {m : MethodId} {below : List Frame} {meth : Method} {c : Code} {b L : Nat} {xs : Nat → Int32} {D : va_G} {aC adX adM : Nat → Nat} {pc : Nat} {lv lv' : List (Option Value)} {st : List Value} {MX MM : Mem}
theorem l_aload {n : Fin 4} {x : Nat} (C : zLC p l s m meth c b L xs D aC adX adM) (hd : decode code pc = .ok (.aload_n n, 1)) (hl0 : lv[(n : Nat)]? = some (some (.ref x))) (k : Lx p l e s m below meth c b D aC adX adM (pc + 1) lv (.ref x :: st) MX MM) : Lx p l e s m below meth c b D aC adX adM pc lv st MX MM := fun H locs ls hX hM hS hl =>
  lv_aload_n C.2.1.1 C.2.1.2.1 hd rfl (hl.2.2 _ _ hl0) (k H locs ls hX hM hS hl)
theorem l_iload {n : Fin 4} {x : Int32} (C : zLC p l s m meth c b L xs D aC adX adM) (hd : decode code pc = .ok (.iload_n n, 1)) (hl0 : lv[(n : Nat)]? = some (some (.int x))) (k : Lx p l e s m below meth c b D aC adX adM (pc + 1) lv (.int x :: st) MX MM) : Lx p l e s m below meth c b D aC adX adM pc lv st MX MM := fun H locs ls hX hM hS hl =>
  lv_iload_n C.2.1.1 C.2.1.2.1 hd rfl (hl.2.2 _ _ hl0) (k H locs ls hX hM hS hl)
theorem l_iconst {n : Int} {x : Int32} (C : zLC p l s m meth c b L xs D aC adX adM) (hd : decode code pc = .ok (.iconst n, 1)) (hv : Int32.ofInt n = x) (k : Lx p l e s m below meth c b D aC adX adM (pc + 1) lv (.int x :: st) MX MM) : Lx p l e s m below meth c b D aC adX adM pc lv st MX MM := fun H locs ls hX hM hS hl =>
  lv_iconst C.2.1.1 C.2.1.2.1 hd hv (k H locs ls hX hM hS hl)
theorem l_bipush {n : Int} {x : Int32} (C : zLC p l s m meth c b L xs D aC adX adM) (hd : decode code pc = .ok (.bipush n, 2)) (hv : (Int8.ofInt n).toInt32 = x) (k : Lx p l e s m below meth c b D aC adX adM (pc + 2) lv (.int x :: st) MX MM) : Lx p l e s m below meth c b D aC adX adM pc lv st MX MM := fun H locs ls hX hM hS hl =>
  lv_bipush C.2.1.1 C.2.1.2.1 hd hv (k H locs ls hX hM hS hl)
theorem l_goto {off : Int} {tgt : Nat} (C : zLC p l s m meth c b L xs D aC adX adM) (hd : decode code pc = .ok (.goto off, 3)) (ht : (pc : Int) + off = (tgt : Int)) (k : Lx p l e s m below meth c b D aC adX adM tgt lv st MX MM) : Lx p l e s m below meth c b D aC adX adM pc lv st MX MM := fun H locs ls hX hM hS hl =>
  lv_goto C.2.1.1 C.2.1.2.1 hd ht (k H locs ls hX hM hS hl)
/-- one int of the script, j behind place k -/
theorem l_arg {k j : Nat} {n : Int} (C : zLC p l s m meth c b L xs D aC adX adM) (h0 : lv[0]? = some (some (.ref b))) (h3 : lv[3]? = some (some (.int (nI k)))) (hkj : k + j < L) (d0 : decode code pc = .ok (.aload_n 0, 1)) (d1 : decode code (pc + 1) = .ok (.iload_n 3, 1)) (d2 : decode code (pc + 2) = .ok (.iconst n, 1)) (hn : Int32.ofInt n = nI j) (d3 : decode code (pc + 3) = .ok (.iadd, 1)) (d4 : decode code (pc + 4) = .ok (.iaload, 1))
    (kk : Lx p l e s m below meth c b D aC adX adM (pc + 5) lv (.int (xs (k + j)) :: st) MX MM) : Lx p l e s m below meth c b D aC adX adM pc lv st MX MM := by
  refine l_aload C d0 h0 ?_
  refine l_iload C d1 h3 ?_
  refine l_iconst (x := nI j) C d2 hn ?_
  intro H locs ls hX hM hS hl
  obtain ⟨hL, ⟨hx, hb, -, -, -, -, hscr, hbl, -⟩, -⟩ := C
  have hlt : k + j < 2 ^ 31 := by omega
  refine lv_iadd hx hb d3 ?_
  rw [nI_add]
  refine va_sld hx hb hscr hbl (Nat.not_le.mpr hbl) hS (vp_in_nI hkj (by omega)) d4 ?_
  rw [nI_clamp hlt]
  exact kk H locs ls hX hM hS hl
theorem l_bool {a : Int32} (C : zLC p l s m meth c b L xs D aC adX adM) (d0 : decode code pc = .ok (.ifCond .eq 7, 3)) (d1 : decode code (pc + 3) = .ok (.iconst 1, 1)) (d2 : decode code (pc + 4) = .ok (.goto 4, 3)) (d3 : decode code (pc + 7) = .ok (.iconst 0, 1))
    (kk : Lx p l e s m below meth c b D aC adX adM (pc + 8) lv (.int (if a = 0 then 0 else 1) :: st) MX MM) : Lx p l e s m below meth c b D aC adX adM pc lv (.int a :: st) MX MM := by
  intro H locs ls hX hM hS hl
  by_cases ha : a = 0
  · rw [if_pos ha] at kk
    refine lv_if_eq (tgt := pc + 7) C.2.1.1 C.2.1.2.1 d0 (by omega) (fun _ => ?_) (fun h => absurd ha h)
    exact l_iconst (x := 0) C d3 rfl kk H locs ls hX hM hS hl
  · rw [if_neg ha] at kk
    refine lv_if_eq (tgt := pc + 7) C.2.1.1 C.2.1.2.1 d0 (by omega) (fun h => absurd h ha) (fun _ => ?_)
    exact l_iconst (x := 1) C d1 rfl (l_goto (tgt := pc + 8) C d2 (by omega) kk) H locs ls hX hM hS hl
theorem l_go {G1 : Gh} {T1 T2 : List ZC} {G2 : Gh} {M1 M2 : Mem} {H : Heap} {locs : List Loc} {ls : Array Slot} {stk rest : List Value} {av : Array Value} {v : Value} {cells slots : Nat} {Q : State → Prop}
    (hr : va_Run p l e room_1 s m #[Value.ref b] below meth c H locs cells slots 0 0 (F0 m pc ls stk) rest (zQ G1 T1 (some v) M1 av) (zA G1 T1)) (h2 : va_P D vwCl (zWs G2 T2 M2) H) (hdis : ∀ i j : Nat, i < T1.length → j < T2.length → G1.2.2.2 i ≠ G2.2.2.2 j) (hnew : ∀ i : Nat, i < T1.length → s.heap.size ≤ G1.2.2.2 i) (hS : va_S (fun q : Nat => s.heap.size ≤ q) s.heap H locs)
    (kk : ∀ (H1 : Heap) (locs1 : List Loc), va_P G1.2.1 vwCl (zWs G1 T1 M1) H1 → va_P D vwCl (zWs G2 T2 M2) H1 → va_S (fun q : Nat => s.heap.size ≤ q) s.heap H1 locs1 → W p l e room_1 s m #[Value.ref b] below meth c H1 locs1 cells slots Q (F0 m (pc + 3) ls (v :: rest))) : W p l e room_1 s m #[Value.ref b] below meth c H locs cells slots Q (F0 m pc ls stk) := by
  have hA : ∀ q, zA G1 T1 q → s.heap.size ≤ q := fun q ⟨i, hi, e⟩ => by rw [e]; exact hnew i hi
  intro T hTh X
  obtain ⟨v2, st₀, t, T', Lo, h0, X', hL, e1, e2, ⟨hv, hP1, hF⟩, st⟩ := hr T hTh X
  cases hv
  have hF' : H.size ≤ t.heap.size ∧ ∀ q : Nat, q < H.size → ¬ zA G1 T1 q → t.heap[q]? = H[q]? := by rw [← h0]; exact hF
  have h2' : va_P D vwCl (zWs G2 T2 M2) T'.heap := fun k q hk => (h2 k q hk).kept (by
    rw [e1]
    refine hF'.2 _ (h2 k q hk).lt (fun ⟨i, hi, e⟩ => ?_)
    exact hdis i k hi (zWs_key hk).1 (by rw [← (zWs_key hk).2]; exact e.symm))
  obtain ⟨t2, a1, b1⟩ := kk T'.heap (locs ++ Lo) (by rw [e1]; exact hP1) h2'
    ⟨Nat.le_trans hS.1 (by rw [e1]; exact hF'.1), fun q h1 h2 => by rw [e1, hF'.2 q (Nat.lt_of_lt_of_le h1 hS.1) (fun z => h2 (hA q z))]; exact hS.2.1 q h1 h2, fun q hq => by
      rcases List.mem_append.mp hq with h | h
      · exact hS.2.2 q h
      · exact hA _ (hL q h)⟩ T' rfl X'
  exact ⟨t2, st t2 a1, b1⟩
theorem l_run {ad : Nat → Nat} {T : List ZC} {M M1 : Mem} {mi : MI} {As rest stk : List Value} {idx n c0 N : Nat} {TT : u_T} {v : Value} {H : Heap} {locs : List Loc} {ls : Array Slot} {cells slots : Nat} (C : zLC p l s m meth c b L xs D aC adX adM) (hi : zInj (l, D, aC, ad) T) (hs : zStt (l, D, aC, ad) T s s.heap) (hnew : ∀ i : Nat, i < T.length → s.heap.size ≤ ad i) (hM : Mt (l, D, aC, ad) mi (.ref (ad 0) :: As) M (some (some v, M1))) (hT : miT mi = T) (hk : miK mi ≤ 2000) (hd : decode code pc = .ok (.invokevirtual idx, 3)) (hl0 : Cond.methodLink R_law idx (miY mi) ∈ zTB) (hcal : zCalV mi n) (hb : zcl T 0 = some c0) (hc : vwCl[c0]? = some ((miY mi).cls, TT, N)) (hn : As.length = n) (hW : (rest.map fun v => v.category).sum ≤ 8) (hst : As.reverse ++ .ref (ad 0) :: rest = stk)
    (hcs : cells + 0 ≤ 600000 ∧ slots + 0 ≤ 7302250) (hP : va_P D vwCl (zWs (l, D, aC, ad) T M) H) (hS : va_S (fun q : Nat => s.heap.size ≤ q) s.heap H locs) (hl : zlv ls 4 lv) : va_Run p l e room_1 s m #[Value.ref b] below meth c H locs cells slots 0 0 (F0 m pc ls stk) rest (zQ (l, D, aC, ad) T (some v) M1 (Value.ref (ad 0) :: As).toArray) (zA (l, D, aC, ad) T) := by
  obtain ⟨⟨g1, g2, g3, g4⟩, g5, g6⟩ := hcal
  obtain ⟨fl, hfl⟩ := zcl_spec hb
  have hW0 := zWs_get (l, D, aC, ad) M hfl
  obtain ⟨-, ⟨hx, hcb, -, hml, hown, hts, -⟩, hK, -⟩ := C
  have gi : GoodIn lw_tbl (wsV R_law idx (miY mi).cls (miY mi) (.code (miY mi) (miC mi) (miL mi) (miR mi) :: zTB)) := fun w hw => by
    have hz : w ∈ zTB := by
      simp only [wsV, List.cons_append, List.nil_append, List.mem_cons] at hw
      rcases hw with rfl | rfl | rfl | rfl | rfl | hw
      · exact hl0
      · exact g2
      · exact g3
      · exact g4
      · exact g1
      · exact hw
    exact ⟨zTB_lw w hz, zTB_good w hz⟩
  have hrm : (zRm (miK mi)).frames + 1 ≤ room_1.frames ∧ 8 + (miL mi + 11) + (zRm (miK mi)).locals ≤ room_1.locals := by
    refine ⟨?_, ?_⟩
    · show miK mi + 1 ≤ 2048
      omega
    · show 8 + (miL mi + 11) + 41 * miK mi ≤ 84000
      omega
  have hrun := va_runV (e := e) (below := below) (meth := meth) (locs := locs) (H := H) (cells := cells) (slots := slots) (R := room_1) (Ts := lw_tbl) (own := R_law) (nL := 4) ⟨hx, hcb, hml, hown, hts⟩ (hM (some v) M1 rfl) (cwV n hts gi rfl rfl rfl ⟨rfl, g5⟩ hrm) (b := ad 0) (As := As) (rest := rest) (g := F0 m pc ls stk)
    ⟨zBp_blind, va_recv hK hP hc hW0, fun U hU hWm => ⟨rfl, by rw [hT, hU]; exact hP, va_K.moved hWm.alike hK, by rw [hT]; exact hi, by
      rw [hT, hU]
      exact zStt_go (H1 := H) hWm (fun a h1 h2 => hS.2.1 a h1 (Nat.not_le.mpr h1)) hs⟩⟩ rfl hn hl.1 (by rw [← hst]) (lv_room hW) hd hcs
  rw [hT] at hrun
  exact hrun
theorem l_callX {mi : MI} {As rest stk : List Value} {idx n N : Nat} {TT : u_T} {v : Value} {MX1 : Mem} (C : zLC p l s m meth c b L xs D aC adX adM) (hM : Mt (l, D, aC, adX) mi (.ref (adX 0) :: As) MX (some (some v, MX1))) (hT : miT mi = zTX) (hk : miK mi ≤ 2000) (hd : decode code pc = .ok (.invokevirtual idx, 3)) (hl0 : Cond.methodLink R_law idx (miY mi) ∈ zTB) (hcal : zCalV mi n) (hc : vwCl[11]? = some ((miY mi).cls, TT, N)) (hn : As.length = n) (hW : (rest.map fun v => v.category).sum ≤ 8) (hst : As.reverse ++ .ref (adX 0) :: rest = stk)
    (kk : Lx p l e s m below meth c b D aC adX adM (pc + 3) lv (v :: rest) MX1 MM) : Lx p l e s m below meth c b D aC adX adM pc lv stk MX MM := fun H locs ls hX hMm hS hl =>
  l_go (l_run C C.2.2.2.1.1 C.2.2.2.2.2.2.1 C.2.2.2.2.2.1.1 hM hT hk hd hl0 hcal cX_0 hc hn hW hst ⟨Nat.le_refl _, Nat.le_refl _⟩ hX hS hl) hMm C.2.2.2.2.1 C.2.2.2.2.2.1.1 hS (fun H1 locs1 a1 a2 a3 => kk H1 locs1 ls a1 a2 a3 hl)
theorem l_callM {mi : MI} {As rest stk : List Value} {idx n N : Nat} {TT : u_T} {v : Value} {MM1 : Mem} (C : zLC p l s m meth c b L xs D aC adX adM) (hM : Mt (l, D, aC, adM) mi (.ref (adM 0) :: As) MM (some (some v, MM1))) (hT : miT mi = zTM) (hk : miK mi ≤ 2000) (hd : decode code pc = .ok (.invokevirtual idx, 3)) (hl0 : Cond.methodLink R_law idx (miY mi) ∈ zTB) (hcal : zCalV mi n) (hc : vwCl[12]? = some ((miY mi).cls, TT, N)) (hn : As.length = n) (hW : (rest.map fun v => v.category).sum ≤ 8) (hst : As.reverse ++ .ref (adM 0) :: rest = stk)
    (kk : Lx p l e s m below meth c b D aC adX adM (pc + 3) lv (v :: rest) MX MM1) : Lx p l e s m below meth c b D aC adX adM pc lv stk MX MM := fun H locs ls hX hMm hS hl =>
  l_go (l_run C C.2.2.2.1.2 C.2.2.2.2.2.2.2 C.2.2.2.2.2.1.2 hM hT hk hd hl0 hcal cM_0 hc hn hW hst ⟨Nat.le_refl _, Nat.le_refl _⟩ hMm hS hl) hX (fun i j hi hj h => C.2.2.2.2.1 j i hj hi h.symm) C.2.2.2.2.2.1.2 hS (fun H1 locs1 a1 a2 a3 => kk H1 locs1 ls a2 a1 a3 hl)
theorem l_same {v : Int32} {off : Int} {tgt : Nat} (C : zLC p l s m meth c b L xs D aC adX adM) (hd : decode code pc = .ok (.if_icmp .eq off, 3)) (ht : (pc : Int) + off = (tgt : Int)) (k : Lx p l e s m below meth c b D aC adX adM tgt lv st MX MM) : Lx p l e s m below meth c b D aC adX adM pc lv (.int v :: .int v :: st) MX MM := fun H locs ls hX hM hS hl =>
  lv_icmp_eq C.2.1.1 C.2.1.2.1 hd ht (fun _ => k H locs ls hX hM hS hl) (fun h => absurd rfl h)
end LAW
theorem lkL_13 : Cond.methodLink R_law 13 yX11_feed ∈ zTB := zTB_i2 186 (by decide +kernel)
theorem lkL_18 : Cond.methodLink R_law 18 yX11_end ∈ zTB := zTB_i2 194 (by decide +kernel)
theorem lkL_23 : Cond.methodLink R_law 23 yX11_mill ∈ zTB := zTB_i2 198 (by decide +kernel)
theorem lkL_28 : Cond.methodLink R_law 28 yX11_fault ∈ zTB := zTB_i4 43 (by decide +kernel)
theorem lkL_32 : Cond.methodLink R_law 32 yX11_man ∈ zTB := zTB_i4 55 (by decide +kernel)
theorem lkL_37 : Cond.methodLink R_law 37 yX11_purse ∈ zTB := zTB_i4 128 (by decide +kernel)
theorem lkL_41 : Cond.methodLink R_law 41 yX11_over ∈ zTB := zTB_i4 142 (by decide +kernel)
theorem lkL_45 : Cond.methodLink R_law 45 yX11_pay ∈ zTB := zTB_i4 147 (by decide +kernel)
theorem lkL_49 : Cond.methodLink R_law 49 yX11_all ∈ zTB := zTB_i4 152 (by decide +kernel)
theorem lkL_53 : Cond.methodLink R_law 53 yX11_left ∈ zTB := zTB_i4 157 (by decide +kernel)
theorem lkL_57 : Cond.methodLink R_law 57 yX11_spend ∈ zTB := zTB_i4 166 (by decide +kernel)
theorem lkL_62 : Cond.methodLink R_law 62 yX11_give ∈ zTB := zTB_i4 187 (by decide +kernel)
theorem lkL_67 : Cond.methodLink R_law 67 yX11_change ∈ zTB := zTB_i4 192 (by decide +kernel)
theorem lkL_71 : Cond.methodLink R_law 71 yX11_week ∈ zTB := zTB_i4 201 (by decide +kernel)
theorem lkL_75 : Cond.methodLink R_law 75 yX11_undo ∈ zTB := zTB_i4 222 (by decide +kernel)
theorem lkL_80 : Cond.methodLink R_law 80 yX11_redo ∈ zTB := zTB_i4 234 (by decide +kernel)
theorem lkL_84 : Cond.methodLink R_law 84 yX11_best ∈ zTB := zTB_i5 2 (by decide +kernel)
theorem lkL_88 : Cond.methodLink R_law 88 yX11_leaks ∈ zTB := zTB_i5 58 (by decide +kernel)
theorem lkL_92 : Cond.methodLink R_law 92 yX11_good ∈ zTB := zTB_i5 70 (by decide +kernel)
theorem lkL_96 : Cond.methodLink R_law 96 yX11_needs ∈ zTB := zTB_i5 78 (by decide +kernel)
theorem lkL_100 : Cond.methodLink R_law 100 yX11_pool ∈ zTB := zTB_i5 86 (by decide +kernel)
theorem lkL_104 : Cond.methodLink R_law 104 yX11_joint ∈ zTB := zTB_i5 111 (by decide +kernel)
theorem lkL_108 : Cond.methodLink R_law 108 yX11_rest ∈ zTB := zTB_i5 119 (by decide +kernel)
theorem lkL_112 : Cond.methodLink R_law 112 yX11_will ∈ zTB := zTB_i5 132 (by decide +kernel)
theorem lkL_116 : Cond.methodLink R_law 116 yX11_thrive ∈ zTB := zTB_i5 147 (by decide +kernel)
theorem lkL_120 : Cond.methodLink R_law 120 yX11_saves ∈ zTB := zTB_i5 156 (by decide +kernel)
theorem lkL_124 : Cond.methodLink R_law 124 yX11_richest ∈ zTB := zTB_i5 160 (by decide +kernel)
theorem lkL_128 : Cond.methodLink R_law 128 yX11_gulf ∈ zTB := zTB_i5 164 (by decide +kernel)
theorem lkL_132 : Cond.methodLink R_law 132 yX11_most ∈ zTB := zTB_i5 169 (by decide +kernel)
theorem lkL_136 : Cond.methodLink R_law 136 yX11_gain ∈ zTB := zTB_i5 173 (by decide +kernel)
theorem lkL_140 : Cond.methodLink R_law 140 yX11_lies ∈ zTB := zTB_i5 208 (by decide +kernel)
theorem lkL_144 : Cond.methodLink R_law 144 yX11_least ∈ zTB := zTB_i5 216 (by decide +kernel)
theorem lkL_149 : Cond.methodLink R_law 149 yX11_more ∈ zTB := zTB_i5 233 (by decide +kernel)
theorem lkL_153 : Cond.methodLink R_law 153 yX11_untell ∈ zTB := zTB_i5 237 (by decide +kernel)
theorem lkL_158 : Cond.methodLink R_law 158 yX11_later ∈ zTB := zTB_i6 6 (by decide +kernel)
theorem lkL_162 : Cond.methodLink R_law 162 yX11_orders ∈ zTB := zTB_i6 15 (by decide +kernel)
theorem lkL_166 : Cond.methodLink R_law 166 yX11_sure ∈ zTB := zTB_i6 44 (by decide +kernel)
theorem lkL_170 : Cond.methodLink R_law 170 yX11_ask ∈ zTB := zTB_i6 53 (by decide +kernel)
theorem lkL_174 : Cond.methodLink R_law 174 yX11_image ∈ zTB := zTB_i6 67 (by decide +kernel)
theorem lkL_178 : Cond.methodLink R_law 178 yX11_back ∈ zTB := zTB_i6 72 (by decide +kernel)
theorem lkL_182 : Cond.methodLink R_law 182 yX11_about ∈ zTB := zTB_i6 77 (by decide +kernel)
theorem lkL_27 : Cond.methodLink R_law 27 yX12_mill ∈ zTB := zTB_i7 118 (by decide +kernel)
theorem lkL_31 : Cond.methodLink R_law 31 yX12_fault ∈ zTB := zTB_i8 35 (by decide +kernel)
theorem lkL_36 : Cond.methodLink R_law 36 yX12_man ∈ zTB := zTB_i8 39 (by decide +kernel)
theorem lkL_40 : Cond.methodLink R_law 40 yX12_purse ∈ zTB := zTB_i8 78 (by decide +kernel)
theorem lkL_44 : Cond.methodLink R_law 44 yX12_over ∈ zTB := zTB_i8 90 (by decide +kernel)
theorem lkL_48 : Cond.methodLink R_law 48 yX12_pay ∈ zTB := zTB_i8 94 (by decide +kernel)
theorem lkL_52 : Cond.methodLink R_law 52 yX12_all ∈ zTB := zTB_i8 98 (by decide +kernel)
theorem lkL_56 : Cond.methodLink R_law 56 yX12_left ∈ zTB := zTB_i8 102 (by decide +kernel)
theorem lkL_61 : Cond.methodLink R_law 61 yX12_spend ∈ zTB := zTB_i8 110 (by decide +kernel)
theorem lkL_66 : Cond.methodLink R_law 66 yX12_give ∈ zTB := zTB_i8 126 (by decide +kernel)
theorem lkL_70 : Cond.methodLink R_law 70 yX12_change ∈ zTB := zTB_i8 137 (by decide +kernel)
theorem lkL_74 : Cond.methodLink R_law 74 yX12_week ∈ zTB := zTB_i8 141 (by decide +kernel)
theorem lkL_79 : Cond.methodLink R_law 79 yX12_undo ∈ zTB := zTB_i8 160 (by decide +kernel)
theorem lkL_83 : Cond.methodLink R_law 83 yX12_redo ∈ zTB := zTB_i8 168 (by decide +kernel)
theorem lkL_143 : Cond.methodLink R_law 143 yX12_lies ∈ zTB := zTB_i8 172 (by decide +kernel)
theorem lkL_87 : Cond.methodLink R_law 87 yX12_best ∈ zTB := zTB_i8 176 (by decide +kernel)
theorem lkL_95 : Cond.methodLink R_law 95 yX12_good ∈ zTB := zTB_i8 208 (by decide +kernel)
theorem lkL_91 : Cond.methodLink R_law 91 yX12_leaks ∈ zTB := zTB_i8 212 (by decide +kernel)
theorem lkL_99 : Cond.methodLink R_law 99 yX12_needs ∈ zTB := zTB_i8 220 (by decide +kernel)
theorem lkL_103 : Cond.methodLink R_law 103 yX12_pool ∈ zTB := zTB_i8 224 (by decide +kernel)
theorem lkL_107 : Cond.methodLink R_law 107 yX12_joint ∈ zTB := zTB_i9 0 (by decide +kernel)
theorem lkL_111 : Cond.methodLink R_law 111 yX12_rest ∈ zTB := zTB_i9 12 (by decide +kernel)
theorem lkL_115 : Cond.methodLink R_law 115 yX12_will ∈ zTB := zTB_i9 24 (by decide +kernel)
theorem lkL_119 : Cond.methodLink R_law 119 yX12_thrive ∈ zTB := zTB_i9 28 (by decide +kernel)
theorem lkL_123 : Cond.methodLink R_law 123 yX12_saves ∈ zTB := zTB_i9 32 (by decide +kernel)
theorem lkL_127 : Cond.methodLink R_law 127 yX12_richest ∈ zTB := zTB_i9 36 (by decide +kernel)
theorem lkL_131 : Cond.methodLink R_law 131 yX12_gulf ∈ zTB := zTB_i9 40 (by decide +kernel)
theorem lkL_135 : Cond.methodLink R_law 135 yX12_most ∈ zTB := zTB_i9 45 (by decide +kernel)
theorem lkL_139 : Cond.methodLink R_law 139 yX12_gain ∈ zTB := zTB_i9 49 (by decide +kernel)
theorem lkL_148 : Cond.methodLink R_law 148 yX12_least ∈ zTB := zTB_i9 60 (by decide +kernel)
theorem lkL_152 : Cond.methodLink R_law 152 yX12_more ∈ zTB := zTB_i9 76 (by decide +kernel)
theorem lkL_157 : Cond.methodLink R_law 157 yX12_untell ∈ zTB := zTB_i9 80 (by decide +kernel)
theorem lkL_161 : Cond.methodLink R_law 161 yX12_later ∈ zTB := zTB_i9 84 (by decide +kernel)
theorem lkL_165 : Cond.methodLink R_law 165 yX12_orders ∈ zTB := zTB_i9 89 (by decide +kernel)
theorem lkL_169 : Cond.methodLink R_law 169 yX12_sure ∈ zTB := zTB_i9 109 (by decide +kernel)
theorem lkL_173 : Cond.methodLink R_law 173 yX12_ask ∈ zTB := zTB_i9 113 (by decide +kernel)
theorem lkL_177 : Cond.methodLink R_law 177 yX12_image ∈ zTB := zTB_i9 117 (by decide +kernel)
theorem lkL_181 : Cond.methodLink R_law 181 yX12_back ∈ zTB := zTB_i9 121 (by decide +kernel)
theorem lkL_185 : Cond.methodLink R_law 185 yX12_about ∈ zTB := zTB_i9 125 (by decide +kernel)
theorem lkL_17 : Cond.methodLink R_law 17 yX12_feed ∈ zTB := zTB_i9 129 (by decide +kernel)
theorem lkL_22 : Cond.methodLink R_law 22 yX12_end ∈ zTB := zTB_i9 133 (by decide +kernel)
set_option maxRecDepth 100000 in
set_option maxHeartbeats 2000000 in
theorem law_c0 {p : Program} {l : Launch} {e : Env} {s : State} {m : MethodId} {below : List Frame} {meth : Method} {c : Code} {b L : Nat} {xs : Nat → Int32} {D : va_G} {aC adX adM : Nat → Nat} {MX MM : Mem} {R : Mem → Mem → Prop} {k : Nat} (C : zLC p l s m meth c b L xs D aC adX adM) (hk : k + 5 < L) (hR : R MX MM) (hs : zStep R (fun M => (dO dIM) (X11_feed (xs (k + 1)) (xs (k + 2)) (xs (k + 3)) (xs (k + 4)) (xs (k + 5)) M)) (fun M => (dO dIM) (X12_feed (xs (k + 1)) (xs (k + 2)) (xs (k + 3)) (xs (k + 4)) (xs (k + 5)) M))) (kk : ∀ MX MM : Mem, R MX MM → Lx p l e s m below meth c b D aC adX adM 1427 [some (.ref b), some (.ref (adX 0)), some (.ref (adM 0)), some (.int (nI k))] [] MX MM) : Lx p l e s m below meth c b D aC adX adM 212 [some (.ref b), some (.ref (adX 0)), some (.ref (adM 0)), some (.int (nI k))] [] MX MM := by
  obtain ⟨v, MX1, MM1, hX, hM, hR1⟩ := hs MX MM hR
  refine l_aload C dL_law_212 rfl ?_
  refine l_arg (j := 1) C rfl rfl (by omega) dL_law_213 dL_law_214 dL_law_215 rfl dL_law_216 dL_law_217 ?_
  refine l_arg (j := 2) C rfl rfl (by omega) dL_law_218 dL_law_219 dL_law_220 rfl dL_law_221 dL_law_222 ?_
  refine l_arg (j := 3) C rfl rfl (by omega) dL_law_223 dL_law_224 dL_law_225 rfl dL_law_226 dL_law_227 ?_
  refine l_arg (j := 4) C rfl rfl (by omega) dL_law_228 dL_law_229 dL_law_230 rfl dL_law_231 dL_law_232 ?_
  refine l_arg (j := 5) C rfl rfl (by omega) dL_law_233 dL_law_234 dL_law_235 rfl dL_law_236 dL_law_237 ?_
  refine l_callX (v := .int v) (mi := mi_X11_feed) (rest := []) C (by rw [← hX]; exact X11_feed_ok (l, D, aC, adX) (xs (k + 1)) (xs (k + 2)) (xs (k + 3)) (xs (k + 4)) (xs (k + 5)) MX) rfl (Nat.le_of_ble_eq_true rfl) dL_law_238 lkL_13 cal_X11_feed rfl rfl (Nat.le_of_ble_eq_true rfl) rfl ?_
  refine l_aload C dL_law_241 rfl ?_
  refine l_arg (j := 1) C rfl rfl (by omega) dL_law_242 dL_law_243 dL_law_244 rfl dL_law_245 dL_law_246 ?_
  refine l_arg (j := 2) C rfl rfl (by omega) dL_law_247 dL_law_248 dL_law_249 rfl dL_law_250 dL_law_251 ?_
  refine l_arg (j := 3) C rfl rfl (by omega) dL_law_252 dL_law_253 dL_law_254 rfl dL_law_255 dL_law_256 ?_
  refine l_arg (j := 4) C rfl rfl (by omega) dL_law_257 dL_law_258 dL_law_259 rfl dL_law_260 dL_law_261 ?_
  refine l_arg (j := 5) C rfl rfl (by omega) dL_law_262 dL_law_263 dL_law_264 rfl dL_law_265 dL_law_266 ?_
  refine l_callM (v := .int v) (mi := mi_X12_feed) (rest := [.int v]) C (by rw [← hM]; exact X12_feed_ok (l, D, aC, adM) (xs (k + 1)) (xs (k + 2)) (xs (k + 3)) (xs (k + 4)) (xs (k + 5)) MM) rfl (Nat.le_of_ble_eq_true rfl) dL_law_267 lkL_17 cal_X12_feed rfl rfl (Nat.le_of_ble_eq_true rfl) rfl ?_
  exact l_same (tgt := 1427) C dL_law_270 rfl (kk _ _ hR1)
set_option maxRecDepth 100000 in
set_option maxHeartbeats 2000000 in
theorem law_c1 {p : Program} {l : Launch} {e : Env} {s : State} {m : MethodId} {below : List Frame} {meth : Method} {c : Code} {b L : Nat} {xs : Nat → Int32} {D : va_G} {aC adX adM : Nat → Nat} {MX MM : Mem} {R : Mem → Mem → Prop} {k : Nat} (C : zLC p l s m meth c b L xs D aC adX adM) (hk : k + 5 < L) (hR : R MX MM) (hs : zStep R (fun M => dIM (X11_end (xs (k + 1)) M)) (fun M => dIM (X12_end (xs (k + 1)) M))) (kk : ∀ MX MM : Mem, R MX MM → Lx p l e s m below meth c b D aC adX adM 1427 [some (.ref b), some (.ref (adX 0)), some (.ref (adM 0)), some (.int (nI k))] [] MX MM) : Lx p l e s m below meth c b D aC adX adM 275 [some (.ref b), some (.ref (adX 0)), some (.ref (adM 0)), some (.int (nI k))] [] MX MM := by
  obtain ⟨v, MX1, MM1, hX, hM, hR1⟩ := hs MX MM hR
  refine l_aload C dL_law_275 rfl ?_
  refine l_arg (j := 1) C rfl rfl (by omega) dL_law_276 dL_law_277 dL_law_278 rfl dL_law_279 dL_law_280 ?_
  refine l_callX (v := .int v) (mi := mi_X11_end) (rest := []) C (by rw [← hX]; exact X11_end_ok (l, D, aC, adX) (xs (k + 1)) MX) rfl (Nat.le_of_ble_eq_true rfl) dL_law_281 lkL_18 cal_X11_end rfl rfl (Nat.le_of_ble_eq_true rfl) rfl ?_
  refine l_aload C dL_law_284 rfl ?_
  refine l_arg (j := 1) C rfl rfl (by omega) dL_law_285 dL_law_286 dL_law_287 rfl dL_law_288 dL_law_289 ?_
  refine l_callM (v := .int v) (mi := mi_X12_end) (rest := [.int v]) C (by rw [← hM]; exact X12_end_ok (l, D, aC, adM) (xs (k + 1)) MM) rfl (Nat.le_of_ble_eq_true rfl) dL_law_290 lkL_22 cal_X12_end rfl rfl (Nat.le_of_ble_eq_true rfl) rfl ?_
  exact l_same (tgt := 1427) C dL_law_293 rfl (kk _ _ hR1)
set_option maxRecDepth 100000 in
set_option maxHeartbeats 2000000 in
theorem law_c2 {p : Program} {l : Launch} {e : Env} {s : State} {m : MethodId} {below : List Frame} {meth : Method} {c : Code} {b L : Nat} {xs : Nat → Int32} {D : va_G} {aC adX adM : Nat → Nat} {MX MM : Mem} {R : Mem → Mem → Prop} {k : Nat} (C : zLC p l s m meth c b L xs D aC adX adM) (hk : k + 5 < L) (hR : R MX MM) (hs : zStep R (fun M => (dO dIM) (X11_mill M)) (fun M => (dO dIM) (X12_mill M))) (kk : ∀ MX MM : Mem, R MX MM → Lx p l e s m below meth c b D aC adX adM 1427 [some (.ref b), some (.ref (adX 0)), some (.ref (adM 0)), some (.int (nI k))] [] MX MM) : Lx p l e s m below meth c b D aC adX adM 298 [some (.ref b), some (.ref (adX 0)), some (.ref (adM 0)), some (.int (nI k))] [] MX MM := by
  obtain ⟨v, MX1, MM1, hX, hM, hR1⟩ := hs MX MM hR
  refine l_aload C dL_law_298 rfl ?_
  refine l_callX (v := .int v) (mi := mi_X11_mill) (rest := []) C (by rw [← hX]; exact X11_mill_ok (l, D, aC, adX) MX) rfl (Nat.le_of_ble_eq_true rfl) dL_law_299 lkL_23 cal_X11_mill rfl rfl (Nat.le_of_ble_eq_true rfl) rfl ?_
  refine l_aload C dL_law_302 rfl ?_
  refine l_callM (v := .int v) (mi := mi_X12_mill) (rest := [.int v]) C (by rw [← hM]; exact X12_mill_ok (l, D, aC, adM) MM) rfl (Nat.le_of_ble_eq_true rfl) dL_law_303 lkL_27 cal_X12_mill rfl rfl (Nat.le_of_ble_eq_true rfl) rfl ?_
  exact l_same (tgt := 1427) C dL_law_306 rfl (kk _ _ hR1)
set_option maxRecDepth 100000 in
set_option maxHeartbeats 2000000 in
theorem law_c3 {p : Program} {l : Launch} {e : Env} {s : State} {m : MethodId} {below : List Frame} {meth : Method} {c : Code} {b L : Nat} {xs : Nat → Int32} {D : va_G} {aC adX adM : Nat → Nat} {MX MM : Mem} {R : Mem → Mem → Prop} {k : Nat} (C : zLC p l s m meth c b L xs D aC adX adM) (hk : k + 5 < L) (hR : R MX MM) (hs : zStep R (fun M => (dI M) (X11_fault (xs (k + 1)) M)) (fun M => (dI M) (X12_fault (xs (k + 1)) M))) (kk : ∀ MX MM : Mem, R MX MM → Lx p l e s m below meth c b D aC adX adM 1427 [some (.ref b), some (.ref (adX 0)), some (.ref (adM 0)), some (.int (nI k))] [] MX MM) : Lx p l e s m below meth c b D aC adX adM 311 [some (.ref b), some (.ref (adX 0)), some (.ref (adM 0)), some (.int (nI k))] [] MX MM := by
  obtain ⟨v, MX1, MM1, hX, hM, hR1⟩ := hs MX MM hR
  refine l_aload C dL_law_311 rfl ?_
  refine l_arg (j := 1) C rfl rfl (by omega) dL_law_312 dL_law_313 dL_law_314 rfl dL_law_315 dL_law_316 ?_
  refine l_callX (v := .int v) (mi := mi_X11_fault) (rest := []) C (by rw [← hX]; exact X11_fault_ok (l, D, aC, adX) (xs (k + 1)) MX) rfl (Nat.le_of_ble_eq_true rfl) dL_law_317 lkL_28 cal_X11_fault rfl rfl (Nat.le_of_ble_eq_true rfl) rfl ?_
  refine l_aload C dL_law_320 rfl ?_
  refine l_arg (j := 1) C rfl rfl (by omega) dL_law_321 dL_law_322 dL_law_323 rfl dL_law_324 dL_law_325 ?_
  refine l_callM (v := .int v) (mi := mi_X12_fault) (rest := [.int v]) C (by rw [← hM]; exact X12_fault_ok (l, D, aC, adM) (xs (k + 1)) MM) rfl (Nat.le_of_ble_eq_true rfl) dL_law_326 lkL_31 cal_X12_fault rfl rfl (Nat.le_of_ble_eq_true rfl) rfl ?_
  exact l_same (tgt := 1427) C dL_law_329 rfl (kk _ _ hR1)
set_option maxRecDepth 100000 in
set_option maxHeartbeats 2000000 in
theorem law_c4 {p : Program} {l : Launch} {e : Env} {s : State} {m : MethodId} {below : List Frame} {meth : Method} {c : Code} {b L : Nat} {xs : Nat → Int32} {D : va_G} {aC adX adM : Nat → Nat} {MX MM : Mem} {R : Mem → Mem → Prop} {k : Nat} (C : zLC p l s m meth c b L xs D aC adX adM) (hk : k + 5 < L) (hR : R MX MM) (hs : zStep R (fun M => (dO dIM) (X11_man (xs (k + 1)) (xs (k + 2)) M)) (fun M => (dO dIM) (X12_man (xs (k + 1)) (xs (k + 2)) M))) (kk : ∀ MX MM : Mem, R MX MM → Lx p l e s m below meth c b D aC adX adM 1427 [some (.ref b), some (.ref (adX 0)), some (.ref (adM 0)), some (.int (nI k))] [] MX MM) : Lx p l e s m below meth c b D aC adX adM 334 [some (.ref b), some (.ref (adX 0)), some (.ref (adM 0)), some (.int (nI k))] [] MX MM := by
  obtain ⟨v, MX1, MM1, hX, hM, hR1⟩ := hs MX MM hR
  refine l_aload C dL_law_334 rfl ?_
  refine l_arg (j := 1) C rfl rfl (by omega) dL_law_335 dL_law_336 dL_law_337 rfl dL_law_338 dL_law_339 ?_
  refine l_arg (j := 2) C rfl rfl (by omega) dL_law_340 dL_law_341 dL_law_342 rfl dL_law_343 dL_law_344 ?_
  refine l_callX (v := .int v) (mi := mi_X11_man) (rest := []) C (by rw [← hX]; exact X11_man_ok (l, D, aC, adX) (xs (k + 1)) (xs (k + 2)) MX) rfl (Nat.le_of_ble_eq_true rfl) dL_law_345 lkL_32 cal_X11_man rfl rfl (Nat.le_of_ble_eq_true rfl) rfl ?_
  refine l_aload C dL_law_348 rfl ?_
  refine l_arg (j := 1) C rfl rfl (by omega) dL_law_349 dL_law_350 dL_law_351 rfl dL_law_352 dL_law_353 ?_
  refine l_arg (j := 2) C rfl rfl (by omega) dL_law_354 dL_law_355 dL_law_356 rfl dL_law_357 dL_law_358 ?_
  refine l_callM (v := .int v) (mi := mi_X12_man) (rest := [.int v]) C (by rw [← hM]; exact X12_man_ok (l, D, aC, adM) (xs (k + 1)) (xs (k + 2)) MM) rfl (Nat.le_of_ble_eq_true rfl) dL_law_359 lkL_36 cal_X12_man rfl rfl (Nat.le_of_ble_eq_true rfl) rfl ?_
  exact l_same (tgt := 1427) C dL_law_362 rfl (kk _ _ hR1)
set_option maxRecDepth 100000 in
set_option maxHeartbeats 2000000 in
theorem law_c5 {p : Program} {l : Launch} {e : Env} {s : State} {m : MethodId} {below : List Frame} {meth : Method} {c : Code} {b L : Nat} {xs : Nat → Int32} {D : va_G} {aC adX adM : Nat → Nat} {MX MM : Mem} {R : Mem → Mem → Prop} {k : Nat} (C : zLC p l s m meth c b L xs D aC adX adM) (hk : k + 5 < L) (hR : R MX MM) (hs : zStep R (fun M => (dI M) (X11_purse (xs (k + 1)) (xs (k + 2)) M)) (fun M => (dO (dI M)) (X12_purse (xs (k + 1)) (xs (k + 2)) M))) (kk : ∀ MX MM : Mem, R MX MM → Lx p l e s m below meth c b D aC adX adM 1427 [some (.ref b), some (.ref (adX 0)), some (.ref (adM 0)), some (.int (nI k))] [] MX MM) : Lx p l e s m below meth c b D aC adX adM 367 [some (.ref b), some (.ref (adX 0)), some (.ref (adM 0)), some (.int (nI k))] [] MX MM := by
  obtain ⟨v, MX1, MM1, hX, hM, hR1⟩ := hs MX MM hR
  refine l_aload C dL_law_367 rfl ?_
  refine l_arg (j := 1) C rfl rfl (by omega) dL_law_368 dL_law_369 dL_law_370 rfl dL_law_371 dL_law_372 ?_
  refine l_arg (j := 2) C rfl rfl (by omega) dL_law_373 dL_law_374 dL_law_375 rfl dL_law_376 dL_law_377 ?_
  refine l_callX (v := .int v) (mi := mi_X11_purse) (rest := []) C (by rw [← hX]; exact X11_purse_ok (l, D, aC, adX) (xs (k + 1)) (xs (k + 2)) MX) rfl (Nat.le_of_ble_eq_true rfl) dL_law_378 lkL_37 cal_X11_purse rfl rfl (Nat.le_of_ble_eq_true rfl) rfl ?_
  refine l_aload C dL_law_381 rfl ?_
  refine l_arg (j := 1) C rfl rfl (by omega) dL_law_382 dL_law_383 dL_law_384 rfl dL_law_385 dL_law_386 ?_
  refine l_arg (j := 2) C rfl rfl (by omega) dL_law_387 dL_law_388 dL_law_389 rfl dL_law_390 dL_law_391 ?_
  refine l_callM (v := .int v) (mi := mi_X12_purse) (rest := [.int v]) C (by rw [← hM]; exact X12_purse_ok (l, D, aC, adM) (xs (k + 1)) (xs (k + 2)) MM) rfl (Nat.le_of_ble_eq_true rfl) dL_law_392 lkL_40 cal_X12_purse rfl rfl (Nat.le_of_ble_eq_true rfl) rfl ?_
  exact l_same (tgt := 1427) C dL_law_395 rfl (kk _ _ hR1)
set_option maxRecDepth 100000 in
set_option maxHeartbeats 2000000 in
theorem law_c6 {p : Program} {l : Launch} {e : Env} {s : State} {m : MethodId} {below : List Frame} {meth : Method} {c : Code} {b L : Nat} {xs : Nat → Int32} {D : va_G} {aC adX adM : Nat → Nat} {MX MM : Mem} {R : Mem → Mem → Prop} {k : Nat} (C : zLC p l s m meth c b L xs D aC adX adM) (hk : k + 5 < L) (hR : R MX MM) (hs : zStep R (fun M => (dI M) (X11_over (xs (k + 1)) (xs (k + 2)) M)) (fun M => (dO (dI M)) (X12_over (xs (k + 1)) (xs (k + 2)) M))) (kk : ∀ MX MM : Mem, R MX MM → Lx p l e s m below meth c b D aC adX adM 1427 [some (.ref b), some (.ref (adX 0)), some (.ref (adM 0)), some (.int (nI k))] [] MX MM) : Lx p l e s m below meth c b D aC adX adM 400 [some (.ref b), some (.ref (adX 0)), some (.ref (adM 0)), some (.int (nI k))] [] MX MM := by
  obtain ⟨v, MX1, MM1, hX, hM, hR1⟩ := hs MX MM hR
  refine l_aload C dL_law_400 rfl ?_
  refine l_arg (j := 1) C rfl rfl (by omega) dL_law_401 dL_law_402 dL_law_403 rfl dL_law_404 dL_law_405 ?_
  refine l_arg (j := 2) C rfl rfl (by omega) dL_law_406 dL_law_407 dL_law_408 rfl dL_law_409 dL_law_410 ?_
  refine l_callX (v := .int v) (mi := mi_X11_over) (rest := []) C (by rw [← hX]; exact X11_over_ok (l, D, aC, adX) (xs (k + 1)) (xs (k + 2)) MX) rfl (Nat.le_of_ble_eq_true rfl) dL_law_411 lkL_41 cal_X11_over rfl rfl (Nat.le_of_ble_eq_true rfl) rfl ?_
  refine l_aload C dL_law_414 rfl ?_
  refine l_arg (j := 1) C rfl rfl (by omega) dL_law_415 dL_law_416 dL_law_417 rfl dL_law_418 dL_law_419 ?_
  refine l_arg (j := 2) C rfl rfl (by omega) dL_law_420 dL_law_421 dL_law_422 rfl dL_law_423 dL_law_424 ?_
  refine l_callM (v := .int v) (mi := mi_X12_over) (rest := [.int v]) C (by rw [← hM]; exact X12_over_ok (l, D, aC, adM) (xs (k + 1)) (xs (k + 2)) MM) rfl (Nat.le_of_ble_eq_true rfl) dL_law_425 lkL_44 cal_X12_over rfl rfl (Nat.le_of_ble_eq_true rfl) rfl ?_
  exact l_same (tgt := 1427) C dL_law_428 rfl (kk _ _ hR1)
set_option maxRecDepth 100000 in
set_option maxHeartbeats 2000000 in
theorem law_c7 {p : Program} {l : Launch} {e : Env} {s : State} {m : MethodId} {below : List Frame} {meth : Method} {c : Code} {b L : Nat} {xs : Nat → Int32} {D : va_G} {aC adX adM : Nat → Nat} {MX MM : Mem} {R : Mem → Mem → Prop} {k : Nat} (C : zLC p l s m meth c b L xs D aC adX adM) (hk : k + 5 < L) (hR : R MX MM) (hs : zStep R (fun M => (dI M) (X11_pay (xs (k + 1)) (xs (k + 2)) M)) (fun M => (dO (dI M)) (X12_pay (xs (k + 1)) (xs (k + 2)) M))) (kk : ∀ MX MM : Mem, R MX MM → Lx p l e s m below meth c b D aC adX adM 1427 [some (.ref b), some (.ref (adX 0)), some (.ref (adM 0)), some (.int (nI k))] [] MX MM) : Lx p l e s m below meth c b D aC adX adM 433 [some (.ref b), some (.ref (adX 0)), some (.ref (adM 0)), some (.int (nI k))] [] MX MM := by
  obtain ⟨v, MX1, MM1, hX, hM, hR1⟩ := hs MX MM hR
  refine l_aload C dL_law_433 rfl ?_
  refine l_arg (j := 1) C rfl rfl (by omega) dL_law_434 dL_law_435 dL_law_436 rfl dL_law_437 dL_law_438 ?_
  refine l_arg (j := 2) C rfl rfl (by omega) dL_law_439 dL_law_440 dL_law_441 rfl dL_law_442 dL_law_443 ?_
  refine l_callX (v := .int v) (mi := mi_X11_pay) (rest := []) C (by rw [← hX]; exact X11_pay_ok (l, D, aC, adX) (xs (k + 1)) (xs (k + 2)) MX) rfl (Nat.le_of_ble_eq_true rfl) dL_law_444 lkL_45 cal_X11_pay rfl rfl (Nat.le_of_ble_eq_true rfl) rfl ?_
  refine l_aload C dL_law_447 rfl ?_
  refine l_arg (j := 1) C rfl rfl (by omega) dL_law_448 dL_law_449 dL_law_450 rfl dL_law_451 dL_law_452 ?_
  refine l_arg (j := 2) C rfl rfl (by omega) dL_law_453 dL_law_454 dL_law_455 rfl dL_law_456 dL_law_457 ?_
  refine l_callM (v := .int v) (mi := mi_X12_pay) (rest := [.int v]) C (by rw [← hM]; exact X12_pay_ok (l, D, aC, adM) (xs (k + 1)) (xs (k + 2)) MM) rfl (Nat.le_of_ble_eq_true rfl) dL_law_458 lkL_48 cal_X12_pay rfl rfl (Nat.le_of_ble_eq_true rfl) rfl ?_
  exact l_same (tgt := 1427) C dL_law_461 rfl (kk _ _ hR1)
set_option maxRecDepth 100000 in
set_option maxHeartbeats 2000000 in
theorem law_c8 {p : Program} {l : Launch} {e : Env} {s : State} {m : MethodId} {below : List Frame} {meth : Method} {c : Code} {b L : Nat} {xs : Nat → Int32} {D : va_G} {aC adX adM : Nat → Nat} {MX MM : Mem} {R : Mem → Mem → Prop} {k : Nat} (C : zLC p l s m meth c b L xs D aC adX adM) (hk : k + 5 < L) (hR : R MX MM) (hs : zStep R (fun M => (dO (dI M)) (X11_all (xs (k + 1)) (xs (k + 2)) M)) (fun M => (dO (dI M)) (X12_all (xs (k + 1)) (xs (k + 2)) M))) (kk : ∀ MX MM : Mem, R MX MM → Lx p l e s m below meth c b D aC adX adM 1427 [some (.ref b), some (.ref (adX 0)), some (.ref (adM 0)), some (.int (nI k))] [] MX MM) : Lx p l e s m below meth c b D aC adX adM 466 [some (.ref b), some (.ref (adX 0)), some (.ref (adM 0)), some (.int (nI k))] [] MX MM := by
  obtain ⟨v, MX1, MM1, hX, hM, hR1⟩ := hs MX MM hR
  refine l_aload C dL_law_466 rfl ?_
  refine l_arg (j := 1) C rfl rfl (by omega) dL_law_467 dL_law_468 dL_law_469 rfl dL_law_470 dL_law_471 ?_
  refine l_arg (j := 2) C rfl rfl (by omega) dL_law_472 dL_law_473 dL_law_474 rfl dL_law_475 dL_law_476 ?_
  refine l_callX (v := .int v) (mi := mi_X11_all) (rest := []) C (by rw [← hX]; exact X11_all_ok (l, D, aC, adX) (xs (k + 1)) (xs (k + 2)) MX) rfl (Nat.le_of_ble_eq_true rfl) dL_law_477 lkL_49 cal_X11_all rfl rfl (Nat.le_of_ble_eq_true rfl) rfl ?_
  refine l_aload C dL_law_480 rfl ?_
  refine l_arg (j := 1) C rfl rfl (by omega) dL_law_481 dL_law_482 dL_law_483 rfl dL_law_484 dL_law_485 ?_
  refine l_arg (j := 2) C rfl rfl (by omega) dL_law_486 dL_law_487 dL_law_488 rfl dL_law_489 dL_law_490 ?_
  refine l_callM (v := .int v) (mi := mi_X12_all) (rest := [.int v]) C (by rw [← hM]; exact X12_all_ok (l, D, aC, adM) (xs (k + 1)) (xs (k + 2)) MM) rfl (Nat.le_of_ble_eq_true rfl) dL_law_491 lkL_52 cal_X12_all rfl rfl (Nat.le_of_ble_eq_true rfl) rfl ?_
  exact l_same (tgt := 1427) C dL_law_494 rfl (kk _ _ hR1)
set_option maxRecDepth 100000 in
set_option maxHeartbeats 2000000 in
theorem law_c9 {p : Program} {l : Launch} {e : Env} {s : State} {m : MethodId} {below : List Frame} {meth : Method} {c : Code} {b L : Nat} {xs : Nat → Int32} {D : va_G} {aC adX adM : Nat → Nat} {MX MM : Mem} {R : Mem → Mem → Prop} {k : Nat} (C : zLC p l s m meth c b L xs D aC adX adM) (hk : k + 5 < L) (hR : R MX MM) (hs : zStep R (fun M => (dI M) (X11_left (xs (k + 1)) M)) (fun M => (dO (dI M)) (X12_left (xs (k + 1)) M))) (kk : ∀ MX MM : Mem, R MX MM → Lx p l e s m below meth c b D aC adX adM 1427 [some (.ref b), some (.ref (adX 0)), some (.ref (adM 0)), some (.int (nI k))] [] MX MM) : Lx p l e s m below meth c b D aC adX adM 499 [some (.ref b), some (.ref (adX 0)), some (.ref (adM 0)), some (.int (nI k))] [] MX MM := by
  obtain ⟨v, MX1, MM1, hX, hM, hR1⟩ := hs MX MM hR
  refine l_aload C dL_law_499 rfl ?_
  refine l_arg (j := 1) C rfl rfl (by omega) dL_law_500 dL_law_501 dL_law_502 rfl dL_law_503 dL_law_504 ?_
  refine l_callX (v := .int v) (mi := mi_X11_left) (rest := []) C (by rw [← hX]; exact X11_left_ok (l, D, aC, adX) (xs (k + 1)) MX) rfl (Nat.le_of_ble_eq_true rfl) dL_law_505 lkL_53 cal_X11_left rfl rfl (Nat.le_of_ble_eq_true rfl) rfl ?_
  refine l_aload C dL_law_508 rfl ?_
  refine l_arg (j := 1) C rfl rfl (by omega) dL_law_509 dL_law_510 dL_law_511 rfl dL_law_512 dL_law_513 ?_
  refine l_callM (v := .int v) (mi := mi_X12_left) (rest := [.int v]) C (by rw [← hM]; exact X12_left_ok (l, D, aC, adM) (xs (k + 1)) MM) rfl (Nat.le_of_ble_eq_true rfl) dL_law_514 lkL_56 cal_X12_left rfl rfl (Nat.le_of_ble_eq_true rfl) rfl ?_
  exact l_same (tgt := 1427) C dL_law_517 rfl (kk _ _ hR1)
set_option maxRecDepth 100000 in
set_option maxHeartbeats 2000000 in
theorem law_c10 {p : Program} {l : Launch} {e : Env} {s : State} {m : MethodId} {below : List Frame} {meth : Method} {c : Code} {b L : Nat} {xs : Nat → Int32} {D : va_G} {aC adX adM : Nat → Nat} {MX MM : Mem} {R : Mem → Mem → Prop} {k : Nat} (C : zLC p l s m meth c b L xs D aC adX adM) (hk : k + 5 < L) (hR : R MX MM) (hs : zStep R (fun M => (dO dIM) (X11_spend (xs (k + 1)) (xs (k + 2)) (xs (k + 3)) M)) (fun M => (dO dIM) (X12_spend (xs (k + 1)) (xs (k + 2)) (xs (k + 3)) M))) (kk : ∀ MX MM : Mem, R MX MM → Lx p l e s m below meth c b D aC adX adM 1427 [some (.ref b), some (.ref (adX 0)), some (.ref (adM 0)), some (.int (nI k))] [] MX MM) : Lx p l e s m below meth c b D aC adX adM 522 [some (.ref b), some (.ref (adX 0)), some (.ref (adM 0)), some (.int (nI k))] [] MX MM := by
  obtain ⟨v, MX1, MM1, hX, hM, hR1⟩ := hs MX MM hR
  refine l_aload C dL_law_522 rfl ?_
  refine l_arg (j := 1) C rfl rfl (by omega) dL_law_523 dL_law_524 dL_law_525 rfl dL_law_526 dL_law_527 ?_
  refine l_arg (j := 2) C rfl rfl (by omega) dL_law_528 dL_law_529 dL_law_530 rfl dL_law_531 dL_law_532 ?_
  refine l_arg (j := 3) C rfl rfl (by omega) dL_law_533 dL_law_534 dL_law_535 rfl dL_law_536 dL_law_537 ?_
  refine l_callX (v := .int v) (mi := mi_X11_spend) (rest := []) C (by rw [← hX]; exact X11_spend_ok (l, D, aC, adX) (xs (k + 1)) (xs (k + 2)) (xs (k + 3)) MX) rfl (Nat.le_of_ble_eq_true rfl) dL_law_538 lkL_57 cal_X11_spend rfl rfl (Nat.le_of_ble_eq_true rfl) rfl ?_
  refine l_aload C dL_law_541 rfl ?_
  refine l_arg (j := 1) C rfl rfl (by omega) dL_law_542 dL_law_543 dL_law_544 rfl dL_law_545 dL_law_546 ?_
  refine l_arg (j := 2) C rfl rfl (by omega) dL_law_547 dL_law_548 dL_law_549 rfl dL_law_550 dL_law_551 ?_
  refine l_arg (j := 3) C rfl rfl (by omega) dL_law_552 dL_law_553 dL_law_554 rfl dL_law_555 dL_law_556 ?_
  refine l_callM (v := .int v) (mi := mi_X12_spend) (rest := [.int v]) C (by rw [← hM]; exact X12_spend_ok (l, D, aC, adM) (xs (k + 1)) (xs (k + 2)) (xs (k + 3)) MM) rfl (Nat.le_of_ble_eq_true rfl) dL_law_557 lkL_61 cal_X12_spend rfl rfl (Nat.le_of_ble_eq_true rfl) rfl ?_
  exact l_same (tgt := 1427) C dL_law_560 rfl (kk _ _ hR1)
set_option maxRecDepth 100000 in
set_option maxHeartbeats 2000000 in
theorem law_c11 {p : Program} {l : Launch} {e : Env} {s : State} {m : MethodId} {below : List Frame} {meth : Method} {c : Code} {b L : Nat} {xs : Nat → Int32} {D : va_G} {aC adX adM : Nat → Nat} {MX MM : Mem} {R : Mem → Mem → Prop} {k : Nat} (C : zLC p l s m meth c b L xs D aC adX adM) (hk : k + 5 < L) (hR : R MX MM) (hs : zStep R (fun M => (dO dIM) (X11_give (xs (k + 1)) (xs (k + 2)) (xs (k + 3)) (xs (k + 4)) M)) (fun M => (dO dIM) (X12_give (xs (k + 1)) (xs (k + 2)) (xs (k + 3)) (xs (k + 4)) M))) (kk : ∀ MX MM : Mem, R MX MM → Lx p l e s m below meth c b D aC adX adM 1427 [some (.ref b), some (.ref (adX 0)), some (.ref (adM 0)), some (.int (nI k))] [] MX MM) : Lx p l e s m below meth c b D aC adX adM 565 [some (.ref b), some (.ref (adX 0)), some (.ref (adM 0)), some (.int (nI k))] [] MX MM := by
  obtain ⟨v, MX1, MM1, hX, hM, hR1⟩ := hs MX MM hR
  refine l_aload C dL_law_565 rfl ?_
  refine l_arg (j := 1) C rfl rfl (by omega) dL_law_566 dL_law_567 dL_law_568 rfl dL_law_569 dL_law_570 ?_
  refine l_arg (j := 2) C rfl rfl (by omega) dL_law_571 dL_law_572 dL_law_573 rfl dL_law_574 dL_law_575 ?_
  refine l_arg (j := 3) C rfl rfl (by omega) dL_law_576 dL_law_577 dL_law_578 rfl dL_law_579 dL_law_580 ?_
  refine l_arg (j := 4) C rfl rfl (by omega) dL_law_581 dL_law_582 dL_law_583 rfl dL_law_584 dL_law_585 ?_
  refine l_callX (v := .int v) (mi := mi_X11_give) (rest := []) C (by rw [← hX]; exact X11_give_ok (l, D, aC, adX) (xs (k + 1)) (xs (k + 2)) (xs (k + 3)) (xs (k + 4)) MX) rfl (Nat.le_of_ble_eq_true rfl) dL_law_586 lkL_62 cal_X11_give rfl rfl (Nat.le_of_ble_eq_true rfl) rfl ?_
  refine l_aload C dL_law_589 rfl ?_
  refine l_arg (j := 1) C rfl rfl (by omega) dL_law_590 dL_law_591 dL_law_592 rfl dL_law_593 dL_law_594 ?_
  refine l_arg (j := 2) C rfl rfl (by omega) dL_law_595 dL_law_596 dL_law_597 rfl dL_law_598 dL_law_599 ?_
  refine l_arg (j := 3) C rfl rfl (by omega) dL_law_600 dL_law_601 dL_law_602 rfl dL_law_603 dL_law_604 ?_
  refine l_arg (j := 4) C rfl rfl (by omega) dL_law_605 dL_law_606 dL_law_607 rfl dL_law_608 dL_law_609 ?_
  refine l_callM (v := .int v) (mi := mi_X12_give) (rest := [.int v]) C (by rw [← hM]; exact X12_give_ok (l, D, aC, adM) (xs (k + 1)) (xs (k + 2)) (xs (k + 3)) (xs (k + 4)) MM) rfl (Nat.le_of_ble_eq_true rfl) dL_law_610 lkL_66 cal_X12_give rfl rfl (Nat.le_of_ble_eq_true rfl) rfl ?_
  exact l_same (tgt := 1427) C dL_law_613 rfl (kk _ _ hR1)
set_option maxRecDepth 100000 in
set_option maxHeartbeats 2000000 in
theorem law_c12 {p : Program} {l : Launch} {e : Env} {s : State} {m : MethodId} {below : List Frame} {meth : Method} {c : Code} {b L : Nat} {xs : Nat → Int32} {D : va_G} {aC adX adM : Nat → Nat} {MX MM : Mem} {R : Mem → Mem → Prop} {k : Nat} (C : zLC p l s m meth c b L xs D aC adX adM) (hk : k + 5 < L) (hR : R MX MM) (hs : zStep R (fun M => (dO dIM) (X11_change (xs (k + 1)) (xs (k + 2)) (xs (k + 3)) M)) (fun M => (dO dIM) (X12_change (xs (k + 1)) (xs (k + 2)) (xs (k + 3)) M))) (kk : ∀ MX MM : Mem, R MX MM → Lx p l e s m below meth c b D aC adX adM 1427 [some (.ref b), some (.ref (adX 0)), some (.ref (adM 0)), some (.int (nI k))] [] MX MM) : Lx p l e s m below meth c b D aC adX adM 618 [some (.ref b), some (.ref (adX 0)), some (.ref (adM 0)), some (.int (nI k))] [] MX MM := by
  obtain ⟨v, MX1, MM1, hX, hM, hR1⟩ := hs MX MM hR
  refine l_aload C dL_law_618 rfl ?_
  refine l_arg (j := 1) C rfl rfl (by omega) dL_law_619 dL_law_620 dL_law_621 rfl dL_law_622 dL_law_623 ?_
  refine l_arg (j := 2) C rfl rfl (by omega) dL_law_624 dL_law_625 dL_law_626 rfl dL_law_627 dL_law_628 ?_
  refine l_arg (j := 3) C rfl rfl (by omega) dL_law_629 dL_law_630 dL_law_631 rfl dL_law_632 dL_law_633 ?_
  refine l_callX (v := .int v) (mi := mi_X11_change) (rest := []) C (by rw [← hX]; exact X11_change_ok (l, D, aC, adX) (xs (k + 1)) (xs (k + 2)) (xs (k + 3)) MX) rfl (Nat.le_of_ble_eq_true rfl) dL_law_634 lkL_67 cal_X11_change rfl rfl (Nat.le_of_ble_eq_true rfl) rfl ?_
  refine l_aload C dL_law_637 rfl ?_
  refine l_arg (j := 1) C rfl rfl (by omega) dL_law_638 dL_law_639 dL_law_640 rfl dL_law_641 dL_law_642 ?_
  refine l_arg (j := 2) C rfl rfl (by omega) dL_law_643 dL_law_644 dL_law_645 rfl dL_law_646 dL_law_647 ?_
  refine l_arg (j := 3) C rfl rfl (by omega) dL_law_648 dL_law_649 dL_law_650 rfl dL_law_651 dL_law_652 ?_
  refine l_callM (v := .int v) (mi := mi_X12_change) (rest := [.int v]) C (by rw [← hM]; exact X12_change_ok (l, D, aC, adM) (xs (k + 1)) (xs (k + 2)) (xs (k + 3)) MM) rfl (Nat.le_of_ble_eq_true rfl) dL_law_653 lkL_70 cal_X12_change rfl rfl (Nat.le_of_ble_eq_true rfl) rfl ?_
  exact l_same (tgt := 1427) C dL_law_656 rfl (kk _ _ hR1)
set_option maxRecDepth 100000 in
set_option maxHeartbeats 2000000 in
theorem law_c13 {p : Program} {l : Launch} {e : Env} {s : State} {m : MethodId} {below : List Frame} {meth : Method} {c : Code} {b L : Nat} {xs : Nat → Int32} {D : va_G} {aC adX adM : Nat → Nat} {MX MM : Mem} {R : Mem → Mem → Prop} {k : Nat} (C : zLC p l s m meth c b L xs D aC adX adM) (hk : k + 5 < L) (hR : R MX MM) (hs : zStep R (fun M => (dO dIM) (X11_week M)) (fun M => (dO dIM) (X12_week M))) (kk : ∀ MX MM : Mem, R MX MM → Lx p l e s m below meth c b D aC adX adM 1427 [some (.ref b), some (.ref (adX 0)), some (.ref (adM 0)), some (.int (nI k))] [] MX MM) : Lx p l e s m below meth c b D aC adX adM 661 [some (.ref b), some (.ref (adX 0)), some (.ref (adM 0)), some (.int (nI k))] [] MX MM := by
  obtain ⟨v, MX1, MM1, hX, hM, hR1⟩ := hs MX MM hR
  refine l_aload C dL_law_661 rfl ?_
  refine l_callX (v := .int v) (mi := mi_X11_week) (rest := []) C (by rw [← hX]; exact X11_week_ok (l, D, aC, adX) MX) rfl (Nat.le_of_ble_eq_true rfl) dL_law_662 lkL_71 cal_X11_week rfl rfl (Nat.le_of_ble_eq_true rfl) rfl ?_
  refine l_aload C dL_law_665 rfl ?_
  refine l_callM (v := .int v) (mi := mi_X12_week) (rest := [.int v]) C (by rw [← hM]; exact X12_week_ok (l, D, aC, adM) MM) rfl (Nat.le_of_ble_eq_true rfl) dL_law_666 lkL_74 cal_X12_week rfl rfl (Nat.le_of_ble_eq_true rfl) rfl ?_
  exact l_same (tgt := 1427) C dL_law_669 rfl (kk _ _ hR1)
set_option maxRecDepth 100000 in
set_option maxHeartbeats 2000000 in
theorem law_c14 {p : Program} {l : Launch} {e : Env} {s : State} {m : MethodId} {below : List Frame} {meth : Method} {c : Code} {b L : Nat} {xs : Nat → Int32} {D : va_G} {aC adX adM : Nat → Nat} {MX MM : Mem} {R : Mem → Mem → Prop} {k : Nat} (C : zLC p l s m meth c b L xs D aC adX adM) (hk : k + 5 < L) (hR : R MX MM) (hs : zStep R (fun M => (dO dZM) (X11_undo M)) (fun M => (dO dZM) (X12_undo M))) (kk : ∀ MX MM : Mem, R MX MM → Lx p l e s m below meth c b D aC adX adM 1427 [some (.ref b), some (.ref (adX 0)), some (.ref (adM 0)), some (.int (nI k))] [] MX MM) : Lx p l e s m below meth c b D aC adX adM 674 [some (.ref b), some (.ref (adX 0)), some (.ref (adM 0)), some (.int (nI k))] [] MX MM := by
  obtain ⟨v, MX1, MM1, hX, hM, hR1⟩ := hs MX MM hR
  refine l_aload C dL_law_674 rfl ?_
  refine l_callX (v := .int v) (mi := mi_X11_undo) (rest := []) C (by rw [← hX]; exact X11_undo_ok (l, D, aC, adX) MX) rfl (Nat.le_of_ble_eq_true rfl) dL_law_675 lkL_75 cal_X11_undo rfl rfl (Nat.le_of_ble_eq_true rfl) rfl ?_
  refine l_aload C dL_law_678 rfl ?_
  refine l_callM (v := .int v) (mi := mi_X12_undo) (rest := [.int v]) C (by rw [← hM]; exact X12_undo_ok (l, D, aC, adM) MM) rfl (Nat.le_of_ble_eq_true rfl) dL_law_679 lkL_79 cal_X12_undo rfl rfl (Nat.le_of_ble_eq_true rfl) rfl ?_
  exact l_same (tgt := 1427) C dL_law_682 rfl (kk _ _ hR1)
set_option maxRecDepth 100000 in
set_option maxHeartbeats 2000000 in
theorem law_c15 {p : Program} {l : Launch} {e : Env} {s : State} {m : MethodId} {below : List Frame} {meth : Method} {c : Code} {b L : Nat} {xs : Nat → Int32} {D : va_G} {aC adX adM : Nat → Nat} {MX MM : Mem} {R : Mem → Mem → Prop} {k : Nat} (C : zLC p l s m meth c b L xs D aC adX adM) (hk : k + 5 < L) (hR : R MX MM) (hs : zStep R (fun M => (dO dZM) (X11_redo M)) (fun M => (dO dZM) (X12_redo M))) (kk : ∀ MX MM : Mem, R MX MM → Lx p l e s m below meth c b D aC adX adM 1427 [some (.ref b), some (.ref (adX 0)), some (.ref (adM 0)), some (.int (nI k))] [] MX MM) : Lx p l e s m below meth c b D aC adX adM 687 [some (.ref b), some (.ref (adX 0)), some (.ref (adM 0)), some (.int (nI k))] [] MX MM := by
  obtain ⟨v, MX1, MM1, hX, hM, hR1⟩ := hs MX MM hR
  refine l_aload C dL_law_687 rfl ?_
  refine l_callX (v := .int v) (mi := mi_X11_redo) (rest := []) C (by rw [← hX]; exact X11_redo_ok (l, D, aC, adX) MX) rfl (Nat.le_of_ble_eq_true rfl) dL_law_688 lkL_80 cal_X11_redo rfl rfl (Nat.le_of_ble_eq_true rfl) rfl ?_
  refine l_aload C dL_law_691 rfl ?_
  refine l_callM (v := .int v) (mi := mi_X12_redo) (rest := [.int v]) C (by rw [← hM]; exact X12_redo_ok (l, D, aC, adM) MM) rfl (Nat.le_of_ble_eq_true rfl) dL_law_692 lkL_83 cal_X12_redo rfl rfl (Nat.le_of_ble_eq_true rfl) rfl ?_
  exact l_same (tgt := 1427) C dL_law_695 rfl (kk _ _ hR1)
set_option maxRecDepth 100000 in
set_option maxHeartbeats 2000000 in
theorem law_c16 {p : Program} {l : Launch} {e : Env} {s : State} {m : MethodId} {below : List Frame} {meth : Method} {c : Code} {b L : Nat} {xs : Nat → Int32} {D : va_G} {aC adX adM : Nat → Nat} {MX MM : Mem} {R : Mem → Mem → Prop} {k : Nat} (C : zLC p l s m meth c b L xs D aC adX adM) (hk : k + 5 < L) (hR : R MX MM) (hs : zStep R (fun M => (dO dIM) (X11_best (xs (k + 1)) (xs (k + 2)) M)) (fun M => (dO dIM) (X12_best (xs (k + 1)) (xs (k + 2)) M))) (kk : ∀ MX MM : Mem, R MX MM → Lx p l e s m below meth c b D aC adX adM 1427 [some (.ref b), some (.ref (adX 0)), some (.ref (adM 0)), some (.int (nI k))] [] MX MM) : Lx p l e s m below meth c b D aC adX adM 700 [some (.ref b), some (.ref (adX 0)), some (.ref (adM 0)), some (.int (nI k))] [] MX MM := by
  obtain ⟨v, MX1, MM1, hX, hM, hR1⟩ := hs MX MM hR
  refine l_aload C dL_law_700 rfl ?_
  refine l_arg (j := 1) C rfl rfl (by omega) dL_law_701 dL_law_702 dL_law_703 rfl dL_law_704 dL_law_705 ?_
  refine l_arg (j := 2) C rfl rfl (by omega) dL_law_706 dL_law_707 dL_law_708 rfl dL_law_709 dL_law_710 ?_
  refine l_callX (v := .int v) (mi := mi_X11_best) (rest := []) C (by rw [← hX]; exact X11_best_ok (l, D, aC, adX) (xs (k + 1)) (xs (k + 2)) MX) rfl (Nat.le_of_ble_eq_true rfl) dL_law_711 lkL_84 cal_X11_best rfl rfl (Nat.le_of_ble_eq_true rfl) rfl ?_
  refine l_aload C dL_law_714 rfl ?_
  refine l_arg (j := 1) C rfl rfl (by omega) dL_law_715 dL_law_716 dL_law_717 rfl dL_law_718 dL_law_719 ?_
  refine l_arg (j := 2) C rfl rfl (by omega) dL_law_720 dL_law_721 dL_law_722 rfl dL_law_723 dL_law_724 ?_
  refine l_callM (v := .int v) (mi := mi_X12_best) (rest := [.int v]) C (by rw [← hM]; exact X12_best_ok (l, D, aC, adM) (xs (k + 1)) (xs (k + 2)) MM) rfl (Nat.le_of_ble_eq_true rfl) dL_law_725 lkL_87 cal_X12_best rfl rfl (Nat.le_of_ble_eq_true rfl) rfl ?_
  exact l_same (tgt := 1427) C dL_law_728 rfl (kk _ _ hR1)
set_option maxRecDepth 100000 in
set_option maxHeartbeats 2000000 in
theorem law_c17 {p : Program} {l : Launch} {e : Env} {s : State} {m : MethodId} {below : List Frame} {meth : Method} {c : Code} {b L : Nat} {xs : Nat → Int32} {D : va_G} {aC adX adM : Nat → Nat} {MX MM : Mem} {R : Mem → Mem → Prop} {k : Nat} (C : zLC p l s m meth c b L xs D aC adX adM) (hk : k + 5 < L) (hR : R MX MM) (hs : zStep R (fun M => (dO dIM) (X11_leaks (xs (k + 1)) M)) (fun M => (dO dIM) (X12_leaks (xs (k + 1)) M))) (kk : ∀ MX MM : Mem, R MX MM → Lx p l e s m below meth c b D aC adX adM 1427 [some (.ref b), some (.ref (adX 0)), some (.ref (adM 0)), some (.int (nI k))] [] MX MM) : Lx p l e s m below meth c b D aC adX adM 733 [some (.ref b), some (.ref (adX 0)), some (.ref (adM 0)), some (.int (nI k))] [] MX MM := by
  obtain ⟨v, MX1, MM1, hX, hM, hR1⟩ := hs MX MM hR
  refine l_aload C dL_law_733 rfl ?_
  refine l_arg (j := 1) C rfl rfl (by omega) dL_law_734 dL_law_735 dL_law_736 rfl dL_law_737 dL_law_738 ?_
  refine l_callX (v := .int v) (mi := mi_X11_leaks) (rest := []) C (by rw [← hX]; exact X11_leaks_ok (l, D, aC, adX) (xs (k + 1)) MX) rfl (Nat.le_of_ble_eq_true rfl) dL_law_739 lkL_88 cal_X11_leaks rfl rfl (Nat.le_of_ble_eq_true rfl) rfl ?_
  refine l_aload C dL_law_742 rfl ?_
  refine l_arg (j := 1) C rfl rfl (by omega) dL_law_743 dL_law_744 dL_law_745 rfl dL_law_746 dL_law_747 ?_
  refine l_callM (v := .int v) (mi := mi_X12_leaks) (rest := [.int v]) C (by rw [← hM]; exact X12_leaks_ok (l, D, aC, adM) (xs (k + 1)) MM) rfl (Nat.le_of_ble_eq_true rfl) dL_law_748 lkL_91 cal_X12_leaks rfl rfl (Nat.le_of_ble_eq_true rfl) rfl ?_
  exact l_same (tgt := 1427) C dL_law_751 rfl (kk _ _ hR1)
set_option maxRecDepth 100000 in
set_option maxHeartbeats 2000000 in
theorem law_c18 {p : Program} {l : Launch} {e : Env} {s : State} {m : MethodId} {below : List Frame} {meth : Method} {c : Code} {b L : Nat} {xs : Nat → Int32} {D : va_G} {aC adX adM : Nat → Nat} {MX MM : Mem} {R : Mem → Mem → Prop} {k : Nat} (C : zLC p l s m meth c b L xs D aC adX adM) (hk : k + 5 < L) (hR : R MX MM) (hs : zStep R (fun M => (dO dIM) (X11_good (xs (k + 1)) (xs (k + 2)) M)) (fun M => (dO dIM) (X12_good (xs (k + 1)) (xs (k + 2)) M))) (kk : ∀ MX MM : Mem, R MX MM → Lx p l e s m below meth c b D aC adX adM 1427 [some (.ref b), some (.ref (adX 0)), some (.ref (adM 0)), some (.int (nI k))] [] MX MM) : Lx p l e s m below meth c b D aC adX adM 756 [some (.ref b), some (.ref (adX 0)), some (.ref (adM 0)), some (.int (nI k))] [] MX MM := by
  obtain ⟨v, MX1, MM1, hX, hM, hR1⟩ := hs MX MM hR
  refine l_aload C dL_law_756 rfl ?_
  refine l_arg (j := 1) C rfl rfl (by omega) dL_law_757 dL_law_758 dL_law_759 rfl dL_law_760 dL_law_761 ?_
  refine l_arg (j := 2) C rfl rfl (by omega) dL_law_762 dL_law_763 dL_law_764 rfl dL_law_765 dL_law_766 ?_
  refine l_callX (v := .int v) (mi := mi_X11_good) (rest := []) C (by rw [← hX]; exact X11_good_ok (l, D, aC, adX) (xs (k + 1)) (xs (k + 2)) MX) rfl (Nat.le_of_ble_eq_true rfl) dL_law_767 lkL_92 cal_X11_good rfl rfl (Nat.le_of_ble_eq_true rfl) rfl ?_
  refine l_aload C dL_law_770 rfl ?_
  refine l_arg (j := 1) C rfl rfl (by omega) dL_law_771 dL_law_772 dL_law_773 rfl dL_law_774 dL_law_775 ?_
  refine l_arg (j := 2) C rfl rfl (by omega) dL_law_776 dL_law_777 dL_law_778 rfl dL_law_779 dL_law_780 ?_
  refine l_callM (v := .int v) (mi := mi_X12_good) (rest := [.int v]) C (by rw [← hM]; exact X12_good_ok (l, D, aC, adM) (xs (k + 1)) (xs (k + 2)) MM) rfl (Nat.le_of_ble_eq_true rfl) dL_law_781 lkL_95 cal_X12_good rfl rfl (Nat.le_of_ble_eq_true rfl) rfl ?_
  exact l_same (tgt := 1427) C dL_law_784 rfl (kk _ _ hR1)
set_option maxRecDepth 100000 in
set_option maxHeartbeats 2000000 in
theorem law_c19 {p : Program} {l : Launch} {e : Env} {s : State} {m : MethodId} {below : List Frame} {meth : Method} {c : Code} {b L : Nat} {xs : Nat → Int32} {D : va_G} {aC adX adM : Nat → Nat} {MX MM : Mem} {R : Mem → Mem → Prop} {k : Nat} (C : zLC p l s m meth c b L xs D aC adX adM) (hk : k + 5 < L) (hR : R MX MM) (hs : zStep R (fun M => (dO dIM) (X11_needs (xs (k + 1)) (xs (k + 2)) M)) (fun M => (dO dIM) (X12_needs (xs (k + 1)) (xs (k + 2)) M))) (kk : ∀ MX MM : Mem, R MX MM → Lx p l e s m below meth c b D aC adX adM 1427 [some (.ref b), some (.ref (adX 0)), some (.ref (adM 0)), some (.int (nI k))] [] MX MM) : Lx p l e s m below meth c b D aC adX adM 789 [some (.ref b), some (.ref (adX 0)), some (.ref (adM 0)), some (.int (nI k))] [] MX MM := by
  obtain ⟨v, MX1, MM1, hX, hM, hR1⟩ := hs MX MM hR
  refine l_aload C dL_law_789 rfl ?_
  refine l_arg (j := 1) C rfl rfl (by omega) dL_law_790 dL_law_791 dL_law_792 rfl dL_law_793 dL_law_794 ?_
  refine l_arg (j := 2) C rfl rfl (by omega) dL_law_795 dL_law_796 dL_law_797 rfl dL_law_798 dL_law_799 ?_
  refine l_callX (v := .int v) (mi := mi_X11_needs) (rest := []) C (by rw [← hX]; exact X11_needs_ok (l, D, aC, adX) (xs (k + 1)) (xs (k + 2)) MX) rfl (Nat.le_of_ble_eq_true rfl) dL_law_800 lkL_96 cal_X11_needs rfl rfl (Nat.le_of_ble_eq_true rfl) rfl ?_
  refine l_aload C dL_law_803 rfl ?_
  refine l_arg (j := 1) C rfl rfl (by omega) dL_law_804 dL_law_805 dL_law_806 rfl dL_law_807 dL_law_808 ?_
  refine l_arg (j := 2) C rfl rfl (by omega) dL_law_809 dL_law_810 dL_law_811 rfl dL_law_812 dL_law_813 ?_
  refine l_callM (v := .int v) (mi := mi_X12_needs) (rest := [.int v]) C (by rw [← hM]; exact X12_needs_ok (l, D, aC, adM) (xs (k + 1)) (xs (k + 2)) MM) rfl (Nat.le_of_ble_eq_true rfl) dL_law_814 lkL_99 cal_X12_needs rfl rfl (Nat.le_of_ble_eq_true rfl) rfl ?_
  exact l_same (tgt := 1427) C dL_law_817 rfl (kk _ _ hR1)
set_option maxRecDepth 100000 in
set_option maxHeartbeats 2000000 in
theorem law_c20 {p : Program} {l : Launch} {e : Env} {s : State} {m : MethodId} {below : List Frame} {meth : Method} {c : Code} {b L : Nat} {xs : Nat → Int32} {D : va_G} {aC adX adM : Nat → Nat} {MX MM : Mem} {R : Mem → Mem → Prop} {k : Nat} (C : zLC p l s m meth c b L xs D aC adX adM) (hk : k + 5 < L) (hR : R MX MM) (hs : zStep R (fun M => (dO dIM) (X11_pool (xs (k + 1)) (xs (k + 2)) M)) (fun M => (dO dIM) (X12_pool (xs (k + 1)) (xs (k + 2)) M))) (kk : ∀ MX MM : Mem, R MX MM → Lx p l e s m below meth c b D aC adX adM 1427 [some (.ref b), some (.ref (adX 0)), some (.ref (adM 0)), some (.int (nI k))] [] MX MM) : Lx p l e s m below meth c b D aC adX adM 822 [some (.ref b), some (.ref (adX 0)), some (.ref (adM 0)), some (.int (nI k))] [] MX MM := by
  obtain ⟨v, MX1, MM1, hX, hM, hR1⟩ := hs MX MM hR
  refine l_aload C dL_law_822 rfl ?_
  refine l_arg (j := 1) C rfl rfl (by omega) dL_law_823 dL_law_824 dL_law_825 rfl dL_law_826 dL_law_827 ?_
  refine l_arg (j := 2) C rfl rfl (by omega) dL_law_828 dL_law_829 dL_law_830 rfl dL_law_831 dL_law_832 ?_
  refine l_callX (v := .int v) (mi := mi_X11_pool) (rest := []) C (by rw [← hX]; exact X11_pool_ok (l, D, aC, adX) (xs (k + 1)) (xs (k + 2)) MX) rfl (Nat.le_of_ble_eq_true rfl) dL_law_833 lkL_100 cal_X11_pool rfl rfl (Nat.le_of_ble_eq_true rfl) rfl ?_
  refine l_aload C dL_law_836 rfl ?_
  refine l_arg (j := 1) C rfl rfl (by omega) dL_law_837 dL_law_838 dL_law_839 rfl dL_law_840 dL_law_841 ?_
  refine l_arg (j := 2) C rfl rfl (by omega) dL_law_842 dL_law_843 dL_law_844 rfl dL_law_845 dL_law_846 ?_
  refine l_callM (v := .int v) (mi := mi_X12_pool) (rest := [.int v]) C (by rw [← hM]; exact X12_pool_ok (l, D, aC, adM) (xs (k + 1)) (xs (k + 2)) MM) rfl (Nat.le_of_ble_eq_true rfl) dL_law_847 lkL_103 cal_X12_pool rfl rfl (Nat.le_of_ble_eq_true rfl) rfl ?_
  exact l_same (tgt := 1427) C dL_law_850 rfl (kk _ _ hR1)
set_option maxRecDepth 100000 in
set_option maxHeartbeats 2000000 in
theorem law_c21 {p : Program} {l : Launch} {e : Env} {s : State} {m : MethodId} {below : List Frame} {meth : Method} {c : Code} {b L : Nat} {xs : Nat → Int32} {D : va_G} {aC adX adM : Nat → Nat} {MX MM : Mem} {R : Mem → Mem → Prop} {k : Nat} (C : zLC p l s m meth c b L xs D aC adX adM) (hk : k + 5 < L) (hR : R MX MM) (hs : zStep R (fun M => (dO dIM) (X11_joint (xs (k + 1)) (xs (k + 2)) M)) (fun M => (dO dIM) (X12_joint (xs (k + 1)) (xs (k + 2)) M))) (kk : ∀ MX MM : Mem, R MX MM → Lx p l e s m below meth c b D aC adX adM 1427 [some (.ref b), some (.ref (adX 0)), some (.ref (adM 0)), some (.int (nI k))] [] MX MM) : Lx p l e s m below meth c b D aC adX adM 855 [some (.ref b), some (.ref (adX 0)), some (.ref (adM 0)), some (.int (nI k))] [] MX MM := by
  obtain ⟨v, MX1, MM1, hX, hM, hR1⟩ := hs MX MM hR
  refine l_aload C dL_law_855 rfl ?_
  refine l_arg (j := 1) C rfl rfl (by omega) dL_law_856 dL_law_857 dL_law_858 rfl dL_law_859 dL_law_860 ?_
  refine l_arg (j := 2) C rfl rfl (by omega) dL_law_861 dL_law_862 dL_law_863 rfl dL_law_864 dL_law_865 ?_
  refine l_callX (v := .int v) (mi := mi_X11_joint) (rest := []) C (by rw [← hX]; exact X11_joint_ok (l, D, aC, adX) (xs (k + 1)) (xs (k + 2)) MX) rfl (Nat.le_of_ble_eq_true rfl) dL_law_866 lkL_104 cal_X11_joint rfl rfl (Nat.le_of_ble_eq_true rfl) rfl ?_
  refine l_aload C dL_law_869 rfl ?_
  refine l_arg (j := 1) C rfl rfl (by omega) dL_law_870 dL_law_871 dL_law_872 rfl dL_law_873 dL_law_874 ?_
  refine l_arg (j := 2) C rfl rfl (by omega) dL_law_875 dL_law_876 dL_law_877 rfl dL_law_878 dL_law_879 ?_
  refine l_callM (v := .int v) (mi := mi_X12_joint) (rest := [.int v]) C (by rw [← hM]; exact X12_joint_ok (l, D, aC, adM) (xs (k + 1)) (xs (k + 2)) MM) rfl (Nat.le_of_ble_eq_true rfl) dL_law_880 lkL_107 cal_X12_joint rfl rfl (Nat.le_of_ble_eq_true rfl) rfl ?_
  exact l_same (tgt := 1427) C dL_law_883 rfl (kk _ _ hR1)
set_option maxRecDepth 100000 in
set_option maxHeartbeats 2000000 in
theorem law_c22 {p : Program} {l : Launch} {e : Env} {s : State} {m : MethodId} {below : List Frame} {meth : Method} {c : Code} {b L : Nat} {xs : Nat → Int32} {D : va_G} {aC adX adM : Nat → Nat} {MX MM : Mem} {R : Mem → Mem → Prop} {k : Nat} (C : zLC p l s m meth c b L xs D aC adX adM) (hk : k + 5 < L) (hR : R MX MM) (hs : zStep R (fun M => (dO dIM) (X11_rest M)) (fun M => (dO dIM) (X12_rest M))) (kk : ∀ MX MM : Mem, R MX MM → Lx p l e s m below meth c b D aC adX adM 1427 [some (.ref b), some (.ref (adX 0)), some (.ref (adM 0)), some (.int (nI k))] [] MX MM) : Lx p l e s m below meth c b D aC adX adM 888 [some (.ref b), some (.ref (adX 0)), some (.ref (adM 0)), some (.int (nI k))] [] MX MM := by
  obtain ⟨v, MX1, MM1, hX, hM, hR1⟩ := hs MX MM hR
  refine l_aload C dL_law_888 rfl ?_
  refine l_callX (v := .int v) (mi := mi_X11_rest) (rest := []) C (by rw [← hX]; exact X11_rest_ok (l, D, aC, adX) MX) rfl (Nat.le_of_ble_eq_true rfl) dL_law_889 lkL_108 cal_X11_rest rfl rfl (Nat.le_of_ble_eq_true rfl) rfl ?_
  refine l_aload C dL_law_892 rfl ?_
  refine l_callM (v := .int v) (mi := mi_X12_rest) (rest := [.int v]) C (by rw [← hM]; exact X12_rest_ok (l, D, aC, adM) MM) rfl (Nat.le_of_ble_eq_true rfl) dL_law_893 lkL_111 cal_X12_rest rfl rfl (Nat.le_of_ble_eq_true rfl) rfl ?_
  exact l_same (tgt := 1427) C dL_law_896 rfl (kk _ _ hR1)
set_option maxRecDepth 100000 in
set_option maxHeartbeats 2000000 in
theorem law_c23 {p : Program} {l : Launch} {e : Env} {s : State} {m : MethodId} {below : List Frame} {meth : Method} {c : Code} {b L : Nat} {xs : Nat → Int32} {D : va_G} {aC adX adM : Nat → Nat} {MX MM : Mem} {R : Mem → Mem → Prop} {k : Nat} (C : zLC p l s m meth c b L xs D aC adX adM) (hk : k + 5 < L) (hR : R MX MM) (hs : zStep R (fun M => (dO dIM) (X11_will (xs (k + 1)) (xs (k + 2)) M)) (fun M => (dO dIM) (X12_will (xs (k + 1)) (xs (k + 2)) M))) (kk : ∀ MX MM : Mem, R MX MM → Lx p l e s m below meth c b D aC adX adM 1427 [some (.ref b), some (.ref (adX 0)), some (.ref (adM 0)), some (.int (nI k))] [] MX MM) : Lx p l e s m below meth c b D aC adX adM 901 [some (.ref b), some (.ref (adX 0)), some (.ref (adM 0)), some (.int (nI k))] [] MX MM := by
  obtain ⟨v, MX1, MM1, hX, hM, hR1⟩ := hs MX MM hR
  refine l_aload C dL_law_901 rfl ?_
  refine l_arg (j := 1) C rfl rfl (by omega) dL_law_902 dL_law_903 dL_law_904 rfl dL_law_905 dL_law_906 ?_
  refine l_arg (j := 2) C rfl rfl (by omega) dL_law_907 dL_law_908 dL_law_909 rfl dL_law_910 dL_law_911 ?_
  refine l_callX (v := .int v) (mi := mi_X11_will) (rest := []) C (by rw [← hX]; exact X11_will_ok (l, D, aC, adX) (xs (k + 1)) (xs (k + 2)) MX) rfl (Nat.le_of_ble_eq_true rfl) dL_law_912 lkL_112 cal_X11_will rfl rfl (Nat.le_of_ble_eq_true rfl) rfl ?_
  refine l_aload C dL_law_915 rfl ?_
  refine l_arg (j := 1) C rfl rfl (by omega) dL_law_916 dL_law_917 dL_law_918 rfl dL_law_919 dL_law_920 ?_
  refine l_arg (j := 2) C rfl rfl (by omega) dL_law_921 dL_law_922 dL_law_923 rfl dL_law_924 dL_law_925 ?_
  refine l_callM (v := .int v) (mi := mi_X12_will) (rest := [.int v]) C (by rw [← hM]; exact X12_will_ok (l, D, aC, adM) (xs (k + 1)) (xs (k + 2)) MM) rfl (Nat.le_of_ble_eq_true rfl) dL_law_926 lkL_115 cal_X12_will rfl rfl (Nat.le_of_ble_eq_true rfl) rfl ?_
  exact l_same (tgt := 1427) C dL_law_929 rfl (kk _ _ hR1)
set_option maxRecDepth 100000 in
set_option maxHeartbeats 2000000 in
theorem law_c24 {p : Program} {l : Launch} {e : Env} {s : State} {m : MethodId} {below : List Frame} {meth : Method} {c : Code} {b L : Nat} {xs : Nat → Int32} {D : va_G} {aC adX adM : Nat → Nat} {MX MM : Mem} {R : Mem → Mem → Prop} {k : Nat} (C : zLC p l s m meth c b L xs D aC adX adM) (hk : k + 5 < L) (hR : R MX MM) (hs : zStep R (fun M => (dO dIM) (X11_thrive (xs (k + 1)) (xs (k + 2)) M)) (fun M => (dO dIM) (X12_thrive (xs (k + 1)) (xs (k + 2)) M))) (kk : ∀ MX MM : Mem, R MX MM → Lx p l e s m below meth c b D aC adX adM 1427 [some (.ref b), some (.ref (adX 0)), some (.ref (adM 0)), some (.int (nI k))] [] MX MM) : Lx p l e s m below meth c b D aC adX adM 934 [some (.ref b), some (.ref (adX 0)), some (.ref (adM 0)), some (.int (nI k))] [] MX MM := by
  obtain ⟨v, MX1, MM1, hX, hM, hR1⟩ := hs MX MM hR
  refine l_aload C dL_law_934 rfl ?_
  refine l_arg (j := 1) C rfl rfl (by omega) dL_law_935 dL_law_936 dL_law_937 rfl dL_law_938 dL_law_939 ?_
  refine l_arg (j := 2) C rfl rfl (by omega) dL_law_940 dL_law_941 dL_law_942 rfl dL_law_943 dL_law_944 ?_
  refine l_callX (v := .int v) (mi := mi_X11_thrive) (rest := []) C (by rw [← hX]; exact X11_thrive_ok (l, D, aC, adX) (xs (k + 1)) (xs (k + 2)) MX) rfl (Nat.le_of_ble_eq_true rfl) dL_law_945 lkL_116 cal_X11_thrive rfl rfl (Nat.le_of_ble_eq_true rfl) rfl ?_
  refine l_aload C dL_law_948 rfl ?_
  refine l_arg (j := 1) C rfl rfl (by omega) dL_law_949 dL_law_950 dL_law_951 rfl dL_law_952 dL_law_953 ?_
  refine l_arg (j := 2) C rfl rfl (by omega) dL_law_954 dL_law_955 dL_law_956 rfl dL_law_957 dL_law_958 ?_
  refine l_callM (v := .int v) (mi := mi_X12_thrive) (rest := [.int v]) C (by rw [← hM]; exact X12_thrive_ok (l, D, aC, adM) (xs (k + 1)) (xs (k + 2)) MM) rfl (Nat.le_of_ble_eq_true rfl) dL_law_959 lkL_119 cal_X12_thrive rfl rfl (Nat.le_of_ble_eq_true rfl) rfl ?_
  exact l_same (tgt := 1427) C dL_law_962 rfl (kk _ _ hR1)
set_option maxRecDepth 100000 in
set_option maxHeartbeats 2000000 in
theorem law_c25 {p : Program} {l : Launch} {e : Env} {s : State} {m : MethodId} {below : List Frame} {meth : Method} {c : Code} {b L : Nat} {xs : Nat → Int32} {D : va_G} {aC adX adM : Nat → Nat} {MX MM : Mem} {R : Mem → Mem → Prop} {k : Nat} (C : zLC p l s m meth c b L xs D aC adX adM) (hk : k + 5 < L) (hR : R MX MM) (hs : zStep R (fun M => (dO (dI M)) (X11_saves (xs (k + 1)) (xs (k + 2)) (xs (k + 3)) M)) (fun M => (dO (dI M)) (X12_saves (xs (k + 1)) (xs (k + 2)) (xs (k + 3)) M))) (kk : ∀ MX MM : Mem, R MX MM → Lx p l e s m below meth c b D aC adX adM 1427 [some (.ref b), some (.ref (adX 0)), some (.ref (adM 0)), some (.int (nI k))] [] MX MM) : Lx p l e s m below meth c b D aC adX adM 967 [some (.ref b), some (.ref (adX 0)), some (.ref (adM 0)), some (.int (nI k))] [] MX MM := by
  obtain ⟨v, MX1, MM1, hX, hM, hR1⟩ := hs MX MM hR
  refine l_aload C dL_law_967 rfl ?_
  refine l_arg (j := 1) C rfl rfl (by omega) dL_law_968 dL_law_969 dL_law_970 rfl dL_law_971 dL_law_972 ?_
  refine l_arg (j := 2) C rfl rfl (by omega) dL_law_973 dL_law_974 dL_law_975 rfl dL_law_976 dL_law_977 ?_
  refine l_arg (j := 3) C rfl rfl (by omega) dL_law_978 dL_law_979 dL_law_980 rfl dL_law_981 dL_law_982 ?_
  refine l_callX (v := .int v) (mi := mi_X11_saves) (rest := []) C (by rw [← hX]; exact X11_saves_ok (l, D, aC, adX) (xs (k + 1)) (xs (k + 2)) (xs (k + 3)) MX) rfl (Nat.le_of_ble_eq_true rfl) dL_law_983 lkL_120 cal_X11_saves rfl rfl (Nat.le_of_ble_eq_true rfl) rfl ?_
  refine l_aload C dL_law_986 rfl ?_
  refine l_arg (j := 1) C rfl rfl (by omega) dL_law_987 dL_law_988 dL_law_989 rfl dL_law_990 dL_law_991 ?_
  refine l_arg (j := 2) C rfl rfl (by omega) dL_law_992 dL_law_993 dL_law_994 rfl dL_law_995 dL_law_996 ?_
  refine l_arg (j := 3) C rfl rfl (by omega) dL_law_997 dL_law_998 dL_law_999 rfl dL_law_1000 dL_law_1001 ?_
  refine l_callM (v := .int v) (mi := mi_X12_saves) (rest := [.int v]) C (by rw [← hM]; exact X12_saves_ok (l, D, aC, adM) (xs (k + 1)) (xs (k + 2)) (xs (k + 3)) MM) rfl (Nat.le_of_ble_eq_true rfl) dL_law_1002 lkL_123 cal_X12_saves rfl rfl (Nat.le_of_ble_eq_true rfl) rfl ?_
  exact l_same (tgt := 1427) C dL_law_1005 rfl (kk _ _ hR1)
set_option maxRecDepth 100000 in
set_option maxHeartbeats 2000000 in
theorem law_c26 {p : Program} {l : Launch} {e : Env} {s : State} {m : MethodId} {below : List Frame} {meth : Method} {c : Code} {b L : Nat} {xs : Nat → Int32} {D : va_G} {aC adX adM : Nat → Nat} {MX MM : Mem} {R : Mem → Mem → Prop} {k : Nat} (C : zLC p l s m meth c b L xs D aC adX adM) (hk : k + 5 < L) (hR : R MX MM) (hs : zStep R (fun M => (dO (dI M)) (X11_richest M)) (fun M => (dO (dI M)) (X12_richest M))) (kk : ∀ MX MM : Mem, R MX MM → Lx p l e s m below meth c b D aC adX adM 1427 [some (.ref b), some (.ref (adX 0)), some (.ref (adM 0)), some (.int (nI k))] [] MX MM) : Lx p l e s m below meth c b D aC adX adM 1010 [some (.ref b), some (.ref (adX 0)), some (.ref (adM 0)), some (.int (nI k))] [] MX MM := by
  obtain ⟨v, MX1, MM1, hX, hM, hR1⟩ := hs MX MM hR
  refine l_aload C dL_law_1010 rfl ?_
  refine l_callX (v := .int v) (mi := mi_X11_richest) (rest := []) C (by rw [← hX]; exact X11_richest_ok (l, D, aC, adX) MX) rfl (Nat.le_of_ble_eq_true rfl) dL_law_1011 lkL_124 cal_X11_richest rfl rfl (Nat.le_of_ble_eq_true rfl) rfl ?_
  refine l_aload C dL_law_1014 rfl ?_
  refine l_callM (v := .int v) (mi := mi_X12_richest) (rest := [.int v]) C (by rw [← hM]; exact X12_richest_ok (l, D, aC, adM) MM) rfl (Nat.le_of_ble_eq_true rfl) dL_law_1015 lkL_127 cal_X12_richest rfl rfl (Nat.le_of_ble_eq_true rfl) rfl ?_
  exact l_same (tgt := 1427) C dL_law_1018 rfl (kk _ _ hR1)
set_option maxRecDepth 100000 in
set_option maxHeartbeats 2000000 in
theorem law_c27 {p : Program} {l : Launch} {e : Env} {s : State} {m : MethodId} {below : List Frame} {meth : Method} {c : Code} {b L : Nat} {xs : Nat → Int32} {D : va_G} {aC adX adM : Nat → Nat} {MX MM : Mem} {R : Mem → Mem → Prop} {k : Nat} (C : zLC p l s m meth c b L xs D aC adX adM) (hk : k + 5 < L) (hR : R MX MM) (hs : zStep R (fun M => (dO (dI M)) (X11_gulf M)) (fun M => (dO (dI M)) (X12_gulf M))) (kk : ∀ MX MM : Mem, R MX MM → Lx p l e s m below meth c b D aC adX adM 1427 [some (.ref b), some (.ref (adX 0)), some (.ref (adM 0)), some (.int (nI k))] [] MX MM) : Lx p l e s m below meth c b D aC adX adM 1023 [some (.ref b), some (.ref (adX 0)), some (.ref (adM 0)), some (.int (nI k))] [] MX MM := by
  obtain ⟨v, MX1, MM1, hX, hM, hR1⟩ := hs MX MM hR
  refine l_aload C dL_law_1023 rfl ?_
  refine l_callX (v := .int v) (mi := mi_X11_gulf) (rest := []) C (by rw [← hX]; exact X11_gulf_ok (l, D, aC, adX) MX) rfl (Nat.le_of_ble_eq_true rfl) dL_law_1024 lkL_128 cal_X11_gulf rfl rfl (Nat.le_of_ble_eq_true rfl) rfl ?_
  refine l_aload C dL_law_1027 rfl ?_
  refine l_callM (v := .int v) (mi := mi_X12_gulf) (rest := [.int v]) C (by rw [← hM]; exact X12_gulf_ok (l, D, aC, adM) MM) rfl (Nat.le_of_ble_eq_true rfl) dL_law_1028 lkL_131 cal_X12_gulf rfl rfl (Nat.le_of_ble_eq_true rfl) rfl ?_
  exact l_same (tgt := 1427) C dL_law_1031 rfl (kk _ _ hR1)
set_option maxRecDepth 100000 in
set_option maxHeartbeats 2000000 in
theorem law_c28 {p : Program} {l : Launch} {e : Env} {s : State} {m : MethodId} {below : List Frame} {meth : Method} {c : Code} {b L : Nat} {xs : Nat → Int32} {D : va_G} {aC adX adM : Nat → Nat} {MX MM : Mem} {R : Mem → Mem → Prop} {k : Nat} (C : zLC p l s m meth c b L xs D aC adX adM) (hk : k + 5 < L) (hR : R MX MM) (hs : zStep R (fun M => (dO (dI M)) (X11_most (xs (k + 1)) M)) (fun M => (dO (dI M)) (X12_most (xs (k + 1)) M))) (kk : ∀ MX MM : Mem, R MX MM → Lx p l e s m below meth c b D aC adX adM 1427 [some (.ref b), some (.ref (adX 0)), some (.ref (adM 0)), some (.int (nI k))] [] MX MM) : Lx p l e s m below meth c b D aC adX adM 1036 [some (.ref b), some (.ref (adX 0)), some (.ref (adM 0)), some (.int (nI k))] [] MX MM := by
  obtain ⟨v, MX1, MM1, hX, hM, hR1⟩ := hs MX MM hR
  refine l_aload C dL_law_1036 rfl ?_
  refine l_arg (j := 1) C rfl rfl (by omega) dL_law_1037 dL_law_1038 dL_law_1039 rfl dL_law_1040 dL_law_1041 ?_
  refine l_callX (v := .int v) (mi := mi_X11_most) (rest := []) C (by rw [← hX]; exact X11_most_ok (l, D, aC, adX) (xs (k + 1)) MX) rfl (Nat.le_of_ble_eq_true rfl) dL_law_1042 lkL_132 cal_X11_most rfl rfl (Nat.le_of_ble_eq_true rfl) rfl ?_
  refine l_aload C dL_law_1045 rfl ?_
  refine l_arg (j := 1) C rfl rfl (by omega) dL_law_1046 dL_law_1047 dL_law_1048 rfl dL_law_1049 dL_law_1050 ?_
  refine l_callM (v := .int v) (mi := mi_X12_most) (rest := [.int v]) C (by rw [← hM]; exact X12_most_ok (l, D, aC, adM) (xs (k + 1)) MM) rfl (Nat.le_of_ble_eq_true rfl) dL_law_1051 lkL_135 cal_X12_most rfl rfl (Nat.le_of_ble_eq_true rfl) rfl ?_
  exact l_same (tgt := 1427) C dL_law_1054 rfl (kk _ _ hR1)
set_option maxRecDepth 100000 in
set_option maxHeartbeats 2000000 in
theorem law_c29 {p : Program} {l : Launch} {e : Env} {s : State} {m : MethodId} {below : List Frame} {meth : Method} {c : Code} {b L : Nat} {xs : Nat → Int32} {D : va_G} {aC adX adM : Nat → Nat} {MX MM : Mem} {R : Mem → Mem → Prop} {k : Nat} (C : zLC p l s m meth c b L xs D aC adX adM) (hk : k + 5 < L) (hR : R MX MM) (hs : zStep R (fun M => (dO (dI M)) (X11_gain (xs (k + 1)) M)) (fun M => (dO dIM) (X12_gain (xs (k + 1)) M))) (kk : ∀ MX MM : Mem, R MX MM → Lx p l e s m below meth c b D aC adX adM 1427 [some (.ref b), some (.ref (adX 0)), some (.ref (adM 0)), some (.int (nI k))] [] MX MM) : Lx p l e s m below meth c b D aC adX adM 1059 [some (.ref b), some (.ref (adX 0)), some (.ref (adM 0)), some (.int (nI k))] [] MX MM := by
  obtain ⟨v, MX1, MM1, hX, hM, hR1⟩ := hs MX MM hR
  refine l_aload C dL_law_1059 rfl ?_
  refine l_arg (j := 1) C rfl rfl (by omega) dL_law_1060 dL_law_1061 dL_law_1062 rfl dL_law_1063 dL_law_1064 ?_
  refine l_callX (v := .int v) (mi := mi_X11_gain) (rest := []) C (by rw [← hX]; exact X11_gain_ok (l, D, aC, adX) (xs (k + 1)) MX) rfl (Nat.le_of_ble_eq_true rfl) dL_law_1065 lkL_136 cal_X11_gain rfl rfl (Nat.le_of_ble_eq_true rfl) rfl ?_
  refine l_aload C dL_law_1068 rfl ?_
  refine l_arg (j := 1) C rfl rfl (by omega) dL_law_1069 dL_law_1070 dL_law_1071 rfl dL_law_1072 dL_law_1073 ?_
  refine l_callM (v := .int v) (mi := mi_X12_gain) (rest := [.int v]) C (by rw [← hM]; exact X12_gain_ok (l, D, aC, adM) (xs (k + 1)) MM) rfl (Nat.le_of_ble_eq_true rfl) dL_law_1074 lkL_139 cal_X12_gain rfl rfl (Nat.le_of_ble_eq_true rfl) rfl ?_
  exact l_same (tgt := 1427) C dL_law_1077 rfl (kk _ _ hR1)
set_option maxRecDepth 100000 in
set_option maxHeartbeats 2000000 in
theorem law_c30 {p : Program} {l : Launch} {e : Env} {s : State} {m : MethodId} {below : List Frame} {meth : Method} {c : Code} {b L : Nat} {xs : Nat → Int32} {D : va_G} {aC adX adM : Nat → Nat} {MX MM : Mem} {R : Mem → Mem → Prop} {k : Nat} (C : zLC p l s m meth c b L xs D aC adX adM) (hk : k + 5 < L) (hR : R MX MM) (hs : zStep R (fun M => (dI M) (X11_lies (xs (k + 1)) M)) (fun M => (dO (dI M)) (X12_lies (xs (k + 1)) M))) (kk : ∀ MX MM : Mem, R MX MM → Lx p l e s m below meth c b D aC adX adM 1427 [some (.ref b), some (.ref (adX 0)), some (.ref (adM 0)), some (.int (nI k))] [] MX MM) : Lx p l e s m below meth c b D aC adX adM 1082 [some (.ref b), some (.ref (adX 0)), some (.ref (adM 0)), some (.int (nI k))] [] MX MM := by
  obtain ⟨v, MX1, MM1, hX, hM, hR1⟩ := hs MX MM hR
  refine l_aload C dL_law_1082 rfl ?_
  refine l_arg (j := 1) C rfl rfl (by omega) dL_law_1083 dL_law_1084 dL_law_1085 rfl dL_law_1086 dL_law_1087 ?_
  refine l_callX (v := .int v) (mi := mi_X11_lies) (rest := []) C (by rw [← hX]; exact X11_lies_ok (l, D, aC, adX) (xs (k + 1)) MX) rfl (Nat.le_of_ble_eq_true rfl) dL_law_1088 lkL_140 cal_X11_lies rfl rfl (Nat.le_of_ble_eq_true rfl) rfl ?_
  refine l_aload C dL_law_1091 rfl ?_
  refine l_arg (j := 1) C rfl rfl (by omega) dL_law_1092 dL_law_1093 dL_law_1094 rfl dL_law_1095 dL_law_1096 ?_
  refine l_callM (v := .int v) (mi := mi_X12_lies) (rest := [.int v]) C (by rw [← hM]; exact X12_lies_ok (l, D, aC, adM) (xs (k + 1)) MM) rfl (Nat.le_of_ble_eq_true rfl) dL_law_1097 lkL_143 cal_X12_lies rfl rfl (Nat.le_of_ble_eq_true rfl) rfl ?_
  exact l_same (tgt := 1427) C dL_law_1100 rfl (kk _ _ hR1)
set_option maxRecDepth 100000 in
set_option maxHeartbeats 2000000 in
theorem law_c31 {p : Program} {l : Launch} {e : Env} {s : State} {m : MethodId} {below : List Frame} {meth : Method} {c : Code} {b L : Nat} {xs : Nat → Int32} {D : va_G} {aC adX adM : Nat → Nat} {MX MM : Mem} {R : Mem → Mem → Prop} {k : Nat} (C : zLC p l s m meth c b L xs D aC adX adM) (hk : k + 5 < L) (hR : R MX MM) (hs : zStep R (fun M => dIM (X11_least (xs (k + 1)) (xs (k + 2)) (if xs (k + 3) = 0 then 0 else 1) M)) (fun M => (dO dIM) (X12_least (xs (k + 1)) (xs (k + 2)) (if xs (k + 3) = 0 then 0 else 1) M))) (kk : ∀ MX MM : Mem, R MX MM → Lx p l e s m below meth c b D aC adX adM 1427 [some (.ref b), some (.ref (adX 0)), some (.ref (adM 0)), some (.int (nI k))] [] MX MM) : Lx p l e s m below meth c b D aC adX adM 1105 [some (.ref b), some (.ref (adX 0)), some (.ref (adM 0)), some (.int (nI k))] [] MX MM := by
  obtain ⟨v, MX1, MM1, hX, hM, hR1⟩ := hs MX MM hR
  refine l_aload C dL_law_1105 rfl ?_
  refine l_arg (j := 1) C rfl rfl (by omega) dL_law_1106 dL_law_1107 dL_law_1108 rfl dL_law_1109 dL_law_1110 ?_
  refine l_arg (j := 2) C rfl rfl (by omega) dL_law_1111 dL_law_1112 dL_law_1113 rfl dL_law_1114 dL_law_1115 ?_
  refine l_arg (j := 3) C rfl rfl (by omega) dL_law_1116 dL_law_1117 dL_law_1118 rfl dL_law_1119 dL_law_1120 ?_
  refine l_bool C dL_law_1121 dL_law_1124 dL_law_1125 dL_law_1128 ?_
  refine l_callX (v := .int v) (mi := mi_X11_least) (rest := []) C (by rw [← hX]; exact X11_least_ok (l, D, aC, adX) (xs (k + 1)) (xs (k + 2)) (if xs (k + 3) = 0 then 0 else 1) MX) rfl (Nat.le_of_ble_eq_true rfl) dL_law_1129 lkL_144 cal_X11_least rfl rfl (Nat.le_of_ble_eq_true rfl) rfl ?_
  refine l_aload C dL_law_1132 rfl ?_
  refine l_arg (j := 1) C rfl rfl (by omega) dL_law_1133 dL_law_1134 dL_law_1135 rfl dL_law_1136 dL_law_1137 ?_
  refine l_arg (j := 2) C rfl rfl (by omega) dL_law_1138 dL_law_1139 dL_law_1140 rfl dL_law_1141 dL_law_1142 ?_
  refine l_arg (j := 3) C rfl rfl (by omega) dL_law_1143 dL_law_1144 dL_law_1145 rfl dL_law_1146 dL_law_1147 ?_
  refine l_bool C dL_law_1148 dL_law_1151 dL_law_1152 dL_law_1155 ?_
  refine l_callM (v := .int v) (mi := mi_X12_least) (rest := [.int v]) C (by rw [← hM]; exact X12_least_ok (l, D, aC, adM) (xs (k + 1)) (xs (k + 2)) (if xs (k + 3) = 0 then 0 else 1) MM) rfl (Nat.le_of_ble_eq_true rfl) dL_law_1156 lkL_148 cal_X12_least rfl rfl (Nat.le_of_ble_eq_true rfl) rfl ?_
  exact l_same (tgt := 1427) C dL_law_1159 rfl (kk _ _ hR1)
set_option maxRecDepth 100000 in
set_option maxHeartbeats 2000000 in
theorem law_c32 {p : Program} {l : Launch} {e : Env} {s : State} {m : MethodId} {below : List Frame} {meth : Method} {c : Code} {b L : Nat} {xs : Nat → Int32} {D : va_G} {aC adX adM : Nat → Nat} {MX MM : Mem} {R : Mem → Mem → Prop} {k : Nat} (C : zLC p l s m meth c b L xs D aC adX adM) (hk : k + 5 < L) (hR : R MX MM) (hs : zStep R (fun M => dIM (X11_more (xs (k + 1)) (xs (k + 2)) (if xs (k + 3) = 0 then 0 else 1) M)) (fun M => (dO dIM) (X12_more (xs (k + 1)) (xs (k + 2)) (if xs (k + 3) = 0 then 0 else 1) M))) (kk : ∀ MX MM : Mem, R MX MM → Lx p l e s m below meth c b D aC adX adM 1427 [some (.ref b), some (.ref (adX 0)), some (.ref (adM 0)), some (.int (nI k))] [] MX MM) : Lx p l e s m below meth c b D aC adX adM 1164 [some (.ref b), some (.ref (adX 0)), some (.ref (adM 0)), some (.int (nI k))] [] MX MM := by
  obtain ⟨v, MX1, MM1, hX, hM, hR1⟩ := hs MX MM hR
  refine l_aload C dL_law_1164 rfl ?_
  refine l_arg (j := 1) C rfl rfl (by omega) dL_law_1165 dL_law_1166 dL_law_1167 rfl dL_law_1168 dL_law_1169 ?_
  refine l_arg (j := 2) C rfl rfl (by omega) dL_law_1170 dL_law_1171 dL_law_1172 rfl dL_law_1173 dL_law_1174 ?_
  refine l_arg (j := 3) C rfl rfl (by omega) dL_law_1175 dL_law_1176 dL_law_1177 rfl dL_law_1178 dL_law_1179 ?_
  refine l_bool C dL_law_1180 dL_law_1183 dL_law_1184 dL_law_1187 ?_
  refine l_callX (v := .int v) (mi := mi_X11_more) (rest := []) C (by rw [← hX]; exact X11_more_ok (l, D, aC, adX) (xs (k + 1)) (xs (k + 2)) (if xs (k + 3) = 0 then 0 else 1) MX) rfl (Nat.le_of_ble_eq_true rfl) dL_law_1188 lkL_149 cal_X11_more rfl rfl (Nat.le_of_ble_eq_true rfl) rfl ?_
  refine l_aload C dL_law_1191 rfl ?_
  refine l_arg (j := 1) C rfl rfl (by omega) dL_law_1192 dL_law_1193 dL_law_1194 rfl dL_law_1195 dL_law_1196 ?_
  refine l_arg (j := 2) C rfl rfl (by omega) dL_law_1197 dL_law_1198 dL_law_1199 rfl dL_law_1200 dL_law_1201 ?_
  refine l_arg (j := 3) C rfl rfl (by omega) dL_law_1202 dL_law_1203 dL_law_1204 rfl dL_law_1205 dL_law_1206 ?_
  refine l_bool C dL_law_1207 dL_law_1210 dL_law_1211 dL_law_1214 ?_
  refine l_callM (v := .int v) (mi := mi_X12_more) (rest := [.int v]) C (by rw [← hM]; exact X12_more_ok (l, D, aC, adM) (xs (k + 1)) (xs (k + 2)) (if xs (k + 3) = 0 then 0 else 1) MM) rfl (Nat.le_of_ble_eq_true rfl) dL_law_1215 lkL_152 cal_X12_more rfl rfl (Nat.le_of_ble_eq_true rfl) rfl ?_
  exact l_same (tgt := 1427) C dL_law_1218 rfl (kk _ _ hR1)
set_option maxRecDepth 100000 in
set_option maxHeartbeats 2000000 in
theorem law_c33 {p : Program} {l : Launch} {e : Env} {s : State} {m : MethodId} {below : List Frame} {meth : Method} {c : Code} {b L : Nat} {xs : Nat → Int32} {D : va_G} {aC adX adM : Nat → Nat} {MX MM : Mem} {R : Mem → Mem → Prop} {k : Nat} (C : zLC p l s m meth c b L xs D aC adX adM) (hk : k + 5 < L) (hR : R MX MM) (hs : zStep R (fun M => dZM (X11_untell (xs (k + 1)) M)) (fun M => (dO dZM) (X12_untell (xs (k + 1)) M))) (kk : ∀ MX MM : Mem, R MX MM → Lx p l e s m below meth c b D aC adX adM 1427 [some (.ref b), some (.ref (adX 0)), some (.ref (adM 0)), some (.int (nI k))] [] MX MM) : Lx p l e s m below meth c b D aC adX adM 1223 [some (.ref b), some (.ref (adX 0)), some (.ref (adM 0)), some (.int (nI k))] [] MX MM := by
  obtain ⟨v, MX1, MM1, hX, hM, hR1⟩ := hs MX MM hR
  refine l_aload C dL_law_1223 rfl ?_
  refine l_arg (j := 1) C rfl rfl (by omega) dL_law_1224 dL_law_1225 dL_law_1226 rfl dL_law_1227 dL_law_1228 ?_
  refine l_callX (v := .int v) (mi := mi_X11_untell) (rest := []) C (by rw [← hX]; exact X11_untell_ok (l, D, aC, adX) (xs (k + 1)) MX) rfl (Nat.le_of_ble_eq_true rfl) dL_law_1229 lkL_153 cal_X11_untell rfl rfl (Nat.le_of_ble_eq_true rfl) rfl ?_
  refine l_aload C dL_law_1232 rfl ?_
  refine l_arg (j := 1) C rfl rfl (by omega) dL_law_1233 dL_law_1234 dL_law_1235 rfl dL_law_1236 dL_law_1237 ?_
  refine l_callM (v := .int v) (mi := mi_X12_untell) (rest := [.int v]) C (by rw [← hM]; exact X12_untell_ok (l, D, aC, adM) (xs (k + 1)) MM) rfl (Nat.le_of_ble_eq_true rfl) dL_law_1238 lkL_157 cal_X12_untell rfl rfl (Nat.le_of_ble_eq_true rfl) rfl ?_
  exact l_same (tgt := 1427) C dL_law_1241 rfl (kk _ _ hR1)
set_option maxRecDepth 100000 in
set_option maxHeartbeats 2000000 in
theorem law_c34 {p : Program} {l : Launch} {e : Env} {s : State} {m : MethodId} {below : List Frame} {meth : Method} {c : Code} {b L : Nat} {xs : Nat → Int32} {D : va_G} {aC adX adM : Nat → Nat} {MX MM : Mem} {R : Mem → Mem → Prop} {k : Nat} (C : zLC p l s m meth c b L xs D aC adX adM) (hk : k + 5 < L) (hR : R MX MM) (hs : zStep R (fun M => dIM (X11_later (xs (k + 1)) M)) (fun M => dIM (X12_later (xs (k + 1)) M))) (kk : ∀ MX MM : Mem, R MX MM → Lx p l e s m below meth c b D aC adX adM 1427 [some (.ref b), some (.ref (adX 0)), some (.ref (adM 0)), some (.int (nI k))] [] MX MM) : Lx p l e s m below meth c b D aC adX adM 1246 [some (.ref b), some (.ref (adX 0)), some (.ref (adM 0)), some (.int (nI k))] [] MX MM := by
  obtain ⟨v, MX1, MM1, hX, hM, hR1⟩ := hs MX MM hR
  refine l_aload C dL_law_1246 rfl ?_
  refine l_arg (j := 1) C rfl rfl (by omega) dL_law_1247 dL_law_1248 dL_law_1249 rfl dL_law_1250 dL_law_1251 ?_
  refine l_callX (v := .int v) (mi := mi_X11_later) (rest := []) C (by rw [← hX]; exact X11_later_ok (l, D, aC, adX) (xs (k + 1)) MX) rfl (Nat.le_of_ble_eq_true rfl) dL_law_1252 lkL_158 cal_X11_later rfl rfl (Nat.le_of_ble_eq_true rfl) rfl ?_
  refine l_aload C dL_law_1255 rfl ?_
  refine l_arg (j := 1) C rfl rfl (by omega) dL_law_1256 dL_law_1257 dL_law_1258 rfl dL_law_1259 dL_law_1260 ?_
  refine l_callM (v := .int v) (mi := mi_X12_later) (rest := [.int v]) C (by rw [← hM]; exact X12_later_ok (l, D, aC, adM) (xs (k + 1)) MM) rfl (Nat.le_of_ble_eq_true rfl) dL_law_1261 lkL_161 cal_X12_later rfl rfl (Nat.le_of_ble_eq_true rfl) rfl ?_
  exact l_same (tgt := 1427) C dL_law_1264 rfl (kk _ _ hR1)
set_option maxRecDepth 100000 in
set_option maxHeartbeats 2000000 in
theorem law_c35 {p : Program} {l : Launch} {e : Env} {s : State} {m : MethodId} {below : List Frame} {meth : Method} {c : Code} {b L : Nat} {xs : Nat → Int32} {D : va_G} {aC adX adM : Nat → Nat} {MX MM : Mem} {R : Mem → Mem → Prop} {k : Nat} (C : zLC p l s m meth c b L xs D aC adX adM) (hk : k + 5 < L) (hR : R MX MM) (hs : zStep R (fun M => (dO dIM) (X11_orders (xs (k + 1)) M)) (fun M => (dO dIM) (X12_orders (xs (k + 1)) M))) (kk : ∀ MX MM : Mem, R MX MM → Lx p l e s m below meth c b D aC adX adM 1427 [some (.ref b), some (.ref (adX 0)), some (.ref (adM 0)), some (.int (nI k))] [] MX MM) : Lx p l e s m below meth c b D aC adX adM 1269 [some (.ref b), some (.ref (adX 0)), some (.ref (adM 0)), some (.int (nI k))] [] MX MM := by
  obtain ⟨v, MX1, MM1, hX, hM, hR1⟩ := hs MX MM hR
  refine l_aload C dL_law_1269 rfl ?_
  refine l_arg (j := 1) C rfl rfl (by omega) dL_law_1270 dL_law_1271 dL_law_1272 rfl dL_law_1273 dL_law_1274 ?_
  refine l_callX (v := .int v) (mi := mi_X11_orders) (rest := []) C (by rw [← hX]; exact X11_orders_ok (l, D, aC, adX) (xs (k + 1)) MX) rfl (Nat.le_of_ble_eq_true rfl) dL_law_1275 lkL_162 cal_X11_orders rfl rfl (Nat.le_of_ble_eq_true rfl) rfl ?_
  refine l_aload C dL_law_1278 rfl ?_
  refine l_arg (j := 1) C rfl rfl (by omega) dL_law_1279 dL_law_1280 dL_law_1281 rfl dL_law_1282 dL_law_1283 ?_
  refine l_callM (v := .int v) (mi := mi_X12_orders) (rest := [.int v]) C (by rw [← hM]; exact X12_orders_ok (l, D, aC, adM) (xs (k + 1)) MM) rfl (Nat.le_of_ble_eq_true rfl) dL_law_1284 lkL_165 cal_X12_orders rfl rfl (Nat.le_of_ble_eq_true rfl) rfl ?_
  exact l_same (tgt := 1427) C dL_law_1287 rfl (kk _ _ hR1)
set_option maxRecDepth 100000 in
set_option maxHeartbeats 2000000 in
theorem law_c36 {p : Program} {l : Launch} {e : Env} {s : State} {m : MethodId} {below : List Frame} {meth : Method} {c : Code} {b L : Nat} {xs : Nat → Int32} {D : va_G} {aC adX adM : Nat → Nat} {MX MM : Mem} {R : Mem → Mem → Prop} {k : Nat} (C : zLC p l s m meth c b L xs D aC adX adM) (hk : k + 5 < L) (hR : R MX MM) (hs : zStep R (fun M => (dO dIM) (X11_sure (xs (k + 1)) (xs (k + 2)) M)) (fun M => (dO dIM) (X12_sure (xs (k + 1)) (xs (k + 2)) M))) (kk : ∀ MX MM : Mem, R MX MM → Lx p l e s m below meth c b D aC adX adM 1427 [some (.ref b), some (.ref (adX 0)), some (.ref (adM 0)), some (.int (nI k))] [] MX MM) : Lx p l e s m below meth c b D aC adX adM 1292 [some (.ref b), some (.ref (adX 0)), some (.ref (adM 0)), some (.int (nI k))] [] MX MM := by
  obtain ⟨v, MX1, MM1, hX, hM, hR1⟩ := hs MX MM hR
  refine l_aload C dL_law_1292 rfl ?_
  refine l_arg (j := 1) C rfl rfl (by omega) dL_law_1293 dL_law_1294 dL_law_1295 rfl dL_law_1296 dL_law_1297 ?_
  refine l_arg (j := 2) C rfl rfl (by omega) dL_law_1298 dL_law_1299 dL_law_1300 rfl dL_law_1301 dL_law_1302 ?_
  refine l_callX (v := .int v) (mi := mi_X11_sure) (rest := []) C (by rw [← hX]; exact X11_sure_ok (l, D, aC, adX) (xs (k + 1)) (xs (k + 2)) MX) rfl (Nat.le_of_ble_eq_true rfl) dL_law_1303 lkL_166 cal_X11_sure rfl rfl (Nat.le_of_ble_eq_true rfl) rfl ?_
  refine l_aload C dL_law_1306 rfl ?_
  refine l_arg (j := 1) C rfl rfl (by omega) dL_law_1307 dL_law_1308 dL_law_1309 rfl dL_law_1310 dL_law_1311 ?_
  refine l_arg (j := 2) C rfl rfl (by omega) dL_law_1312 dL_law_1313 dL_law_1314 rfl dL_law_1315 dL_law_1316 ?_
  refine l_callM (v := .int v) (mi := mi_X12_sure) (rest := [.int v]) C (by rw [← hM]; exact X12_sure_ok (l, D, aC, adM) (xs (k + 1)) (xs (k + 2)) MM) rfl (Nat.le_of_ble_eq_true rfl) dL_law_1317 lkL_169 cal_X12_sure rfl rfl (Nat.le_of_ble_eq_true rfl) rfl ?_
  exact l_same (tgt := 1427) C dL_law_1320 rfl (kk _ _ hR1)
set_option maxRecDepth 100000 in
set_option maxHeartbeats 2000000 in
theorem law_c37 {p : Program} {l : Launch} {e : Env} {s : State} {m : MethodId} {below : List Frame} {meth : Method} {c : Code} {b L : Nat} {xs : Nat → Int32} {D : va_G} {aC adX adM : Nat → Nat} {MX MM : Mem} {R : Mem → Mem → Prop} {k : Nat} (C : zLC p l s m meth c b L xs D aC adX adM) (hk : k + 5 < L) (hR : R MX MM) (hs : zStep R (fun M => (dO dIM) (X11_ask (xs (k + 1)) (xs (k + 2)) M)) (fun M => (dO dIM) (X12_ask (xs (k + 1)) (xs (k + 2)) M))) (kk : ∀ MX MM : Mem, R MX MM → Lx p l e s m below meth c b D aC adX adM 1427 [some (.ref b), some (.ref (adX 0)), some (.ref (adM 0)), some (.int (nI k))] [] MX MM) : Lx p l e s m below meth c b D aC adX adM 1325 [some (.ref b), some (.ref (adX 0)), some (.ref (adM 0)), some (.int (nI k))] [] MX MM := by
  obtain ⟨v, MX1, MM1, hX, hM, hR1⟩ := hs MX MM hR
  refine l_aload C dL_law_1325 rfl ?_
  refine l_arg (j := 1) C rfl rfl (by omega) dL_law_1326 dL_law_1327 dL_law_1328 rfl dL_law_1329 dL_law_1330 ?_
  refine l_arg (j := 2) C rfl rfl (by omega) dL_law_1331 dL_law_1332 dL_law_1333 rfl dL_law_1334 dL_law_1335 ?_
  refine l_callX (v := .int v) (mi := mi_X11_ask) (rest := []) C (by rw [← hX]; exact X11_ask_ok (l, D, aC, adX) (xs (k + 1)) (xs (k + 2)) MX) rfl (Nat.le_of_ble_eq_true rfl) dL_law_1336 lkL_170 cal_X11_ask rfl rfl (Nat.le_of_ble_eq_true rfl) rfl ?_
  refine l_aload C dL_law_1339 rfl ?_
  refine l_arg (j := 1) C rfl rfl (by omega) dL_law_1340 dL_law_1341 dL_law_1342 rfl dL_law_1343 dL_law_1344 ?_
  refine l_arg (j := 2) C rfl rfl (by omega) dL_law_1345 dL_law_1346 dL_law_1347 rfl dL_law_1348 dL_law_1349 ?_
  refine l_callM (v := .int v) (mi := mi_X12_ask) (rest := [.int v]) C (by rw [← hM]; exact X12_ask_ok (l, D, aC, adM) (xs (k + 1)) (xs (k + 2)) MM) rfl (Nat.le_of_ble_eq_true rfl) dL_law_1350 lkL_173 cal_X12_ask rfl rfl (Nat.le_of_ble_eq_true rfl) rfl ?_
  exact l_same (tgt := 1427) C dL_law_1353 rfl (kk _ _ hR1)
set_option maxRecDepth 100000 in
set_option maxHeartbeats 2000000 in
theorem law_c38 {p : Program} {l : Launch} {e : Env} {s : State} {m : MethodId} {below : List Frame} {meth : Method} {c : Code} {b L : Nat} {xs : Nat → Int32} {D : va_G} {aC adX adM : Nat → Nat} {MX MM : Mem} {R : Mem → Mem → Prop} {k : Nat} (C : zLC p l s m meth c b L xs D aC adX adM) (hk : k + 5 < L) (hR : R MX MM) (hs : zStep R (fun M => (dO dIM) (X11_image (xs (k + 1)) M)) (fun M => (dO dIM) (X12_image (xs (k + 1)) M))) (kk : ∀ MX MM : Mem, R MX MM → Lx p l e s m below meth c b D aC adX adM 1427 [some (.ref b), some (.ref (adX 0)), some (.ref (adM 0)), some (.int (nI k))] [] MX MM) : Lx p l e s m below meth c b D aC adX adM 1358 [some (.ref b), some (.ref (adX 0)), some (.ref (adM 0)), some (.int (nI k))] [] MX MM := by
  obtain ⟨v, MX1, MM1, hX, hM, hR1⟩ := hs MX MM hR
  refine l_aload C dL_law_1358 rfl ?_
  refine l_arg (j := 1) C rfl rfl (by omega) dL_law_1359 dL_law_1360 dL_law_1361 rfl dL_law_1362 dL_law_1363 ?_
  refine l_callX (v := .int v) (mi := mi_X11_image) (rest := []) C (by rw [← hX]; exact X11_image_ok (l, D, aC, adX) (xs (k + 1)) MX) rfl (Nat.le_of_ble_eq_true rfl) dL_law_1364 lkL_174 cal_X11_image rfl rfl (Nat.le_of_ble_eq_true rfl) rfl ?_
  refine l_aload C dL_law_1367 rfl ?_
  refine l_arg (j := 1) C rfl rfl (by omega) dL_law_1368 dL_law_1369 dL_law_1370 rfl dL_law_1371 dL_law_1372 ?_
  refine l_callM (v := .int v) (mi := mi_X12_image) (rest := [.int v]) C (by rw [← hM]; exact X12_image_ok (l, D, aC, adM) (xs (k + 1)) MM) rfl (Nat.le_of_ble_eq_true rfl) dL_law_1373 lkL_177 cal_X12_image rfl rfl (Nat.le_of_ble_eq_true rfl) rfl ?_
  exact l_same (tgt := 1427) C dL_law_1376 rfl (kk _ _ hR1)
set_option maxRecDepth 100000 in
set_option maxHeartbeats 2000000 in
theorem law_c39 {p : Program} {l : Launch} {e : Env} {s : State} {m : MethodId} {below : List Frame} {meth : Method} {c : Code} {b L : Nat} {xs : Nat → Int32} {D : va_G} {aC adX adM : Nat → Nat} {MX MM : Mem} {R : Mem → Mem → Prop} {k : Nat} (C : zLC p l s m meth c b L xs D aC adX adM) (hk : k + 5 < L) (hR : R MX MM) (hs : zStep R (fun M => (dO dIM) (X11_back (xs (k + 1)) M)) (fun M => (dO dIM) (X12_back (xs (k + 1)) M))) (kk : ∀ MX MM : Mem, R MX MM → Lx p l e s m below meth c b D aC adX adM 1427 [some (.ref b), some (.ref (adX 0)), some (.ref (adM 0)), some (.int (nI k))] [] MX MM) : Lx p l e s m below meth c b D aC adX adM 1381 [some (.ref b), some (.ref (adX 0)), some (.ref (adM 0)), some (.int (nI k))] [] MX MM := by
  obtain ⟨v, MX1, MM1, hX, hM, hR1⟩ := hs MX MM hR
  refine l_aload C dL_law_1381 rfl ?_
  refine l_arg (j := 1) C rfl rfl (by omega) dL_law_1382 dL_law_1383 dL_law_1384 rfl dL_law_1385 dL_law_1386 ?_
  refine l_callX (v := .int v) (mi := mi_X11_back) (rest := []) C (by rw [← hX]; exact X11_back_ok (l, D, aC, adX) (xs (k + 1)) MX) rfl (Nat.le_of_ble_eq_true rfl) dL_law_1387 lkL_178 cal_X11_back rfl rfl (Nat.le_of_ble_eq_true rfl) rfl ?_
  refine l_aload C dL_law_1390 rfl ?_
  refine l_arg (j := 1) C rfl rfl (by omega) dL_law_1391 dL_law_1392 dL_law_1393 rfl dL_law_1394 dL_law_1395 ?_
  refine l_callM (v := .int v) (mi := mi_X12_back) (rest := [.int v]) C (by rw [← hM]; exact X12_back_ok (l, D, aC, adM) (xs (k + 1)) MM) rfl (Nat.le_of_ble_eq_true rfl) dL_law_1396 lkL_181 cal_X12_back rfl rfl (Nat.le_of_ble_eq_true rfl) rfl ?_
  exact l_same (tgt := 1427) C dL_law_1399 rfl (kk _ _ hR1)
set_option maxRecDepth 100000 in
set_option maxHeartbeats 2000000 in
theorem law_c40 {p : Program} {l : Launch} {e : Env} {s : State} {m : MethodId} {below : List Frame} {meth : Method} {c : Code} {b L : Nat} {xs : Nat → Int32} {D : va_G} {aC adX adM : Nat → Nat} {MX MM : Mem} {R : Mem → Mem → Prop} {k : Nat} (C : zLC p l s m meth c b L xs D aC adX adM) (hk : k + 5 < L) (hR : R MX MM) (hs : zStep R (fun M => (dI M) (X11_about (xs (k + 1)) M)) (fun M => (dO (dI M)) (X12_about (xs (k + 1)) M))) (kk : ∀ MX MM : Mem, R MX MM → Lx p l e s m below meth c b D aC adX adM 1427 [some (.ref b), some (.ref (adX 0)), some (.ref (adM 0)), some (.int (nI k))] [] MX MM) : Lx p l e s m below meth c b D aC adX adM 1404 [some (.ref b), some (.ref (adX 0)), some (.ref (adM 0)), some (.int (nI k))] [] MX MM := by
  obtain ⟨v, MX1, MM1, hX, hM, hR1⟩ := hs MX MM hR
  refine l_aload C dL_law_1404 rfl ?_
  refine l_arg (j := 1) C rfl rfl (by omega) dL_law_1405 dL_law_1406 dL_law_1407 rfl dL_law_1408 dL_law_1409 ?_
  refine l_callX (v := .int v) (mi := mi_X11_about) (rest := []) C (by rw [← hX]; exact X11_about_ok (l, D, aC, adX) (xs (k + 1)) MX) rfl (Nat.le_of_ble_eq_true rfl) dL_law_1410 lkL_182 cal_X11_about rfl rfl (Nat.le_of_ble_eq_true rfl) rfl ?_
  refine l_aload C dL_law_1413 rfl ?_
  refine l_arg (j := 1) C rfl rfl (by omega) dL_law_1414 dL_law_1415 dL_law_1416 rfl dL_law_1417 dL_law_1418 ?_
  refine l_callM (v := .int v) (mi := mi_X12_about) (rest := [.int v]) C (by rw [← hM]; exact X12_about_ok (l, D, aC, adM) (xs (k + 1)) MM) rfl (Nat.le_of_ble_eq_true rfl) dL_law_1419 lkL_185 cal_X12_about rfl rfl (Nat.le_of_ble_eq_true rfl) rfl ?_
  exact l_same (tgt := 1427) C dL_law_1422 rfl (kk _ _ hR1)
set_option maxRecDepth 100000 in
set_option maxHeartbeats 4000000 in
/-- the law's loop: with a relation that each call keeps, and of which each call answers alike, it ends with 1 -/
theorem law_loop {p : Program} {l : Launch} {e : Env} {s : State} {m : MethodId} {below : List Frame} {meth : Method} {c : Code} {b L : Nat} {xs : Nat → Int32} {D : va_G} {aC adX adM : Nat → Nat} (C : zLC p l s m meth c b L xs D aC adX adM) (R : Mem → Mem → Prop)
    (h0 : ∀ a1 a2 a3 a4 a5 : Int32, zStep R (fun M => (dO dIM) (X11_feed a1 a2 a3 a4 a5 M)) (fun M => (dO dIM) (X12_feed a1 a2 a3 a4 a5 M))) (h1 : ∀ a1 : Int32, zStep R (fun M => dIM (X11_end a1 M)) (fun M => dIM (X12_end a1 M))) (h2 : zStep R (fun M => (dO dIM) (X11_mill M)) (fun M => (dO dIM) (X12_mill M))) (h3 : ∀ a1 : Int32, zStep R (fun M => (dI M) (X11_fault a1 M)) (fun M => (dI M) (X12_fault a1 M))) (h4 : ∀ a1 a2 : Int32, zStep R (fun M => (dO dIM) (X11_man a1 a2 M)) (fun M => (dO dIM) (X12_man a1 a2 M))) (h5 : ∀ a1 a2 : Int32, zStep R (fun M => (dI M) (X11_purse a1 a2 M)) (fun M => (dO (dI M)) (X12_purse a1 a2 M))) (h6 : ∀ a1 a2 : Int32, zStep R (fun M => (dI M) (X11_over a1 a2 M)) (fun M => (dO (dI M)) (X12_over a1 a2 M))) (h7 : ∀ a1 a2 : Int32, zStep R (fun M => (dI M) (X11_pay a1 a2 M)) (fun M => (dO (dI M)) (X12_pay a1 a2 M))) (h8 : ∀ a1 a2 : Int32, zStep R (fun M => (dO (dI M)) (X11_all a1 a2 M)) (fun M => (dO (dI M)) (X12_all a1 a2 M))) (h9 : ∀ a1 : Int32, zStep R (fun M => (dI M) (X11_left a1 M)) (fun M => (dO (dI M)) (X12_left a1 M))) (h10 : ∀ a1 a2 a3 : Int32, zStep R (fun M => (dO dIM) (X11_spend a1 a2 a3 M)) (fun M => (dO dIM) (X12_spend a1 a2 a3 M))) (h11 : ∀ a1 a2 a3 a4 : Int32, zStep R (fun M => (dO dIM) (X11_give a1 a2 a3 a4 M)) (fun M => (dO dIM) (X12_give a1 a2 a3 a4 M))) (h12 : ∀ a1 a2 a3 : Int32, zStep R (fun M => (dO dIM) (X11_change a1 a2 a3 M)) (fun M => (dO dIM) (X12_change a1 a2 a3 M))) (h13 : zStep R (fun M => (dO dIM) (X11_week M)) (fun M => (dO dIM) (X12_week M))) (h14 : zStep R (fun M => (dO dZM) (X11_undo M)) (fun M => (dO dZM) (X12_undo M))) (h15 : zStep R (fun M => (dO dZM) (X11_redo M)) (fun M => (dO dZM) (X12_redo M))) (h16 : ∀ a1 a2 : Int32, zStep R (fun M => (dO dIM) (X11_best a1 a2 M)) (fun M => (dO dIM) (X12_best a1 a2 M))) (h17 : ∀ a1 : Int32, zStep R (fun M => (dO dIM) (X11_leaks a1 M)) (fun M => (dO dIM) (X12_leaks a1 M))) (h18 : ∀ a1 a2 : Int32, zStep R (fun M => (dO dIM) (X11_good a1 a2 M)) (fun M => (dO dIM) (X12_good a1 a2 M))) (h19 : ∀ a1 a2 : Int32, zStep R (fun M => (dO dIM) (X11_needs a1 a2 M)) (fun M => (dO dIM) (X12_needs a1 a2 M))) (h20 : ∀ a1 a2 : Int32, zStep R (fun M => (dO dIM) (X11_pool a1 a2 M)) (fun M => (dO dIM) (X12_pool a1 a2 M))) (h21 : ∀ a1 a2 : Int32, zStep R (fun M => (dO dIM) (X11_joint a1 a2 M)) (fun M => (dO dIM) (X12_joint a1 a2 M))) (h22 : zStep R (fun M => (dO dIM) (X11_rest M)) (fun M => (dO dIM) (X12_rest M))) (h23 : ∀ a1 a2 : Int32, zStep R (fun M => (dO dIM) (X11_will a1 a2 M)) (fun M => (dO dIM) (X12_will a1 a2 M))) (h24 : ∀ a1 a2 : Int32, zStep R (fun M => (dO dIM) (X11_thrive a1 a2 M)) (fun M => (dO dIM) (X12_thrive a1 a2 M))) (h25 : ∀ a1 a2 a3 : Int32, zStep R (fun M => (dO (dI M)) (X11_saves a1 a2 a3 M)) (fun M => (dO (dI M)) (X12_saves a1 a2 a3 M))) (h26 : zStep R (fun M => (dO (dI M)) (X11_richest M)) (fun M => (dO (dI M)) (X12_richest M))) (h27 : zStep R (fun M => (dO (dI M)) (X11_gulf M)) (fun M => (dO (dI M)) (X12_gulf M))) (h28 : ∀ a1 : Int32, zStep R (fun M => (dO (dI M)) (X11_most a1 M)) (fun M => (dO (dI M)) (X12_most a1 M))) (h29 : ∀ a1 : Int32, zStep R (fun M => (dO (dI M)) (X11_gain a1 M)) (fun M => (dO dIM) (X12_gain a1 M))) (h30 : ∀ a1 : Int32, zStep R (fun M => (dI M) (X11_lies a1 M)) (fun M => (dO (dI M)) (X12_lies a1 M))) (h31 : ∀ a1 a2 a3 : Int32, zStep R (fun M => dIM (X11_least a1 a2 a3 M)) (fun M => (dO dIM) (X12_least a1 a2 a3 M))) (h32 : ∀ a1 a2 a3 : Int32, zStep R (fun M => dIM (X11_more a1 a2 a3 M)) (fun M => (dO dIM) (X12_more a1 a2 a3 M))) (h33 : ∀ a1 : Int32, zStep R (fun M => dZM (X11_untell a1 M)) (fun M => (dO dZM) (X12_untell a1 M))) (h34 : ∀ a1 : Int32, zStep R (fun M => dIM (X11_later a1 M)) (fun M => dIM (X12_later a1 M))) (h35 : ∀ a1 : Int32, zStep R (fun M => (dO dIM) (X11_orders a1 M)) (fun M => (dO dIM) (X12_orders a1 M))) (h36 : ∀ a1 a2 : Int32, zStep R (fun M => (dO dIM) (X11_sure a1 a2 M)) (fun M => (dO dIM) (X12_sure a1 a2 M))) (h37 : ∀ a1 a2 : Int32, zStep R (fun M => (dO dIM) (X11_ask a1 a2 M)) (fun M => (dO dIM) (X12_ask a1 a2 M))) (h38 : ∀ a1 : Int32, zStep R (fun M => (dO dIM) (X11_image a1 M)) (fun M => (dO dIM) (X12_image a1 M))) (h39 : ∀ a1 : Int32, zStep R (fun M => (dO dIM) (X11_back a1 M)) (fun M => (dO dIM) (X12_back a1 M))) (h40 : ∀ a1 : Int32, zStep R (fun M => (dI M) (X11_about a1 M)) (fun M => (dO (dI M)) (X12_about a1 M))) : ∀ (n k : Nat) (MX MM : Mem), L + 6 < n + k → k ≤ L + 6 → R MX MM → Lx p l e s m below meth c b D aC adX adM 18 [some (.ref b), some (.ref (adX 0)), some (.ref (adM 0)), some (.int (nI k))] [] MX MM := by
  intro n
  induction n with
  | zero => intro k MX MM hb1 hb2; omega
  | succ n ih =>
    intro k MX MM hb1 hb2 hR
    refine l_iload C dL_law_18 rfl ?_
    refine l_aload C dL_law_19 rfl ?_
    intro H locs ls hX hM hS hl
    have C' := C
    obtain ⟨hL, ⟨hx, hb, hr, hml, hown, hts, hscr, hbl, hlocks, hgv⟩, -⟩ := C'
    refine va_slen hx hb hscr hbl (Nat.not_le.mpr hbl) hS dL_law_20 ?_
    refine l_bipush (x := 6) C dL_law_21 rfl ?_ H locs ls hX hM hS hl
    intro H locs ls hX hM hS hl
    refine lv_isub hx hb dL_law_23 ?_
    have key : (nI L - 6 : Int32) < nI k ↔ L < k + 6 := by
      rw [Int32.lt_iff_toInt_lt]
      have e1 : (nI L - 6 : Int32).toInt = (L : Int) - 6 := pk_sub_toInt (a := L) (b := 6) (by omega) (by omega)
      rw [e1, nI_toInt (by omega)]
      omega
    refine lv_icmp_gt (tgt := 1433) hx hb dL_law_24 rfl (fun hgt => ?_) (fun hle => ?_)
    · refine l_iconst (x := 1) C dL_law_1433 rfl ?_ H locs ls hX hM hS hl
      intro H locs ls hX hM hS hl
      refine va_forget (fun q hq => hS.2.2 q hq) ?_
      exact lw_ret hx hb hr hlocks dL_law_1434
    · have hk5 : k + 5 < L := by
        have := mt key.mpr hle
        omega
      refine (?_ : Lx p l e s m below meth c b D aC adX adM 27 [some (.ref b), some (.ref (adX 0)), some (.ref (adM 0)), some (.int (nI k))] [] MX MM) H locs ls hX hM hS hl
      refine l_aload C dL_law_27 rfl ?_
      refine l_iload C dL_law_28 rfl ?_
      intro H locs ls hX hM hS hl
      refine va_sld hx hb hscr hbl (Nat.not_le.mpr hbl) hS (vp_in_nI (by omega) (by omega)) dL_law_29 ?_
      refine l_bipush (x := 63) C dL_law_30 rfl ?_ H locs ls hX hM hS hl
      intro H locs ls hX hM hS hl
      refine lv_iand hx hb dL_law_32 ?_
      have back : ∀ MX MM : Mem, R MX MM → Lx p l e s m below meth c b D aC adX adM 1427 [some (.ref b), some (.ref (adX 0)), some (.ref (adM 0)), some (.int (nI k))] [] MX MM := by
        intro MX MM hR H locs ls hX hM hS hl
        have q := zlv_st1 (v := .int (nI (k + 6))) hl (i := 3) (by decide) rfl rfl [some (.ref b), some (.ref (adX 0)), some (.ref (adM 0)), some (.int (nI (k + 6)))] rfl
        obtain ⟨kk, hkk⟩ : ∃ kk, (zal 0 [some (.ref b), some (.ref (adX 0)), some (.ref (adM 0)), some (.int (nI k))])[kk]? = some (3, Value.int (nI k)) := ⟨3, rfl⟩
        refine lv_iinc (v := nI (k + 6)) hx hb dL_law_1427 (zlv_has.mp hl) hkk (by rw [← nI_add]; rfl) (by decide) q.1 (fun ls' h' => ?_)
        refine lv_goto (tgt := 18) hx hb dL_law_1430 rfl ?_
        exact ih (k + 6) MX MM (by omega) (by omega) hR H locs ls' hX hM hS (q.2 ls' h')
      generalize xs (nI k).toNatClampNeg &&& 63 = x
      by_cases c0 : x = 0
      · subst c0
        refine lv_tableIn (tgt := 212) hx hb dL_law_33 (by decide) (by decide) rfl rfl ?_
        exact law_c0 C hk5 hR (h0 (xs (k + 1)) (xs (k + 2)) (xs (k + 3)) (xs (k + 4)) (xs (k + 5))) back H locs ls hX hM hS hl
      by_cases c1 : x = 1
      · subst c1
        refine lv_tableIn (tgt := 275) hx hb dL_law_33 (by decide) (by decide) rfl rfl ?_
        exact law_c1 C hk5 hR (h1 (xs (k + 1))) back H locs ls hX hM hS hl
      by_cases c2 : x = 2
      · subst c2
        refine lv_tableIn (tgt := 298) hx hb dL_law_33 (by decide) (by decide) rfl rfl ?_
        exact law_c2 C hk5 hR (h2) back H locs ls hX hM hS hl
      by_cases c3 : x = 3
      · subst c3
        refine lv_tableIn (tgt := 311) hx hb dL_law_33 (by decide) (by decide) rfl rfl ?_
        exact law_c3 C hk5 hR (h3 (xs (k + 1))) back H locs ls hX hM hS hl
      by_cases c4 : x = 4
      · subst c4
        refine lv_tableIn (tgt := 334) hx hb dL_law_33 (by decide) (by decide) rfl rfl ?_
        exact law_c4 C hk5 hR (h4 (xs (k + 1)) (xs (k + 2))) back H locs ls hX hM hS hl
      by_cases c5 : x = 5
      · subst c5
        refine lv_tableIn (tgt := 367) hx hb dL_law_33 (by decide) (by decide) rfl rfl ?_
        exact law_c5 C hk5 hR (h5 (xs (k + 1)) (xs (k + 2))) back H locs ls hX hM hS hl
      by_cases c6 : x = 6
      · subst c6
        refine lv_tableIn (tgt := 400) hx hb dL_law_33 (by decide) (by decide) rfl rfl ?_
        exact law_c6 C hk5 hR (h6 (xs (k + 1)) (xs (k + 2))) back H locs ls hX hM hS hl
      by_cases c7 : x = 7
      · subst c7
        refine lv_tableIn (tgt := 433) hx hb dL_law_33 (by decide) (by decide) rfl rfl ?_
        exact law_c7 C hk5 hR (h7 (xs (k + 1)) (xs (k + 2))) back H locs ls hX hM hS hl
      by_cases c8 : x = 8
      · subst c8
        refine lv_tableIn (tgt := 466) hx hb dL_law_33 (by decide) (by decide) rfl rfl ?_
        exact law_c8 C hk5 hR (h8 (xs (k + 1)) (xs (k + 2))) back H locs ls hX hM hS hl
      by_cases c9 : x = 9
      · subst c9
        refine lv_tableIn (tgt := 499) hx hb dL_law_33 (by decide) (by decide) rfl rfl ?_
        exact law_c9 C hk5 hR (h9 (xs (k + 1))) back H locs ls hX hM hS hl
      by_cases c10 : x = 10
      · subst c10
        refine lv_tableIn (tgt := 522) hx hb dL_law_33 (by decide) (by decide) rfl rfl ?_
        exact law_c10 C hk5 hR (h10 (xs (k + 1)) (xs (k + 2)) (xs (k + 3))) back H locs ls hX hM hS hl
      by_cases c11 : x = 11
      · subst c11
        refine lv_tableIn (tgt := 565) hx hb dL_law_33 (by decide) (by decide) rfl rfl ?_
        exact law_c11 C hk5 hR (h11 (xs (k + 1)) (xs (k + 2)) (xs (k + 3)) (xs (k + 4))) back H locs ls hX hM hS hl
      by_cases c12 : x = 12
      · subst c12
        refine lv_tableIn (tgt := 618) hx hb dL_law_33 (by decide) (by decide) rfl rfl ?_
        exact law_c12 C hk5 hR (h12 (xs (k + 1)) (xs (k + 2)) (xs (k + 3))) back H locs ls hX hM hS hl
      by_cases c13 : x = 13
      · subst c13
        refine lv_tableIn (tgt := 661) hx hb dL_law_33 (by decide) (by decide) rfl rfl ?_
        exact law_c13 C hk5 hR (h13) back H locs ls hX hM hS hl
      by_cases c14 : x = 14
      · subst c14
        refine lv_tableIn (tgt := 674) hx hb dL_law_33 (by decide) (by decide) rfl rfl ?_
        exact law_c14 C hk5 hR (h14) back H locs ls hX hM hS hl
      by_cases c15 : x = 15
      · subst c15
        refine lv_tableIn (tgt := 687) hx hb dL_law_33 (by decide) (by decide) rfl rfl ?_
        exact law_c15 C hk5 hR (h15) back H locs ls hX hM hS hl
      by_cases c16 : x = 16
      · subst c16
        refine lv_tableIn (tgt := 700) hx hb dL_law_33 (by decide) (by decide) rfl rfl ?_
        exact law_c16 C hk5 hR (h16 (xs (k + 1)) (xs (k + 2))) back H locs ls hX hM hS hl
      by_cases c17 : x = 17
      · subst c17
        refine lv_tableIn (tgt := 733) hx hb dL_law_33 (by decide) (by decide) rfl rfl ?_
        exact law_c17 C hk5 hR (h17 (xs (k + 1))) back H locs ls hX hM hS hl
      by_cases c18 : x = 18
      · subst c18
        refine lv_tableIn (tgt := 756) hx hb dL_law_33 (by decide) (by decide) rfl rfl ?_
        exact law_c18 C hk5 hR (h18 (xs (k + 1)) (xs (k + 2))) back H locs ls hX hM hS hl
      by_cases c19 : x = 19
      · subst c19
        refine lv_tableIn (tgt := 789) hx hb dL_law_33 (by decide) (by decide) rfl rfl ?_
        exact law_c19 C hk5 hR (h19 (xs (k + 1)) (xs (k + 2))) back H locs ls hX hM hS hl
      by_cases c20 : x = 20
      · subst c20
        refine lv_tableIn (tgt := 822) hx hb dL_law_33 (by decide) (by decide) rfl rfl ?_
        exact law_c20 C hk5 hR (h20 (xs (k + 1)) (xs (k + 2))) back H locs ls hX hM hS hl
      by_cases c21 : x = 21
      · subst c21
        refine lv_tableIn (tgt := 855) hx hb dL_law_33 (by decide) (by decide) rfl rfl ?_
        exact law_c21 C hk5 hR (h21 (xs (k + 1)) (xs (k + 2))) back H locs ls hX hM hS hl
      by_cases c22 : x = 22
      · subst c22
        refine lv_tableIn (tgt := 888) hx hb dL_law_33 (by decide) (by decide) rfl rfl ?_
        exact law_c22 C hk5 hR (h22) back H locs ls hX hM hS hl
      by_cases c23 : x = 23
      · subst c23
        refine lv_tableIn (tgt := 901) hx hb dL_law_33 (by decide) (by decide) rfl rfl ?_
        exact law_c23 C hk5 hR (h23 (xs (k + 1)) (xs (k + 2))) back H locs ls hX hM hS hl
      by_cases c24 : x = 24
      · subst c24
        refine lv_tableIn (tgt := 934) hx hb dL_law_33 (by decide) (by decide) rfl rfl ?_
        exact law_c24 C hk5 hR (h24 (xs (k + 1)) (xs (k + 2))) back H locs ls hX hM hS hl
      by_cases c25 : x = 25
      · subst c25
        refine lv_tableIn (tgt := 967) hx hb dL_law_33 (by decide) (by decide) rfl rfl ?_
        exact law_c25 C hk5 hR (h25 (xs (k + 1)) (xs (k + 2)) (xs (k + 3))) back H locs ls hX hM hS hl
      by_cases c26 : x = 26
      · subst c26
        refine lv_tableIn (tgt := 1010) hx hb dL_law_33 (by decide) (by decide) rfl rfl ?_
        exact law_c26 C hk5 hR (h26) back H locs ls hX hM hS hl
      by_cases c27 : x = 27
      · subst c27
        refine lv_tableIn (tgt := 1023) hx hb dL_law_33 (by decide) (by decide) rfl rfl ?_
        exact law_c27 C hk5 hR (h27) back H locs ls hX hM hS hl
      by_cases c28 : x = 28
      · subst c28
        refine lv_tableIn (tgt := 1036) hx hb dL_law_33 (by decide) (by decide) rfl rfl ?_
        exact law_c28 C hk5 hR (h28 (xs (k + 1))) back H locs ls hX hM hS hl
      by_cases c29 : x = 29
      · subst c29
        refine lv_tableIn (tgt := 1059) hx hb dL_law_33 (by decide) (by decide) rfl rfl ?_
        exact law_c29 C hk5 hR (h29 (xs (k + 1))) back H locs ls hX hM hS hl
      by_cases c30 : x = 30
      · subst c30
        refine lv_tableIn (tgt := 1082) hx hb dL_law_33 (by decide) (by decide) rfl rfl ?_
        exact law_c30 C hk5 hR (h30 (xs (k + 1))) back H locs ls hX hM hS hl
      by_cases c31 : x = 31
      · subst c31
        refine lv_tableIn (tgt := 1105) hx hb dL_law_33 (by decide) (by decide) rfl rfl ?_
        exact law_c31 C hk5 hR (h31 (xs (k + 1)) (xs (k + 2)) (if xs (k + 3) = 0 then 0 else 1)) back H locs ls hX hM hS hl
      by_cases c32 : x = 32
      · subst c32
        refine lv_tableIn (tgt := 1164) hx hb dL_law_33 (by decide) (by decide) rfl rfl ?_
        exact law_c32 C hk5 hR (h32 (xs (k + 1)) (xs (k + 2)) (if xs (k + 3) = 0 then 0 else 1)) back H locs ls hX hM hS hl
      by_cases c33 : x = 33
      · subst c33
        refine lv_tableIn (tgt := 1223) hx hb dL_law_33 (by decide) (by decide) rfl rfl ?_
        exact law_c33 C hk5 hR (h33 (xs (k + 1))) back H locs ls hX hM hS hl
      by_cases c34 : x = 34
      · subst c34
        refine lv_tableIn (tgt := 1246) hx hb dL_law_33 (by decide) (by decide) rfl rfl ?_
        exact law_c34 C hk5 hR (h34 (xs (k + 1))) back H locs ls hX hM hS hl
      by_cases c35 : x = 35
      · subst c35
        refine lv_tableIn (tgt := 1269) hx hb dL_law_33 (by decide) (by decide) rfl rfl ?_
        exact law_c35 C hk5 hR (h35 (xs (k + 1))) back H locs ls hX hM hS hl
      by_cases c36 : x = 36
      · subst c36
        refine lv_tableIn (tgt := 1292) hx hb dL_law_33 (by decide) (by decide) rfl rfl ?_
        exact law_c36 C hk5 hR (h36 (xs (k + 1)) (xs (k + 2))) back H locs ls hX hM hS hl
      by_cases c37 : x = 37
      · subst c37
        refine lv_tableIn (tgt := 1325) hx hb dL_law_33 (by decide) (by decide) rfl rfl ?_
        exact law_c37 C hk5 hR (h37 (xs (k + 1)) (xs (k + 2))) back H locs ls hX hM hS hl
      by_cases c38 : x = 38
      · subst c38
        refine lv_tableIn (tgt := 1358) hx hb dL_law_33 (by decide) (by decide) rfl rfl ?_
        exact law_c38 C hk5 hR (h38 (xs (k + 1))) back H locs ls hX hM hS hl
      by_cases c39 : x = 39
      · subst c39
        refine lv_tableIn (tgt := 1381) hx hb dL_law_33 (by decide) (by decide) rfl rfl ?_
        exact law_c39 C hk5 hR (h39 (xs (k + 1))) back H locs ls hX hM hS hl
      by_cases c40 : x = 40
      · subst c40
        refine lv_tableIn (tgt := 1404) hx hb dL_law_33 (by decide) (by decide) rfl rfl ?_
        exact law_c40 C hk5 hR (h40 (xs (k + 1))) back H locs ls hX hM hS hl
      have hout : x.toInt < 0 ∨ 40 < x.toInt := by
        rcases Int.lt_or_le x.toInt 0 with h | h
        · exact Or.inl h
        · rcases Int.lt_or_le 40 x.toInt with h2 | h2
          · exact Or.inr h2
          · exfalso
            obtain ⟨j, hj, rfl⟩ : ∃ j : Nat, j < 41 ∧ x = nI j := vp_in_of (n := 41) (vp_in_iff.mpr ⟨h, by omega⟩) (by decide)
            have : j = 0 ∨ j = 1 ∨ j = 2 ∨ j = 3 ∨ j = 4 ∨ j = 5 ∨ j = 6 ∨ j = 7 ∨ j = 8 ∨ j = 9 ∨ j = 10 ∨ j = 11 ∨ j = 12 ∨ j = 13 ∨ j = 14 ∨ j = 15 ∨ j = 16 ∨ j = 17 ∨ j = 18 ∨ j = 19 ∨ j = 20 ∨ j = 21 ∨ j = 22 ∨ j = 23 ∨ j = 24 ∨ j = 25 ∨ j = 26 ∨ j = 27 ∨ j = 28 ∨ j = 29 ∨ j = 30 ∨ j = 31 ∨ j = 32 ∨ j = 33 ∨ j = 34 ∨ j = 35 ∨ j = 36 ∨ j = 37 ∨ j = 38 ∨ j = 39 ∨ j = 40 := by omega
            rcases this with rfl | rfl | rfl | rfl | rfl | rfl | rfl | rfl | rfl | rfl | rfl | rfl | rfl | rfl | rfl | rfl | rfl | rfl | rfl | rfl | rfl | rfl | rfl | rfl | rfl | rfl | rfl | rfl | rfl | rfl | rfl | rfl | rfl | rfl | rfl | rfl | rfl | rfl | rfl | rfl | rfl
            · exact c0 rfl
            · exact c1 rfl
            · exact c2 rfl
            · exact c3 rfl
            · exact c4 rfl
            · exact c5 rfl
            · exact c6 rfl
            · exact c7 rfl
            · exact c8 rfl
            · exact c9 rfl
            · exact c10 rfl
            · exact c11 rfl
            · exact c12 rfl
            · exact c13 rfl
            · exact c14 rfl
            · exact c15 rfl
            · exact c16 rfl
            · exact c17 rfl
            · exact c18 rfl
            · exact c19 rfl
            · exact c20 rfl
            · exact c21 rfl
            · exact c22 rfl
            · exact c23 rfl
            · exact c24 rfl
            · exact c25 rfl
            · exact c26 rfl
            · exact c27 rfl
            · exact c28 rfl
            · exact c29 rfl
            · exact c30 rfl
            · exact c31 rfl
            · exact c32 rfl
            · exact c33 rfl
            · exact c34 rfl
            · exact c35 rfl
            · exact c36 rfl
            · exact c37 rfl
            · exact c38 rfl
            · exact c39 rfl
            · exact c40 rfl
      refine lv_tableOut (tgt := 1427) hx hb dL_law_33 hout rfl ?_
      exact back MX MM hR H locs ls hX hM hS hl

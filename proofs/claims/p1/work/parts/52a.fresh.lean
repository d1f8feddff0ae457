/-! THE CLAIM OUT OF ONE WALK OF THE LAW'S BODY. Your part is whole_start (and what it stands on); all else here is the same for every law, but numbers. -/
def R_law : String := "MotionSignsLaw"
def lw_P (b : Addr) (xs : List Int32) (args : Array Value) (s : State) : Prop := args = #[.ref b] ∧ s.IntsAt b xs ∧ xs.length ≤ 6 ∧ (Jvm.Cond.and given_1 narrow_1).before args s = true
def lw_Q (_ : Array Value) (s : State) (o : Outcome) (t : State) : Prop := o = .returned (some (.int 1)) ∧ Framed s o t [] 600002 7302232
def lw_Z (below : List Frame) (a : Array Value) (s : State) : State → Prop := fun t => ∃ o, t.status = .running ∧ Ended t below o ∧ lw_Q a s o t
/-- the law's own end, with 1 on the stack, nothing written that was there before, its room as the claim has it -/
theorem lw_ret {p : Program} {l : Launch} {e : Env} {s : State} {m : MethodId} {below : List Frame} {meth : Method} {c : Code} {b : Nat} (hx : p.tables.exec = Jvm.exec) (hb : c.code = code) (hr : meth.sig.returnType = ret) (hlocks : meth.locks = false) {pc : Nat} {H : Heap} {ls : Array Slot} (hdg : decode code pc = .ok (.ireturn, 1)) : W p l e room_1 s m #[Value.ref b] below meth c H [] 600002 7302232 (lw_Z below #[Value.ref b] s) (F0 m pc ls [.int 1]) := by
  intro T hT X
  obtain ⟨fs, hret, hrun, hended, hW, hframe⟩ := X.leave (v := some (.int 1)) (hlocks := hlocks) (fun h => by rw [hr] at h; cases h)
  have hmeth' : T.vm.method? m = some meth := X.method'
  refine ⟨T.setFrames fs, ?_, .returned (some (.int 1)), hrun, hended, rfl, ⟨_, rfl⟩, hW, hframe⟩
  jvm_step X.here [X.here.top, hx, hb, hdg, hmeth', hr, ret, narrow_b1]
  (try refine ⟨rfl, ?_⟩); (try refine ⟨rfl, ?_⟩)
  first | (intro acts; rw [hret _ acts rfl rfl rfl]) | rw [hret _ _ rfl rfl rfl]
  exact Steps.refl _
/-- what holds at the law's entry: the machine, the code, the tables' words (any of lw_tbl by 'hts w (by decide +kernel)'), the script of L ints xs at the cell b, what the Statement gives of the start (any of its parts by flat_of_before) -/
def lw_At (p : Program) (s : State) (m : MethodId) (meth : Method) (c : Code) (b L : Nat) (xs : Nat → Int32) : Prop :=
  p.tables.exec = Jvm.exec ∧ c.code = code ∧ meth.sig.returnType = ret ∧ c.maxLocals = 8 ∧ s.vm.findClass R_law = some m.cls ∧ (∀ w ∈ lw_tbl, w.before #[Value.ref b] s = true) ∧ va_X b L xs s s.heap ∧ b < s.heap.size ∧ meth.locks = false ∧ (Jvm.Cond.and given_1 narrow_1).before #[Value.ref b] s = true
theorem dL_law_180 : decode code 180 = .ok (.aload_n 1, 1) := by decide +kernel
theorem dL_law_181 : decode code 181 = .ok (.aload_n 0, 1) := by decide +kernel
theorem dL_law_182 : decode code 182 = .ok (.iload 4, 2) := by decide +kernel
theorem dL_law_184 : decode code 184 = .ok (.iconst 1, 1) := by decide +kernel
theorem dL_law_185 : decode code 185 = .ok (.iadd, 1) := by decide +kernel
theorem dL_law_186 : decode code 186 = .ok (.iaload, 1) := by decide +kernel
theorem dL_law_187 : decode code 187 = .ok (.aload_n 0, 1) := by decide +kernel
theorem dL_law_188 : decode code 188 = .ok (.iload 4, 2) := by decide +kernel
theorem dL_law_190 : decode code 190 = .ok (.iconst 2, 1) := by decide +kernel
theorem dL_law_191 : decode code 191 = .ok (.iadd, 1) := by decide +kernel
theorem dL_law_192 : decode code 192 = .ok (.iaload, 1) := by decide +kernel
theorem dL_law_193 : decode code 193 = .ok (.aload_n 0, 1) := by decide +kernel
theorem dL_law_194 : decode code 194 = .ok (.iload 4, 2) := by decide +kernel
theorem dL_law_196 : decode code 196 = .ok (.iconst 3, 1) := by decide +kernel
theorem dL_law_197 : decode code 197 = .ok (.iadd, 1) := by decide +kernel
theorem dL_law_198 : decode code 198 = .ok (.iaload, 1) := by decide +kernel
theorem dL_law_199 : decode code 199 = .ok (.aload_n 0, 1) := by decide +kernel
theorem dL_law_200 : decode code 200 = .ok (.iload 4, 2) := by decide +kernel
theorem dL_law_202 : decode code 202 = .ok (.iconst 4, 1) := by decide +kernel
theorem dL_law_203 : decode code 203 = .ok (.iadd, 1) := by decide +kernel
theorem dL_law_204 : decode code 204 = .ok (.iaload, 1) := by decide +kernel
theorem dL_law_205 : decode code 205 = .ok (.aload_n 0, 1) := by decide +kernel
theorem dL_law_206 : decode code 206 = .ok (.iload 4, 2) := by decide +kernel
theorem dL_law_208 : decode code 208 = .ok (.iconst 5, 1) := by decide +kernel
theorem dL_law_209 : decode code 209 = .ok (.iadd, 1) := by decide +kernel
theorem dL_law_210 : decode code 210 = .ok (.iaload, 1) := by decide +kernel
theorem dL_law_211 : decode code 211 = .ok (.invokevirtual 106, 3) := by decide +kernel
theorem dL_law_214 : decode code 214 = .ok (.aload_n 2, 1) := by decide +kernel
theorem dL_law_215 : decode code 215 = .ok (.aload_n 0, 1) := by decide +kernel
theorem dL_law_216 : decode code 216 = .ok (.iload 4, 2) := by decide +kernel
theorem dL_law_218 : decode code 218 = .ok (.iconst 1, 1) := by decide +kernel
theorem dL_law_219 : decode code 219 = .ok (.iadd, 1) := by decide +kernel
theorem dL_law_220 : decode code 220 = .ok (.iaload, 1) := by decide +kernel
theorem dL_law_221 : decode code 221 = .ok (.aload_n 0, 1) := by decide +kernel
theorem dL_law_222 : decode code 222 = .ok (.iload 4, 2) := by decide +kernel
theorem dL_law_224 : decode code 224 = .ok (.iconst 2, 1) := by decide +kernel
theorem dL_law_225 : decode code 225 = .ok (.iadd, 1) := by decide +kernel
theorem dL_law_226 : decode code 226 = .ok (.iaload, 1) := by decide +kernel
theorem dL_law_227 : decode code 227 = .ok (.aload_n 0, 1) := by decide +kernel
theorem dL_law_228 : decode code 228 = .ok (.iload 4, 2) := by decide +kernel
theorem dL_law_230 : decode code 230 = .ok (.iconst 3, 1) := by decide +kernel
theorem dL_law_231 : decode code 231 = .ok (.iadd, 1) := by decide +kernel
theorem dL_law_232 : decode code 232 = .ok (.iaload, 1) := by decide +kernel
theorem dL_law_233 : decode code 233 = .ok (.aload_n 0, 1) := by decide +kernel
theorem dL_law_234 : decode code 234 = .ok (.iload 4, 2) := by decide +kernel
theorem dL_law_236 : decode code 236 = .ok (.iconst 4, 1) := by decide +kernel
theorem dL_law_237 : decode code 237 = .ok (.iadd, 1) := by decide +kernel
theorem dL_law_238 : decode code 238 = .ok (.iaload, 1) := by decide +kernel
theorem dL_law_239 : decode code 239 = .ok (.aload_n 0, 1) := by decide +kernel
theorem dL_law_240 : decode code 240 = .ok (.iload 4, 2) := by decide +kernel
theorem dL_law_242 : decode code 242 = .ok (.iconst 5, 1) := by decide +kernel
theorem dL_law_243 : decode code 243 = .ok (.iadd, 1) := by decide +kernel
theorem dL_law_244 : decode code 244 = .ok (.iaload, 1) := by decide +kernel
theorem dL_law_245 : decode code 245 = .ok (.invokevirtual 110, 3) := by decide +kernel
theorem dL_law_248 : decode code 248 = .ok (.if_icmp .eq 1770, 3) := by decide +kernel
theorem dL_law_253 : decode code 253 = .ok (.aload_n 1, 1) := by decide +kernel
theorem dL_law_254 : decode code 254 = .ok (.aload_n 0, 1) := by decide +kernel
theorem dL_law_255 : decode code 255 = .ok (.iload 4, 2) := by decide +kernel
theorem dL_law_257 : decode code 257 = .ok (.iconst 1, 1) := by decide +kernel
theorem dL_law_258 : decode code 258 = .ok (.iadd, 1) := by decide +kernel
theorem dL_law_259 : decode code 259 = .ok (.iaload, 1) := by decide +kernel
theorem dL_law_260 : decode code 260 = .ok (.aload_n 3, 1) := by decide +kernel
theorem dL_law_261 : decode code 261 = .ok (.invokestatic 111, 3) := by decide +kernel
theorem dL_law_264 : decode code 264 = .ok (.istore 5, 2) := by decide +kernel
theorem dL_law_266 : decode code 266 = .ok (.aload_n 2, 1) := by decide +kernel
theorem dL_law_267 : decode code 267 = .ok (.aload_n 0, 1) := by decide +kernel
theorem dL_law_268 : decode code 268 = .ok (.iload 4, 2) := by decide +kernel
theorem dL_law_270 : decode code 270 = .ok (.iconst 1, 1) := by decide +kernel
theorem dL_law_271 : decode code 271 = .ok (.iadd, 1) := by decide +kernel
theorem dL_law_272 : decode code 272 = .ok (.iaload, 1) := by decide +kernel
theorem dL_law_273 : decode code 273 = .ok (.invokevirtual 116, 3) := by decide +kernel
theorem dL_law_276 : decode code 276 = .ok (.istore 6, 2) := by decide +kernel
theorem dL_law_278 : decode code 278 = .ok (.aload_n 2, 1) := by decide +kernel
theorem dL_law_279 : decode code 279 = .ok (.invokevirtual 117, 3) := by decide +kernel
theorem dL_law_282 : decode code 282 = .ok (.iload 5, 2) := by decide +kernel
theorem dL_law_284 : decode code 284 = .ok (.if_icmp .eq 5, 3) := by decide +kernel
theorem dL_law_289 : decode code 289 = .ok (.iload 5, 2) := by decide +kernel
theorem dL_law_291 : decode code 291 = .ok (.ifCond .ne 15, 3) := by decide +kernel
theorem dL_law_294 : decode code 294 = .ok (.aload_n 3, 1) := by decide +kernel
theorem dL_law_295 : decode code 295 = .ok (.iconst 0, 1) := by decide +kernel
theorem dL_law_296 : decode code 296 = .ok (.laload, 1) := by decide +kernel
theorem dL_law_297 : decode code 297 = .ok (.iload 6, 2) := by decide +kernel
theorem dL_law_299 : decode code 299 = .ok (.i2l, 1) := by decide +kernel
theorem dL_law_300 : decode code 300 = .ok (.lcmp, 1) := by decide +kernel
theorem dL_law_301 : decode code 301 = .ok (.ifCond .eq 5, 3) := by decide +kernel
theorem dL_law_306 : decode code 306 = .ok (.goto 1712, 3) := by decide +kernel
theorem dL_law_309 : decode code 309 = .ok (.aload_n 1, 1) := by decide +kernel
theorem dL_law_310 : decode code 310 = .ok (.aload_n 0, 1) := by decide +kernel
theorem dL_law_311 : decode code 311 = .ok (.iload 4, 2) := by decide +kernel
theorem dL_law_313 : decode code 313 = .ok (.iconst 1, 1) := by decide +kernel
theorem dL_law_314 : decode code 314 = .ok (.iadd, 1) := by decide +kernel
theorem dL_law_315 : decode code 315 = .ok (.iaload, 1) := by decide +kernel
theorem dL_law_316 : decode code 316 = .ok (.aload_n 3, 1) := by decide +kernel
theorem dL_law_317 : decode code 317 = .ok (.invokestatic 120, 3) := by decide +kernel
theorem dL_law_320 : decode code 320 = .ok (.istore 5, 2) := by decide +kernel
theorem dL_law_322 : decode code 322 = .ok (.aload_n 2, 1) := by decide +kernel
theorem dL_law_323 : decode code 323 = .ok (.aload_n 0, 1) := by decide +kernel
theorem dL_law_324 : decode code 324 = .ok (.iload 4, 2) := by decide +kernel
theorem dL_law_326 : decode code 326 = .ok (.iconst 1, 1) := by decide +kernel
theorem dL_law_327 : decode code 327 = .ok (.iadd, 1) := by decide +kernel
theorem dL_law_328 : decode code 328 = .ok (.iaload, 1) := by decide +kernel
theorem dL_law_329 : decode code 329 = .ok (.invokevirtual 122, 3) := by decide +kernel
theorem dL_law_332 : decode code 332 = .ok (.istore 6, 2) := by decide +kernel
theorem dL_law_334 : decode code 334 = .ok (.aload_n 2, 1) := by decide +kernel
theorem dL_law_335 : decode code 335 = .ok (.invokevirtual 117, 3) := by decide +kernel
theorem dL_law_338 : decode code 338 = .ok (.iload 5, 2) := by decide +kernel
theorem dL_law_340 : decode code 340 = .ok (.if_icmp .eq 5, 3) := by decide +kernel
theorem dL_law_345 : decode code 345 = .ok (.iload 5, 2) := by decide +kernel
theorem dL_law_347 : decode code 347 = .ok (.ifCond .ne 15, 3) := by decide +kernel
theorem dL_law_362 : decode code 362 = .ok (.goto 1656, 3) := by decide +kernel
theorem dL_law_365 : decode code 365 = .ok (.aload_n 1, 1) := by decide +kernel
theorem dL_law_366 : decode code 366 = .ok (.aload_n 0, 1) := by decide +kernel
theorem dL_law_367 : decode code 367 = .ok (.iload 4, 2) := by decide +kernel
theorem dL_law_369 : decode code 369 = .ok (.iconst 1, 1) := by decide +kernel
theorem dL_law_370 : decode code 370 = .ok (.iadd, 1) := by decide +kernel
theorem dL_law_371 : decode code 371 = .ok (.iaload, 1) := by decide +kernel
theorem dL_law_372 : decode code 372 = .ok (.aload_n 3, 1) := by decide +kernel
theorem dL_law_373 : decode code 373 = .ok (.invokestatic 123, 3) := by decide +kernel
theorem dL_law_376 : decode code 376 = .ok (.istore 5, 2) := by decide +kernel
theorem dL_law_378 : decode code 378 = .ok (.aload_n 2, 1) := by decide +kernel
theorem dL_law_379 : decode code 379 = .ok (.aload_n 0, 1) := by decide +kernel
theorem dL_law_380 : decode code 380 = .ok (.iload 4, 2) := by decide +kernel
theorem dL_law_382 : decode code 382 = .ok (.iconst 1, 1) := by decide +kernel
theorem dL_law_383 : decode code 383 = .ok (.iadd, 1) := by decide +kernel
theorem dL_law_384 : decode code 384 = .ok (.iaload, 1) := by decide +kernel
theorem dL_law_385 : decode code 385 = .ok (.invokevirtual 125, 3) := by decide +kernel
theorem dL_law_388 : decode code 388 = .ok (.istore 6, 2) := by decide +kernel
theorem dL_law_390 : decode code 390 = .ok (.aload_n 2, 1) := by decide +kernel
theorem dL_law_391 : decode code 391 = .ok (.invokevirtual 117, 3) := by decide +kernel
theorem dL_law_394 : decode code 394 = .ok (.iload 5, 2) := by decide +kernel
theorem dL_law_396 : decode code 396 = .ok (.if_icmp .eq 5, 3) := by decide +kernel
theorem dL_law_401 : decode code 401 = .ok (.iload 5, 2) := by decide +kernel
theorem dL_law_403 : decode code 403 = .ok (.ifCond .ne 15, 3) := by decide +kernel
theorem dL_law_418 : decode code 418 = .ok (.goto 1600, 3) := by decide +kernel
theorem dL_law_421 : decode code 421 = .ok (.aload_n 1, 1) := by decide +kernel
theorem dL_law_422 : decode code 422 = .ok (.invokevirtual 126, 3) := by decide +kernel
theorem dL_law_425 : decode code 425 = .ok (.aload_n 2, 1) := by decide +kernel
theorem dL_law_426 : decode code 426 = .ok (.invokevirtual 129, 3) := by decide +kernel
theorem dL_law_429 : decode code 429 = .ok (.if_icmp .eq 1589, 3) := by decide +kernel
theorem dL_law_434 : decode code 434 = .ok (.aload_n 1, 1) := by decide +kernel
theorem dL_law_435 : decode code 435 = .ok (.aload_n 0, 1) := by decide +kernel
theorem dL_law_436 : decode code 436 = .ok (.iload 4, 2) := by decide +kernel
theorem dL_law_438 : decode code 438 = .ok (.iconst 1, 1) := by decide +kernel
theorem dL_law_439 : decode code 439 = .ok (.iadd, 1) := by decide +kernel
theorem dL_law_440 : decode code 440 = .ok (.iaload, 1) := by decide +kernel
theorem dL_law_441 : decode code 441 = .ok (.aload_n 3, 1) := by decide +kernel
theorem dL_law_442 : decode code 442 = .ok (.invokestatic 130, 3) := by decide +kernel
theorem dL_law_445 : decode code 445 = .ok (.istore 5, 2) := by decide +kernel
theorem dL_law_447 : decode code 447 = .ok (.aload_n 2, 1) := by decide +kernel
theorem dL_law_448 : decode code 448 = .ok (.aload_n 0, 1) := by decide +kernel
theorem dL_law_449 : decode code 449 = .ok (.iload 4, 2) := by decide +kernel
theorem dL_law_451 : decode code 451 = .ok (.iconst 1, 1) := by decide +kernel
theorem dL_law_452 : decode code 452 = .ok (.iadd, 1) := by decide +kernel
theorem dL_law_453 : decode code 453 = .ok (.iaload, 1) := by decide +kernel
theorem dL_law_454 : decode code 454 = .ok (.invokevirtual 132, 3) := by decide +kernel
theorem dL_law_457 : decode code 457 = .ok (.istore 6, 2) := by decide +kernel
theorem dL_law_459 : decode code 459 = .ok (.aload_n 2, 1) := by decide +kernel
theorem dL_law_460 : decode code 460 = .ok (.invokevirtual 117, 3) := by decide +kernel
theorem dL_law_463 : decode code 463 = .ok (.iload 5, 2) := by decide +kernel
theorem dL_law_465 : decode code 465 = .ok (.if_icmp .eq 5, 3) := by decide +kernel
theorem dL_law_470 : decode code 470 = .ok (.iload 5, 2) := by decide +kernel
theorem dL_law_472 : decode code 472 = .ok (.ifCond .ne 15, 3) := by decide +kernel
theorem dL_law_475 : decode code 475 = .ok (.aload_n 3, 1) := by decide +kernel
theorem dL_law_476 : decode code 476 = .ok (.iconst 0, 1) := by decide +kernel
theorem dL_law_477 : decode code 477 = .ok (.laload, 1) := by decide +kernel
theorem dL_law_478 : decode code 478 = .ok (.iload 6, 2) := by decide +kernel
theorem dL_law_480 : decode code 480 = .ok (.i2l, 1) := by decide +kernel
theorem dL_law_481 : decode code 481 = .ok (.lcmp, 1) := by decide +kernel
theorem dL_law_482 : decode code 482 = .ok (.ifCond .eq 5, 3) := by decide +kernel
theorem dL_law_487 : decode code 487 = .ok (.goto 1531, 3) := by decide +kernel
theorem dL_law_490 : decode code 490 = .ok (.aload_n 1, 1) := by decide +kernel
theorem dL_law_491 : decode code 491 = .ok (.aload_n 0, 1) := by decide +kernel
theorem dL_law_492 : decode code 492 = .ok (.iload 4, 2) := by decide +kernel
theorem dL_law_494 : decode code 494 = .ok (.iconst 1, 1) := by decide +kernel
theorem dL_law_495 : decode code 495 = .ok (.iadd, 1) := by decide +kernel
theorem dL_law_496 : decode code 496 = .ok (.iaload, 1) := by decide +kernel
theorem dL_law_497 : decode code 497 = .ok (.aload_n 3, 1) := by decide +kernel
theorem dL_law_498 : decode code 498 = .ok (.invokestatic 133, 3) := by decide +kernel
theorem dL_law_501 : decode code 501 = .ok (.istore 5, 2) := by decide +kernel
theorem dL_law_503 : decode code 503 = .ok (.aload_n 2, 1) := by decide +kernel
theorem dL_law_504 : decode code 504 = .ok (.aload_n 0, 1) := by decide +kernel
theorem dL_law_505 : decode code 505 = .ok (.iload 4, 2) := by decide +kernel
theorem dL_law_507 : decode code 507 = .ok (.iconst 1, 1) := by decide +kernel
theorem dL_law_508 : decode code 508 = .ok (.iadd, 1) := by decide +kernel
theorem dL_law_509 : decode code 509 = .ok (.iaload, 1) := by decide +kernel
theorem dL_law_510 : decode code 510 = .ok (.invokevirtual 135, 3) := by decide +kernel
theorem dL_law_513 : decode code 513 = .ok (.istore 6, 2) := by decide +kernel
theorem dL_law_515 : decode code 515 = .ok (.aload_n 2, 1) := by decide +kernel
theorem dL_law_516 : decode code 516 = .ok (.invokevirtual 117, 3) := by decide +kernel
theorem dL_law_519 : decode code 519 = .ok (.iload 5, 2) := by decide +kernel
theorem dL_law_521 : decode code 521 = .ok (.if_icmp .eq 5, 3) := by decide +kernel
theorem dL_law_526 : decode code 526 = .ok (.iload 5, 2) := by decide +kernel
theorem dL_law_528 : decode code 528 = .ok (.ifCond .ne 15, 3) := by decide +kernel
theorem dL_law_531 : decode code 531 = .ok (.aload_n 3, 1) := by decide +kernel
theorem dL_law_532 : decode code 532 = .ok (.iconst 0, 1) := by decide +kernel
theorem dL_law_533 : decode code 533 = .ok (.laload, 1) := by decide +kernel
theorem dL_law_534 : decode code 534 = .ok (.iload 6, 2) := by decide +kernel
theorem dL_law_536 : decode code 536 = .ok (.i2l, 1) := by decide +kernel
theorem dL_law_537 : decode code 537 = .ok (.lcmp, 1) := by decide +kernel
theorem dL_law_538 : decode code 538 = .ok (.ifCond .eq 5, 3) := by decide +kernel
theorem dL_law_543 : decode code 543 = .ok (.goto 1475, 3) := by decide +kernel
theorem dL_law_546 : decode code 546 = .ok (.aload_n 1, 1) := by decide +kernel
theorem dL_law_547 : decode code 547 = .ok (.aload_n 0, 1) := by decide +kernel
theorem dL_law_548 : decode code 548 = .ok (.iload 4, 2) := by decide +kernel
theorem dL_law_550 : decode code 550 = .ok (.iconst 1, 1) := by decide +kernel
theorem dL_law_551 : decode code 551 = .ok (.iadd, 1) := by decide +kernel
theorem dL_law_552 : decode code 552 = .ok (.iaload, 1) := by decide +kernel
theorem dL_law_553 : decode code 553 = .ok (.aload_n 3, 1) := by decide +kernel
theorem dL_law_554 : decode code 554 = .ok (.invokestatic 136, 3) := by decide +kernel
theorem dL_law_557 : decode code 557 = .ok (.istore 5, 2) := by decide +kernel
theorem dL_law_559 : decode code 559 = .ok (.aload_n 2, 1) := by decide +kernel
theorem dL_law_560 : decode code 560 = .ok (.aload_n 0, 1) := by decide +kernel
theorem dL_law_561 : decode code 561 = .ok (.iload 4, 2) := by decide +kernel
theorem dL_law_563 : decode code 563 = .ok (.iconst 1, 1) := by decide +kernel
theorem dL_law_564 : decode code 564 = .ok (.iadd, 1) := by decide +kernel
theorem dL_law_565 : decode code 565 = .ok (.iaload, 1) := by decide +kernel
theorem dL_law_566 : decode code 566 = .ok (.invokevirtual 138, 3) := by decide +kernel
theorem dL_law_569 : decode code 569 = .ok (.istore 6, 2) := by decide +kernel
theorem dL_law_571 : decode code 571 = .ok (.aload_n 2, 1) := by decide +kernel
theorem dL_law_572 : decode code 572 = .ok (.invokevirtual 117, 3) := by decide +kernel
theorem dL_law_575 : decode code 575 = .ok (.iload 5, 2) := by decide +kernel
theorem dL_law_577 : decode code 577 = .ok (.if_icmp .eq 5, 3) := by decide +kernel
theorem dL_law_582 : decode code 582 = .ok (.iload 5, 2) := by decide +kernel
theorem dL_law_584 : decode code 584 = .ok (.ifCond .ne 15, 3) := by decide +kernel
theorem dL_law_599 : decode code 599 = .ok (.goto 1419, 3) := by decide +kernel
theorem dL_law_602 : decode code 602 = .ok (.aload_n 1, 1) := by decide +kernel
theorem dL_law_603 : decode code 603 = .ok (.aload_n 3, 1) := by decide +kernel
theorem dL_law_604 : decode code 604 = .ok (.invokestatic 139, 3) := by decide +kernel
theorem dL_law_607 : decode code 607 = .ok (.istore 5, 2) := by decide +kernel
theorem dL_law_609 : decode code 609 = .ok (.aload_n 2, 1) := by decide +kernel
theorem dL_law_610 : decode code 610 = .ok (.invokevirtual 142, 3) := by decide +kernel
theorem dL_law_613 : decode code 613 = .ok (.istore 6, 2) := by decide +kernel
theorem dL_law_615 : decode code 615 = .ok (.aload_n 2, 1) := by decide +kernel
theorem dL_law_616 : decode code 616 = .ok (.invokevirtual 117, 3) := by decide +kernel
theorem dL_law_619 : decode code 619 = .ok (.iload 5, 2) := by decide +kernel
theorem dL_law_621 : decode code 621 = .ok (.if_icmp .eq 5, 3) := by decide +kernel
theorem dL_law_626 : decode code 626 = .ok (.iload 5, 2) := by decide +kernel
theorem dL_law_628 : decode code 628 = .ok (.ifCond .ne 22, 3) := by decide +kernel
theorem dL_law_650 : decode code 650 = .ok (.goto 1368, 3) := by decide +kernel
theorem dL_law_653 : decode code 653 = .ok (.aload_n 1, 1) := by decide +kernel
theorem dL_law_654 : decode code 654 = .ok (.aload_n 0, 1) := by decide +kernel
theorem dL_law_655 : decode code 655 = .ok (.iload 4, 2) := by decide +kernel
theorem dL_law_657 : decode code 657 = .ok (.iconst 1, 1) := by decide +kernel
theorem dL_law_658 : decode code 658 = .ok (.iadd, 1) := by decide +kernel
theorem dL_law_659 : decode code 659 = .ok (.iaload, 1) := by decide +kernel
theorem dL_law_660 : decode code 660 = .ok (.aload_n 3, 1) := by decide +kernel
theorem dL_law_661 : decode code 661 = .ok (.invokestatic 143, 3) := by decide +kernel
theorem dL_law_664 : decode code 664 = .ok (.istore 5, 2) := by decide +kernel
theorem dL_law_666 : decode code 666 = .ok (.aload_n 2, 1) := by decide +kernel
theorem dL_law_667 : decode code 667 = .ok (.aload_n 0, 1) := by decide +kernel
theorem dL_law_668 : decode code 668 = .ok (.iload 4, 2) := by decide +kernel
theorem dL_law_670 : decode code 670 = .ok (.iconst 1, 1) := by decide +kernel
theorem dL_law_671 : decode code 671 = .ok (.iadd, 1) := by decide +kernel
theorem dL_law_672 : decode code 672 = .ok (.iaload, 1) := by decide +kernel
theorem dL_law_673 : decode code 673 = .ok (.invokevirtual 145, 3) := by decide +kernel
theorem dL_law_676 : decode code 676 = .ok (.istore 6, 2) := by decide +kernel
theorem dL_law_678 : decode code 678 = .ok (.aload_n 2, 1) := by decide +kernel
theorem dL_law_679 : decode code 679 = .ok (.invokevirtual 117, 3) := by decide +kernel
theorem dL_law_682 : decode code 682 = .ok (.iload 5, 2) := by decide +kernel
theorem dL_law_684 : decode code 684 = .ok (.if_icmp .eq 5, 3) := by decide +kernel
theorem dL_law_689 : decode code 689 = .ok (.iload 5, 2) := by decide +kernel
theorem dL_law_691 : decode code 691 = .ok (.ifCond .ne 15, 3) := by decide +kernel
theorem dL_law_706 : decode code 706 = .ok (.goto 1312, 3) := by decide +kernel
theorem dL_law_709 : decode code 709 = .ok (.aload_n 1, 1) := by decide +kernel
theorem dL_law_710 : decode code 710 = .ok (.aload_n 0, 1) := by decide +kernel
theorem dL_law_711 : decode code 711 = .ok (.iload 4, 2) := by decide +kernel
theorem dL_law_713 : decode code 713 = .ok (.iconst 1, 1) := by decide +kernel
theorem dL_law_714 : decode code 714 = .ok (.iadd, 1) := by decide +kernel
theorem dL_law_715 : decode code 715 = .ok (.iaload, 1) := by decide +kernel
theorem dL_law_716 : decode code 716 = .ok (.aload_n 0, 1) := by decide +kernel
theorem dL_law_717 : decode code 717 = .ok (.iload 4, 2) := by decide +kernel
theorem dL_law_719 : decode code 719 = .ok (.iconst 2, 1) := by decide +kernel
theorem dL_law_720 : decode code 720 = .ok (.iadd, 1) := by decide +kernel
theorem dL_law_721 : decode code 721 = .ok (.iaload, 1) := by decide +kernel
theorem dL_law_722 : decode code 722 = .ok (.aload_n 0, 1) := by decide +kernel
theorem dL_law_723 : decode code 723 = .ok (.iload 4, 2) := by decide +kernel
theorem dL_law_725 : decode code 725 = .ok (.iconst 3, 1) := by decide +kernel
theorem dL_law_726 : decode code 726 = .ok (.iadd, 1) := by decide +kernel
theorem dL_law_727 : decode code 727 = .ok (.iaload, 1) := by decide +kernel
theorem dL_law_728 : decode code 728 = .ok (.aload_n 0, 1) := by decide +kernel
theorem dL_law_729 : decode code 729 = .ok (.iload 4, 2) := by decide +kernel
theorem dL_law_731 : decode code 731 = .ok (.iconst 4, 1) := by decide +kernel
theorem dL_law_732 : decode code 732 = .ok (.iadd, 1) := by decide +kernel
theorem dL_law_733 : decode code 733 = .ok (.iaload, 1) := by decide +kernel
theorem dL_law_734 : decode code 734 = .ok (.aload_n 3, 1) := by decide +kernel
theorem dL_law_735 : decode code 735 = .ok (.invokestatic 146, 3) := by decide +kernel
theorem dL_law_738 : decode code 738 = .ok (.istore 5, 2) := by decide +kernel
theorem dL_law_740 : decode code 740 = .ok (.aload_n 2, 1) := by decide +kernel
theorem dL_law_741 : decode code 741 = .ok (.aload_n 0, 1) := by decide +kernel
theorem dL_law_742 : decode code 742 = .ok (.iload 4, 2) := by decide +kernel
theorem dL_law_744 : decode code 744 = .ok (.iconst 1, 1) := by decide +kernel
theorem dL_law_745 : decode code 745 = .ok (.iadd, 1) := by decide +kernel
theorem dL_law_746 : decode code 746 = .ok (.iaload, 1) := by decide +kernel
theorem dL_law_747 : decode code 747 = .ok (.aload_n 0, 1) := by decide +kernel
theorem dL_law_748 : decode code 748 = .ok (.iload 4, 2) := by decide +kernel
theorem dL_law_750 : decode code 750 = .ok (.iconst 2, 1) := by decide +kernel
theorem dL_law_751 : decode code 751 = .ok (.iadd, 1) := by decide +kernel
theorem dL_law_752 : decode code 752 = .ok (.iaload, 1) := by decide +kernel
theorem dL_law_753 : decode code 753 = .ok (.aload_n 0, 1) := by decide +kernel
theorem dL_law_754 : decode code 754 = .ok (.iload 4, 2) := by decide +kernel
theorem dL_law_756 : decode code 756 = .ok (.iconst 3, 1) := by decide +kernel
theorem dL_law_757 : decode code 757 = .ok (.iadd, 1) := by decide +kernel
theorem dL_law_758 : decode code 758 = .ok (.iaload, 1) := by decide +kernel
theorem dL_law_759 : decode code 759 = .ok (.aload_n 0, 1) := by decide +kernel
theorem dL_law_760 : decode code 760 = .ok (.iload 4, 2) := by decide +kernel
theorem dL_law_762 : decode code 762 = .ok (.iconst 4, 1) := by decide +kernel
theorem dL_law_763 : decode code 763 = .ok (.iadd, 1) := by decide +kernel
theorem dL_law_764 : decode code 764 = .ok (.iaload, 1) := by decide +kernel
theorem dL_law_765 : decode code 765 = .ok (.invokevirtual 149, 3) := by decide +kernel
theorem dL_law_768 : decode code 768 = .ok (.lstore 6, 2) := by decide +kernel
theorem dL_law_770 : decode code 770 = .ok (.aload_n 2, 1) := by decide +kernel
theorem dL_law_771 : decode code 771 = .ok (.invokevirtual 117, 3) := by decide +kernel
theorem dL_law_774 : decode code 774 = .ok (.iload 5, 2) := by decide +kernel
theorem dL_law_776 : decode code 776 = .ok (.if_icmp .eq 5, 3) := by decide +kernel
theorem dL_law_781 : decode code 781 = .ok (.iload 5, 2) := by decide +kernel
theorem dL_law_783 : decode code 783 = .ok (.ifCond .ne 14, 3) := by decide +kernel
theorem dL_law_797 : decode code 797 = .ok (.goto 1221, 3) := by decide +kernel
theorem dL_law_800 : decode code 800 = .ok (.aload_n 1, 1) := by decide +kernel
theorem dL_law_801 : decode code 801 = .ok (.aload_n 0, 1) := by decide +kernel
theorem dL_law_802 : decode code 802 = .ok (.iload 4, 2) := by decide +kernel
theorem dL_law_804 : decode code 804 = .ok (.iconst 1, 1) := by decide +kernel
theorem dL_law_805 : decode code 805 = .ok (.iadd, 1) := by decide +kernel
theorem dL_law_806 : decode code 806 = .ok (.iaload, 1) := by decide +kernel
theorem dL_law_807 : decode code 807 = .ok (.aload_n 3, 1) := by decide +kernel
theorem dL_law_808 : decode code 808 = .ok (.invokestatic 150, 3) := by decide +kernel
theorem dL_law_811 : decode code 811 = .ok (.istore 5, 2) := by decide +kernel
theorem dL_law_813 : decode code 813 = .ok (.aload_n 2, 1) := by decide +kernel
theorem dL_law_814 : decode code 814 = .ok (.aload_n 0, 1) := by decide +kernel
theorem dL_law_815 : decode code 815 = .ok (.iload 4, 2) := by decide +kernel
theorem dL_law_817 : decode code 817 = .ok (.iconst 1, 1) := by decide +kernel
theorem dL_law_818 : decode code 818 = .ok (.iadd, 1) := by decide +kernel
theorem dL_law_819 : decode code 819 = .ok (.iaload, 1) := by decide +kernel
theorem dL_law_820 : decode code 820 = .ok (.invokevirtual 152, 3) := by decide +kernel
theorem dL_law_823 : decode code 823 = .ok (.istore 6, 2) := by decide +kernel
theorem dL_law_825 : decode code 825 = .ok (.aload_n 2, 1) := by decide +kernel
theorem dL_law_826 : decode code 826 = .ok (.invokevirtual 117, 3) := by decide +kernel
theorem dL_law_829 : decode code 829 = .ok (.iload 5, 2) := by decide +kernel
theorem dL_law_831 : decode code 831 = .ok (.if_icmp .eq 5, 3) := by decide +kernel
theorem dL_law_836 : decode code 836 = .ok (.iload 5, 2) := by decide +kernel
theorem dL_law_838 : decode code 838 = .ok (.ifCond .ne 22, 3) := by decide +kernel
theorem dL_law_860 : decode code 860 = .ok (.goto 1158, 3) := by decide +kernel
theorem dL_law_863 : decode code 863 = .ok (.aload_n 1, 1) := by decide +kernel
theorem dL_law_864 : decode code 864 = .ok (.aload_n 0, 1) := by decide +kernel
theorem dL_law_865 : decode code 865 = .ok (.iload 4, 2) := by decide +kernel
theorem dL_law_867 : decode code 867 = .ok (.iconst 1, 1) := by decide +kernel
theorem dL_law_868 : decode code 868 = .ok (.iadd, 1) := by decide +kernel
theorem dL_law_869 : decode code 869 = .ok (.iaload, 1) := by decide +kernel
theorem dL_law_870 : decode code 870 = .ok (.aload_n 3, 1) := by decide +kernel
theorem dL_law_871 : decode code 871 = .ok (.invokestatic 153, 3) := by decide +kernel
theorem dL_law_874 : decode code 874 = .ok (.istore 5, 2) := by decide +kernel
theorem dL_law_876 : decode code 876 = .ok (.aload_n 2, 1) := by decide +kernel
theorem dL_law_877 : decode code 877 = .ok (.aload_n 0, 1) := by decide +kernel
theorem dL_law_878 : decode code 878 = .ok (.iload 4, 2) := by decide +kernel
theorem dL_law_880 : decode code 880 = .ok (.iconst 1, 1) := by decide +kernel
theorem dL_law_881 : decode code 881 = .ok (.iadd, 1) := by decide +kernel
theorem dL_law_882 : decode code 882 = .ok (.iaload, 1) := by decide +kernel
theorem dL_law_883 : decode code 883 = .ok (.invokevirtual 155, 3) := by decide +kernel
theorem dL_law_886 : decode code 886 = .ok (.istore 6, 2) := by decide +kernel
theorem dL_law_888 : decode code 888 = .ok (.aload_n 2, 1) := by decide +kernel
theorem dL_law_889 : decode code 889 = .ok (.invokevirtual 117, 3) := by decide +kernel
theorem dL_law_892 : decode code 892 = .ok (.iload 5, 2) := by decide +kernel
theorem dL_law_894 : decode code 894 = .ok (.if_icmp .eq 5, 3) := by decide +kernel
theorem dL_law_899 : decode code 899 = .ok (.iload 5, 2) := by decide +kernel
theorem dL_law_901 : decode code 901 = .ok (.ifCond .ne 22, 3) := by decide +kernel
theorem dL_law_923 : decode code 923 = .ok (.goto 1095, 3) := by decide +kernel
theorem dL_law_926 : decode code 926 = .ok (.aload_n 1, 1) := by decide +kernel
theorem dL_law_927 : decode code 927 = .ok (.aload_n 0, 1) := by decide +kernel
theorem dL_law_928 : decode code 928 = .ok (.iload 4, 2) := by decide +kernel
theorem dL_law_930 : decode code 930 = .ok (.iconst 1, 1) := by decide +kernel
theorem dL_law_931 : decode code 931 = .ok (.iadd, 1) := by decide +kernel
theorem dL_law_932 : decode code 932 = .ok (.iaload, 1) := by decide +kernel
theorem dL_law_933 : decode code 933 = .ok (.aload_n 0, 1) := by decide +kernel
theorem dL_law_934 : decode code 934 = .ok (.iload 4, 2) := by decide +kernel
theorem dL_law_936 : decode code 936 = .ok (.iconst 2, 1) := by decide +kernel
theorem dL_law_937 : decode code 937 = .ok (.iadd, 1) := by decide +kernel
theorem dL_law_938 : decode code 938 = .ok (.iaload, 1) := by decide +kernel
theorem dL_law_939 : decode code 939 = .ok (.aload_n 0, 1) := by decide +kernel
theorem dL_law_940 : decode code 940 = .ok (.iload 4, 2) := by decide +kernel
theorem dL_law_942 : decode code 942 = .ok (.iconst 3, 1) := by decide +kernel
theorem dL_law_943 : decode code 943 = .ok (.iadd, 1) := by decide +kernel
theorem dL_law_944 : decode code 944 = .ok (.iaload, 1) := by decide +kernel
theorem dL_law_945 : decode code 945 = .ok (.aload_n 0, 1) := by decide +kernel
theorem dL_law_946 : decode code 946 = .ok (.iload 4, 2) := by decide +kernel
theorem dL_law_948 : decode code 948 = .ok (.iconst 4, 1) := by decide +kernel
theorem dL_law_949 : decode code 949 = .ok (.iadd, 1) := by decide +kernel
theorem dL_law_950 : decode code 950 = .ok (.iaload, 1) := by decide +kernel
theorem dL_law_951 : decode code 951 = .ok (.aload_n 0, 1) := by decide +kernel
theorem dL_law_952 : decode code 952 = .ok (.iload 4, 2) := by decide +kernel
theorem dL_law_954 : decode code 954 = .ok (.iconst 5, 1) := by decide +kernel
theorem dL_law_955 : decode code 955 = .ok (.iadd, 1) := by decide +kernel
theorem dL_law_956 : decode code 956 = .ok (.iaload, 1) := by decide +kernel
theorem dL_law_957 : decode code 957 = .ok (.aload_n 3, 1) := by decide +kernel
theorem dL_law_958 : decode code 958 = .ok (.invokestatic 156, 3) := by decide +kernel
theorem dL_law_961 : decode code 961 = .ok (.istore 5, 2) := by decide +kernel
theorem dL_law_963 : decode code 963 = .ok (.aload_n 2, 1) := by decide +kernel
theorem dL_law_964 : decode code 964 = .ok (.aload_n 0, 1) := by decide +kernel
theorem dL_law_965 : decode code 965 = .ok (.iload 4, 2) := by decide +kernel
theorem dL_law_967 : decode code 967 = .ok (.iconst 1, 1) := by decide +kernel
theorem dL_law_968 : decode code 968 = .ok (.iadd, 1) := by decide +kernel
theorem dL_law_969 : decode code 969 = .ok (.iaload, 1) := by decide +kernel
theorem dL_law_970 : decode code 970 = .ok (.aload_n 0, 1) := by decide +kernel
theorem dL_law_971 : decode code 971 = .ok (.iload 4, 2) := by decide +kernel
theorem dL_law_973 : decode code 973 = .ok (.iconst 2, 1) := by decide +kernel
theorem dL_law_974 : decode code 974 = .ok (.iadd, 1) := by decide +kernel
theorem dL_law_975 : decode code 975 = .ok (.iaload, 1) := by decide +kernel
theorem dL_law_976 : decode code 976 = .ok (.aload_n 0, 1) := by decide +kernel
theorem dL_law_977 : decode code 977 = .ok (.iload 4, 2) := by decide +kernel
theorem dL_law_979 : decode code 979 = .ok (.iconst 3, 1) := by decide +kernel
theorem dL_law_980 : decode code 980 = .ok (.iadd, 1) := by decide +kernel
theorem dL_law_981 : decode code 981 = .ok (.iaload, 1) := by decide +kernel
theorem dL_law_982 : decode code 982 = .ok (.aload_n 0, 1) := by decide +kernel
theorem dL_law_983 : decode code 983 = .ok (.iload 4, 2) := by decide +kernel
theorem dL_law_985 : decode code 985 = .ok (.iconst 4, 1) := by decide +kernel
theorem dL_law_986 : decode code 986 = .ok (.iadd, 1) := by decide +kernel
theorem dL_law_987 : decode code 987 = .ok (.iaload, 1) := by decide +kernel
theorem dL_law_988 : decode code 988 = .ok (.aload_n 0, 1) := by decide +kernel
theorem dL_law_989 : decode code 989 = .ok (.iload 4, 2) := by decide +kernel
theorem dL_law_991 : decode code 991 = .ok (.iconst 5, 1) := by decide +kernel
theorem dL_law_992 : decode code 992 = .ok (.iadd, 1) := by decide +kernel
theorem dL_law_993 : decode code 993 = .ok (.iaload, 1) := by decide +kernel
theorem dL_law_994 : decode code 994 = .ok (.invokevirtual 159, 3) := by decide +kernel
theorem dL_law_997 : decode code 997 = .ok (.lstore 6, 2) := by decide +kernel
theorem dL_law_999 : decode code 999 = .ok (.aload_n 2, 1) := by decide +kernel
theorem dL_law_1000 : decode code 1000 = .ok (.invokevirtual 117, 3) := by decide +kernel
theorem dL_law_1003 : decode code 1003 = .ok (.iload 5, 2) := by decide +kernel
theorem dL_law_1005 : decode code 1005 = .ok (.if_icmp .eq 5, 3) := by decide +kernel
theorem dL_law_1010 : decode code 1010 = .ok (.iload 5, 2) := by decide +kernel
theorem dL_law_1012 : decode code 1012 = .ok (.ifCond .ne 14, 3) := by decide +kernel
theorem dL_law_1026 : decode code 1026 = .ok (.goto 992, 3) := by decide +kernel
theorem dL_law_1029 : decode code 1029 = .ok (.aload_n 1, 1) := by decide +kernel
theorem dL_law_1030 : decode code 1030 = .ok (.aload_n 0, 1) := by decide +kernel
theorem dL_law_1031 : decode code 1031 = .ok (.iload 4, 2) := by decide +kernel
theorem dL_law_1033 : decode code 1033 = .ok (.iconst 1, 1) := by decide +kernel
theorem dL_law_1034 : decode code 1034 = .ok (.iadd, 1) := by decide +kernel
theorem dL_law_1035 : decode code 1035 = .ok (.iaload, 1) := by decide +kernel
theorem dL_law_1036 : decode code 1036 = .ok (.aload_n 0, 1) := by decide +kernel
theorem dL_law_1037 : decode code 1037 = .ok (.iload 4, 2) := by decide +kernel
theorem dL_law_1039 : decode code 1039 = .ok (.iconst 2, 1) := by decide +kernel
theorem dL_law_1040 : decode code 1040 = .ok (.iadd, 1) := by decide +kernel
theorem dL_law_1041 : decode code 1041 = .ok (.iaload, 1) := by decide +kernel
theorem dL_law_1042 : decode code 1042 = .ok (.aload_n 3, 1) := by decide +kernel
theorem dL_law_1043 : decode code 1043 = .ok (.invokestatic 160, 3) := by decide +kernel
theorem dL_law_1046 : decode code 1046 = .ok (.istore 5, 2) := by decide +kernel
theorem dL_law_1048 : decode code 1048 = .ok (.aload_n 2, 1) := by decide +kernel
theorem dL_law_1049 : decode code 1049 = .ok (.aload_n 0, 1) := by decide +kernel
theorem dL_law_1050 : decode code 1050 = .ok (.iload 4, 2) := by decide +kernel
theorem dL_law_1052 : decode code 1052 = .ok (.iconst 1, 1) := by decide +kernel
theorem dL_law_1053 : decode code 1053 = .ok (.iadd, 1) := by decide +kernel
theorem dL_law_1054 : decode code 1054 = .ok (.iaload, 1) := by decide +kernel
theorem dL_law_1055 : decode code 1055 = .ok (.aload_n 0, 1) := by decide +kernel
theorem dL_law_1056 : decode code 1056 = .ok (.iload 4, 2) := by decide +kernel
theorem dL_law_1058 : decode code 1058 = .ok (.iconst 2, 1) := by decide +kernel
theorem dL_law_1059 : decode code 1059 = .ok (.iadd, 1) := by decide +kernel
theorem dL_law_1060 : decode code 1060 = .ok (.iaload, 1) := by decide +kernel
theorem dL_law_1061 : decode code 1061 = .ok (.invokevirtual 163, 3) := by decide +kernel
theorem dL_law_1064 : decode code 1064 = .ok (.istore 6, 2) := by decide +kernel
theorem dL_law_1066 : decode code 1066 = .ok (.aload_n 2, 1) := by decide +kernel
theorem dL_law_1067 : decode code 1067 = .ok (.invokevirtual 117, 3) := by decide +kernel
theorem dL_law_1070 : decode code 1070 = .ok (.iload 5, 2) := by decide +kernel
theorem dL_law_1072 : decode code 1072 = .ok (.if_icmp .eq 5, 3) := by decide +kernel
theorem dL_law_1077 : decode code 1077 = .ok (.iload 5, 2) := by decide +kernel
theorem dL_law_1079 : decode code 1079 = .ok (.ifCond .ne 15, 3) := by decide +kernel
theorem dL_law_1094 : decode code 1094 = .ok (.goto 924, 3) := by decide +kernel
theorem dL_law_1097 : decode code 1097 = .ok (.aload_n 1, 1) := by decide +kernel
theorem dL_law_1098 : decode code 1098 = .ok (.aload_n 0, 1) := by decide +kernel
theorem dL_law_1099 : decode code 1099 = .ok (.iload 4, 2) := by decide +kernel
theorem dL_law_1101 : decode code 1101 = .ok (.iconst 1, 1) := by decide +kernel
theorem dL_law_1102 : decode code 1102 = .ok (.iadd, 1) := by decide +kernel
theorem dL_law_1103 : decode code 1103 = .ok (.iaload, 1) := by decide +kernel
theorem dL_law_1104 : decode code 1104 = .ok (.aload_n 0, 1) := by decide +kernel
theorem dL_law_1105 : decode code 1105 = .ok (.iload 4, 2) := by decide +kernel
theorem dL_law_1107 : decode code 1107 = .ok (.iconst 2, 1) := by decide +kernel
theorem dL_law_1108 : decode code 1108 = .ok (.iadd, 1) := by decide +kernel
theorem dL_law_1109 : decode code 1109 = .ok (.iaload, 1) := by decide +kernel
theorem dL_law_1110 : decode code 1110 = .ok (.aload_n 0, 1) := by decide +kernel
theorem dL_law_1111 : decode code 1111 = .ok (.iload 4, 2) := by decide +kernel
theorem dL_law_1113 : decode code 1113 = .ok (.iconst 3, 1) := by decide +kernel
theorem dL_law_1114 : decode code 1114 = .ok (.iadd, 1) := by decide +kernel
theorem dL_law_1115 : decode code 1115 = .ok (.iaload, 1) := by decide +kernel
theorem dL_law_1116 : decode code 1116 = .ok (.aload_n 3, 1) := by decide +kernel
theorem dL_law_1117 : decode code 1117 = .ok (.invokestatic 164, 3) := by decide +kernel
theorem dL_law_1120 : decode code 1120 = .ok (.istore 5, 2) := by decide +kernel
theorem dL_law_1122 : decode code 1122 = .ok (.aload_n 2, 1) := by decide +kernel
theorem dL_law_1123 : decode code 1123 = .ok (.aload_n 0, 1) := by decide +kernel
theorem dL_law_1124 : decode code 1124 = .ok (.iload 4, 2) := by decide +kernel
theorem dL_law_1126 : decode code 1126 = .ok (.iconst 1, 1) := by decide +kernel
theorem dL_law_1127 : decode code 1127 = .ok (.iadd, 1) := by decide +kernel
theorem dL_law_1128 : decode code 1128 = .ok (.iaload, 1) := by decide +kernel
theorem dL_law_1129 : decode code 1129 = .ok (.aload_n 0, 1) := by decide +kernel
theorem dL_law_1130 : decode code 1130 = .ok (.iload 4, 2) := by decide +kernel
theorem dL_law_1132 : decode code 1132 = .ok (.iconst 2, 1) := by decide +kernel
theorem dL_law_1133 : decode code 1133 = .ok (.iadd, 1) := by decide +kernel
theorem dL_law_1134 : decode code 1134 = .ok (.iaload, 1) := by decide +kernel
theorem dL_law_1135 : decode code 1135 = .ok (.aload_n 0, 1) := by decide +kernel
theorem dL_law_1136 : decode code 1136 = .ok (.iload 4, 2) := by decide +kernel
theorem dL_law_1138 : decode code 1138 = .ok (.iconst 3, 1) := by decide +kernel
theorem dL_law_1139 : decode code 1139 = .ok (.iadd, 1) := by decide +kernel
theorem dL_law_1140 : decode code 1140 = .ok (.iaload, 1) := by decide +kernel
theorem dL_law_1141 : decode code 1141 = .ok (.invokevirtual 167, 3) := by decide +kernel
theorem dL_law_1144 : decode code 1144 = .ok (.istore 6, 2) := by decide +kernel
theorem dL_law_1146 : decode code 1146 = .ok (.aload_n 2, 1) := by decide +kernel
theorem dL_law_1147 : decode code 1147 = .ok (.invokevirtual 117, 3) := by decide +kernel
theorem dL_law_1150 : decode code 1150 = .ok (.iload 5, 2) := by decide +kernel
theorem dL_law_1152 : decode code 1152 = .ok (.if_icmp .eq 5, 3) := by decide +kernel
theorem dL_law_1157 : decode code 1157 = .ok (.iload 5, 2) := by decide +kernel
theorem dL_law_1159 : decode code 1159 = .ok (.ifCond .ne 15, 3) := by decide +kernel
theorem dL_law_1174 : decode code 1174 = .ok (.goto 844, 3) := by decide +kernel
theorem dL_law_1177 : decode code 1177 = .ok (.aload_n 1, 1) := by decide +kernel
theorem dL_law_1178 : decode code 1178 = .ok (.aload_n 0, 1) := by decide +kernel
theorem dL_law_1179 : decode code 1179 = .ok (.iload 4, 2) := by decide +kernel
theorem dL_law_1181 : decode code 1181 = .ok (.iconst 1, 1) := by decide +kernel
theorem dL_law_1182 : decode code 1182 = .ok (.iadd, 1) := by decide +kernel
theorem dL_law_1183 : decode code 1183 = .ok (.iaload, 1) := by decide +kernel
theorem dL_law_1184 : decode code 1184 = .ok (.aload_n 0, 1) := by decide +kernel
theorem dL_law_1185 : decode code 1185 = .ok (.iload 4, 2) := by decide +kernel
theorem dL_law_1187 : decode code 1187 = .ok (.iconst 2, 1) := by decide +kernel
theorem dL_law_1188 : decode code 1188 = .ok (.iadd, 1) := by decide +kernel
theorem dL_law_1189 : decode code 1189 = .ok (.iaload, 1) := by decide +kernel
theorem dL_law_1190 : decode code 1190 = .ok (.aload_n 0, 1) := by decide +kernel
theorem dL_law_1191 : decode code 1191 = .ok (.iload 4, 2) := by decide +kernel
theorem dL_law_1193 : decode code 1193 = .ok (.iconst 3, 1) := by decide +kernel
theorem dL_law_1194 : decode code 1194 = .ok (.iadd, 1) := by decide +kernel
theorem dL_law_1195 : decode code 1195 = .ok (.iaload, 1) := by decide +kernel
theorem dL_law_1196 : decode code 1196 = .ok (.aload_n 3, 1) := by decide +kernel
theorem dL_law_1197 : decode code 1197 = .ok (.invokestatic 168, 3) := by decide +kernel
theorem dL_law_1200 : decode code 1200 = .ok (.istore 5, 2) := by decide +kernel
theorem dL_law_1202 : decode code 1202 = .ok (.aload_n 2, 1) := by decide +kernel
theorem dL_law_1203 : decode code 1203 = .ok (.aload_n 0, 1) := by decide +kernel
theorem dL_law_1204 : decode code 1204 = .ok (.iload 4, 2) := by decide +kernel
theorem dL_law_1206 : decode code 1206 = .ok (.iconst 1, 1) := by decide +kernel
theorem dL_law_1207 : decode code 1207 = .ok (.iadd, 1) := by decide +kernel
theorem dL_law_1208 : decode code 1208 = .ok (.iaload, 1) := by decide +kernel
theorem dL_law_1209 : decode code 1209 = .ok (.aload_n 0, 1) := by decide +kernel
theorem dL_law_1210 : decode code 1210 = .ok (.iload 4, 2) := by decide +kernel
theorem dL_law_1212 : decode code 1212 = .ok (.iconst 2, 1) := by decide +kernel
theorem dL_law_1213 : decode code 1213 = .ok (.iadd, 1) := by decide +kernel
theorem dL_law_1214 : decode code 1214 = .ok (.iaload, 1) := by decide +kernel
theorem dL_law_1215 : decode code 1215 = .ok (.aload_n 0, 1) := by decide +kernel
theorem dL_law_1216 : decode code 1216 = .ok (.iload 4, 2) := by decide +kernel
theorem dL_law_1218 : decode code 1218 = .ok (.iconst 3, 1) := by decide +kernel
theorem dL_law_1219 : decode code 1219 = .ok (.iadd, 1) := by decide +kernel
theorem dL_law_1220 : decode code 1220 = .ok (.iaload, 1) := by decide +kernel
theorem dL_law_1221 : decode code 1221 = .ok (.invokevirtual 170, 3) := by decide +kernel
theorem dL_law_1224 : decode code 1224 = .ok (.istore 6, 2) := by decide +kernel
theorem dL_law_1226 : decode code 1226 = .ok (.aload_n 2, 1) := by decide +kernel
theorem dL_law_1227 : decode code 1227 = .ok (.invokevirtual 117, 3) := by decide +kernel
theorem dL_law_1230 : decode code 1230 = .ok (.iload 5, 2) := by decide +kernel
theorem dL_law_1232 : decode code 1232 = .ok (.if_icmp .eq 5, 3) := by decide +kernel
theorem dL_law_1237 : decode code 1237 = .ok (.iload 5, 2) := by decide +kernel
theorem dL_law_1239 : decode code 1239 = .ok (.ifCond .ne 15, 3) := by decide +kernel
theorem dL_law_1254 : decode code 1254 = .ok (.goto 764, 3) := by decide +kernel
theorem dL_law_1257 : decode code 1257 = .ok (.aload_n 1, 1) := by decide +kernel
theorem dL_law_1258 : decode code 1258 = .ok (.aload_n 3, 1) := by decide +kernel
theorem dL_law_1259 : decode code 1259 = .ok (.invokestatic 171, 3) := by decide +kernel
theorem dL_law_1262 : decode code 1262 = .ok (.istore 5, 2) := by decide +kernel
theorem dL_law_1264 : decode code 1264 = .ok (.aload_n 2, 1) := by decide +kernel
theorem dL_law_1265 : decode code 1265 = .ok (.invokevirtual 173, 3) := by decide +kernel
theorem dL_law_1268 : decode code 1268 = .ok (.istore 6, 2) := by decide +kernel
theorem dL_law_1270 : decode code 1270 = .ok (.aload_n 2, 1) := by decide +kernel
theorem dL_law_1271 : decode code 1271 = .ok (.invokevirtual 117, 3) := by decide +kernel
theorem dL_law_1274 : decode code 1274 = .ok (.iload 5, 2) := by decide +kernel
theorem dL_law_1276 : decode code 1276 = .ok (.if_icmp .eq 5, 3) := by decide +kernel
theorem dL_law_1281 : decode code 1281 = .ok (.iload 5, 2) := by decide +kernel
theorem dL_law_1283 : decode code 1283 = .ok (.ifCond .ne 15, 3) := by decide +kernel
theorem dL_law_1298 : decode code 1298 = .ok (.goto 720, 3) := by decide +kernel
theorem dL_law_1301 : decode code 1301 = .ok (.aload_n 1, 1) := by decide +kernel
theorem dL_law_1302 : decode code 1302 = .ok (.aload_n 0, 1) := by decide +kernel
theorem dL_law_1303 : decode code 1303 = .ok (.iload 4, 2) := by decide +kernel
theorem dL_law_1305 : decode code 1305 = .ok (.iconst 1, 1) := by decide +kernel
theorem dL_law_1306 : decode code 1306 = .ok (.iadd, 1) := by decide +kernel
theorem dL_law_1307 : decode code 1307 = .ok (.iaload, 1) := by decide +kernel
theorem dL_law_1308 : decode code 1308 = .ok (.aload_n 0, 1) := by decide +kernel
theorem dL_law_1309 : decode code 1309 = .ok (.iload 4, 2) := by decide +kernel
theorem dL_law_1311 : decode code 1311 = .ok (.iconst 2, 1) := by decide +kernel
theorem dL_law_1312 : decode code 1312 = .ok (.iadd, 1) := by decide +kernel
theorem dL_law_1313 : decode code 1313 = .ok (.iaload, 1) := by decide +kernel
theorem dL_law_1314 : decode code 1314 = .ok (.aload_n 3, 1) := by decide +kernel
theorem dL_law_1315 : decode code 1315 = .ok (.invokestatic 174, 3) := by decide +kernel
theorem dL_law_1318 : decode code 1318 = .ok (.istore 5, 2) := by decide +kernel
theorem dL_law_1320 : decode code 1320 = .ok (.aload_n 2, 1) := by decide +kernel
theorem dL_law_1321 : decode code 1321 = .ok (.aload_n 0, 1) := by decide +kernel
theorem dL_law_1322 : decode code 1322 = .ok (.iload 4, 2) := by decide +kernel
theorem dL_law_1324 : decode code 1324 = .ok (.iconst 1, 1) := by decide +kernel
theorem dL_law_1325 : decode code 1325 = .ok (.iadd, 1) := by decide +kernel
theorem dL_law_1326 : decode code 1326 = .ok (.iaload, 1) := by decide +kernel
theorem dL_law_1327 : decode code 1327 = .ok (.aload_n 0, 1) := by decide +kernel
theorem dL_law_1328 : decode code 1328 = .ok (.iload 4, 2) := by decide +kernel
theorem dL_law_1330 : decode code 1330 = .ok (.iconst 2, 1) := by decide +kernel
theorem dL_law_1331 : decode code 1331 = .ok (.iadd, 1) := by decide +kernel
theorem dL_law_1332 : decode code 1332 = .ok (.iaload, 1) := by decide +kernel
theorem dL_law_1333 : decode code 1333 = .ok (.invokevirtual 176, 3) := by decide +kernel
theorem dL_law_1336 : decode code 1336 = .ok (.istore 6, 2) := by decide +kernel
theorem dL_law_1338 : decode code 1338 = .ok (.aload_n 2, 1) := by decide +kernel
theorem dL_law_1339 : decode code 1339 = .ok (.invokevirtual 117, 3) := by decide +kernel
theorem dL_law_1342 : decode code 1342 = .ok (.iload 5, 2) := by decide +kernel
theorem dL_law_1344 : decode code 1344 = .ok (.if_icmp .eq 5, 3) := by decide +kernel
theorem dL_law_1349 : decode code 1349 = .ok (.iload 5, 2) := by decide +kernel
theorem dL_law_1351 : decode code 1351 = .ok (.ifCond .ne 15, 3) := by decide +kernel
theorem dL_law_1366 : decode code 1366 = .ok (.goto 652, 3) := by decide +kernel
theorem dL_law_1369 : decode code 1369 = .ok (.aload_n 1, 1) := by decide +kernel
theorem dL_law_1370 : decode code 1370 = .ok (.aload_n 0, 1) := by decide +kernel
theorem dL_law_1371 : decode code 1371 = .ok (.iload 4, 2) := by decide +kernel
theorem dL_law_1373 : decode code 1373 = .ok (.iconst 1, 1) := by decide +kernel
theorem dL_law_1374 : decode code 1374 = .ok (.iadd, 1) := by decide +kernel
theorem dL_law_1375 : decode code 1375 = .ok (.iaload, 1) := by decide +kernel
theorem dL_law_1376 : decode code 1376 = .ok (.aload_n 0, 1) := by decide +kernel
theorem dL_law_1377 : decode code 1377 = .ok (.iload 4, 2) := by decide +kernel
theorem dL_law_1379 : decode code 1379 = .ok (.iconst 2, 1) := by decide +kernel
theorem dL_law_1380 : decode code 1380 = .ok (.iadd, 1) := by decide +kernel
theorem dL_law_1381 : decode code 1381 = .ok (.iaload, 1) := by decide +kernel
theorem dL_law_1382 : decode code 1382 = .ok (.aload_n 0, 1) := by decide +kernel
theorem dL_law_1383 : decode code 1383 = .ok (.iload 4, 2) := by decide +kernel
theorem dL_law_1385 : decode code 1385 = .ok (.iconst 3, 1) := by decide +kernel
theorem dL_law_1386 : decode code 1386 = .ok (.iadd, 1) := by decide +kernel
theorem dL_law_1387 : decode code 1387 = .ok (.iaload, 1) := by decide +kernel
theorem dL_law_1388 : decode code 1388 = .ok (.aload_n 3, 1) := by decide +kernel
theorem dL_law_1389 : decode code 1389 = .ok (.invokestatic 177, 3) := by decide +kernel
theorem dL_law_1392 : decode code 1392 = .ok (.istore 5, 2) := by decide +kernel
theorem dL_law_1394 : decode code 1394 = .ok (.aload_n 2, 1) := by decide +kernel
theorem dL_law_1395 : decode code 1395 = .ok (.aload_n 0, 1) := by decide +kernel
theorem dL_law_1396 : decode code 1396 = .ok (.iload 4, 2) := by decide +kernel
theorem dL_law_1398 : decode code 1398 = .ok (.iconst 1, 1) := by decide +kernel
theorem dL_law_1399 : decode code 1399 = .ok (.iadd, 1) := by decide +kernel
theorem dL_law_1400 : decode code 1400 = .ok (.iaload, 1) := by decide +kernel
theorem dL_law_1401 : decode code 1401 = .ok (.aload_n 0, 1) := by decide +kernel
theorem dL_law_1402 : decode code 1402 = .ok (.iload 4, 2) := by decide +kernel
theorem dL_law_1404 : decode code 1404 = .ok (.iconst 2, 1) := by decide +kernel
theorem dL_law_1405 : decode code 1405 = .ok (.iadd, 1) := by decide +kernel
theorem dL_law_1406 : decode code 1406 = .ok (.iaload, 1) := by decide +kernel
theorem dL_law_1407 : decode code 1407 = .ok (.aload_n 0, 1) := by decide +kernel
theorem dL_law_1408 : decode code 1408 = .ok (.iload 4, 2) := by decide +kernel
theorem dL_law_1410 : decode code 1410 = .ok (.iconst 3, 1) := by decide +kernel
theorem dL_law_1411 : decode code 1411 = .ok (.iadd, 1) := by decide +kernel
theorem dL_law_1412 : decode code 1412 = .ok (.iaload, 1) := by decide +kernel
theorem dL_law_1413 : decode code 1413 = .ok (.invokevirtual 179, 3) := by decide +kernel
theorem dL_law_1416 : decode code 1416 = .ok (.istore 6, 2) := by decide +kernel
theorem dL_law_1418 : decode code 1418 = .ok (.aload_n 2, 1) := by decide +kernel
theorem dL_law_1419 : decode code 1419 = .ok (.invokevirtual 117, 3) := by decide +kernel
theorem dL_law_1422 : decode code 1422 = .ok (.iload 5, 2) := by decide +kernel
theorem dL_law_1424 : decode code 1424 = .ok (.if_icmp .eq 5, 3) := by decide +kernel
theorem dL_law_1429 : decode code 1429 = .ok (.iload 5, 2) := by decide +kernel
theorem dL_law_1431 : decode code 1431 = .ok (.ifCond .ne 15, 3) := by decide +kernel
theorem dL_law_1446 : decode code 1446 = .ok (.goto 572, 3) := by decide +kernel
theorem dL_law_1449 : decode code 1449 = .ok (.aload_n 1, 1) := by decide +kernel
theorem dL_law_1450 : decode code 1450 = .ok (.aload_n 0, 1) := by decide +kernel
theorem dL_law_1451 : decode code 1451 = .ok (.iload 4, 2) := by decide +kernel
theorem dL_law_1453 : decode code 1453 = .ok (.iconst 1, 1) := by decide +kernel
theorem dL_law_1454 : decode code 1454 = .ok (.iadd, 1) := by decide +kernel
theorem dL_law_1455 : decode code 1455 = .ok (.iaload, 1) := by decide +kernel
theorem dL_law_1456 : decode code 1456 = .ok (.aload_n 3, 1) := by decide +kernel
theorem dL_law_1457 : decode code 1457 = .ok (.invokestatic 180, 3) := by decide +kernel
theorem dL_law_1460 : decode code 1460 = .ok (.istore 5, 2) := by decide +kernel
theorem dL_law_1462 : decode code 1462 = .ok (.aload_n 2, 1) := by decide +kernel
theorem dL_law_1463 : decode code 1463 = .ok (.aload_n 0, 1) := by decide +kernel
theorem dL_law_1464 : decode code 1464 = .ok (.iload 4, 2) := by decide +kernel
theorem dL_law_1466 : decode code 1466 = .ok (.iconst 1, 1) := by decide +kernel
theorem dL_law_1467 : decode code 1467 = .ok (.iadd, 1) := by decide +kernel
theorem dL_law_1468 : decode code 1468 = .ok (.iaload, 1) := by decide +kernel
theorem dL_law_1469 : decode code 1469 = .ok (.invokevirtual 182, 3) := by decide +kernel
theorem dL_law_1472 : decode code 1472 = .ok (.istore 6, 2) := by decide +kernel
theorem dL_law_1474 : decode code 1474 = .ok (.aload_n 2, 1) := by decide +kernel
theorem dL_law_1475 : decode code 1475 = .ok (.invokevirtual 117, 3) := by decide +kernel
theorem dL_law_1478 : decode code 1478 = .ok (.iload 5, 2) := by decide +kernel
theorem dL_law_1480 : decode code 1480 = .ok (.if_icmp .eq 5, 3) := by decide +kernel
theorem dL_law_1485 : decode code 1485 = .ok (.iload 5, 2) := by decide +kernel
theorem dL_law_1487 : decode code 1487 = .ok (.ifCond .ne 15, 3) := by decide +kernel
theorem dL_law_1502 : decode code 1502 = .ok (.goto 516, 3) := by decide +kernel
theorem dL_law_1505 : decode code 1505 = .ok (.aload_n 1, 1) := by decide +kernel
theorem dL_law_1506 : decode code 1506 = .ok (.aload_n 0, 1) := by decide +kernel
theorem dL_law_1507 : decode code 1507 = .ok (.iload 4, 2) := by decide +kernel
theorem dL_law_1509 : decode code 1509 = .ok (.iconst 1, 1) := by decide +kernel
theorem dL_law_1510 : decode code 1510 = .ok (.iadd, 1) := by decide +kernel
theorem dL_law_1511 : decode code 1511 = .ok (.iaload, 1) := by decide +kernel
theorem dL_law_1512 : decode code 1512 = .ok (.aload_n 0, 1) := by decide +kernel
theorem dL_law_1513 : decode code 1513 = .ok (.iload 4, 2) := by decide +kernel
theorem dL_law_1515 : decode code 1515 = .ok (.iconst 2, 1) := by decide +kernel
theorem dL_law_1516 : decode code 1516 = .ok (.iadd, 1) := by decide +kernel
theorem dL_law_1517 : decode code 1517 = .ok (.iaload, 1) := by decide +kernel
theorem dL_law_1518 : decode code 1518 = .ok (.aload_n 0, 1) := by decide +kernel
theorem dL_law_1519 : decode code 1519 = .ok (.iload 4, 2) := by decide +kernel
theorem dL_law_1521 : decode code 1521 = .ok (.iconst 3, 1) := by decide +kernel
theorem dL_law_1522 : decode code 1522 = .ok (.iadd, 1) := by decide +kernel
theorem dL_law_1523 : decode code 1523 = .ok (.iaload, 1) := by decide +kernel
theorem dL_law_1524 : decode code 1524 = .ok (.aload_n 0, 1) := by decide +kernel
theorem dL_law_1525 : decode code 1525 = .ok (.iload 4, 2) := by decide +kernel
theorem dL_law_1527 : decode code 1527 = .ok (.iconst 4, 1) := by decide +kernel
theorem dL_law_1528 : decode code 1528 = .ok (.iadd, 1) := by decide +kernel
theorem dL_law_1529 : decode code 1529 = .ok (.iaload, 1) := by decide +kernel
theorem dL_law_1530 : decode code 1530 = .ok (.aload_n 3, 1) := by decide +kernel
theorem dL_law_1531 : decode code 1531 = .ok (.invokestatic 183, 3) := by decide +kernel
theorem dL_law_1534 : decode code 1534 = .ok (.istore 5, 2) := by decide +kernel
theorem dL_law_1536 : decode code 1536 = .ok (.aload_n 2, 1) := by decide +kernel
theorem dL_law_1537 : decode code 1537 = .ok (.aload_n 0, 1) := by decide +kernel
theorem dL_law_1538 : decode code 1538 = .ok (.iload 4, 2) := by decide +kernel
theorem dL_law_1540 : decode code 1540 = .ok (.iconst 1, 1) := by decide +kernel
theorem dL_law_1541 : decode code 1541 = .ok (.iadd, 1) := by decide +kernel
theorem dL_law_1542 : decode code 1542 = .ok (.iaload, 1) := by decide +kernel
theorem dL_law_1543 : decode code 1543 = .ok (.aload_n 0, 1) := by decide +kernel
theorem dL_law_1544 : decode code 1544 = .ok (.iload 4, 2) := by decide +kernel
theorem dL_law_1546 : decode code 1546 = .ok (.iconst 2, 1) := by decide +kernel
theorem dL_law_1547 : decode code 1547 = .ok (.iadd, 1) := by decide +kernel
theorem dL_law_1548 : decode code 1548 = .ok (.iaload, 1) := by decide +kernel
theorem dL_law_1549 : decode code 1549 = .ok (.aload_n 0, 1) := by decide +kernel
theorem dL_law_1550 : decode code 1550 = .ok (.iload 4, 2) := by decide +kernel
theorem dL_law_1552 : decode code 1552 = .ok (.iconst 3, 1) := by decide +kernel
theorem dL_law_1553 : decode code 1553 = .ok (.iadd, 1) := by decide +kernel
theorem dL_law_1554 : decode code 1554 = .ok (.iaload, 1) := by decide +kernel
theorem dL_law_1555 : decode code 1555 = .ok (.aload_n 0, 1) := by decide +kernel
theorem dL_law_1556 : decode code 1556 = .ok (.iload 4, 2) := by decide +kernel
theorem dL_law_1558 : decode code 1558 = .ok (.iconst 4, 1) := by decide +kernel
theorem dL_law_1559 : decode code 1559 = .ok (.iadd, 1) := by decide +kernel
theorem dL_law_1560 : decode code 1560 = .ok (.iaload, 1) := by decide +kernel
theorem dL_law_1561 : decode code 1561 = .ok (.invokevirtual 185, 3) := by decide +kernel
theorem dL_law_1564 : decode code 1564 = .ok (.lstore 6, 2) := by decide +kernel
theorem dL_law_1566 : decode code 1566 = .ok (.aload_n 2, 1) := by decide +kernel
theorem dL_law_1567 : decode code 1567 = .ok (.invokevirtual 117, 3) := by decide +kernel
theorem dL_law_1570 : decode code 1570 = .ok (.iload 5, 2) := by decide +kernel
theorem dL_law_1572 : decode code 1572 = .ok (.if_icmp .eq 5, 3) := by decide +kernel
theorem dL_law_1577 : decode code 1577 = .ok (.iload 5, 2) := by decide +kernel
theorem dL_law_1579 : decode code 1579 = .ok (.ifCond .ne 14, 3) := by decide +kernel
theorem dL_law_1593 : decode code 1593 = .ok (.goto 425, 3) := by decide +kernel
theorem dL_law_1596 : decode code 1596 = .ok (.aload_n 1, 1) := by decide +kernel
theorem dL_law_1597 : decode code 1597 = .ok (.aload_n 3, 1) := by decide +kernel
theorem dL_law_1598 : decode code 1598 = .ok (.invokestatic 186, 3) := by decide +kernel
theorem dL_law_1601 : decode code 1601 = .ok (.istore 5, 2) := by decide +kernel
theorem dL_law_1603 : decode code 1603 = .ok (.aload_n 2, 1) := by decide +kernel
theorem dL_law_1604 : decode code 1604 = .ok (.invokevirtual 188, 3) := by decide +kernel
theorem dL_law_1607 : decode code 1607 = .ok (.istore 6, 2) := by decide +kernel
theorem dL_law_1609 : decode code 1609 = .ok (.aload_n 2, 1) := by decide +kernel
theorem dL_law_1610 : decode code 1610 = .ok (.invokevirtual 117, 3) := by decide +kernel
theorem dL_law_1613 : decode code 1613 = .ok (.iload 5, 2) := by decide +kernel
theorem dL_law_1615 : decode code 1615 = .ok (.if_icmp .eq 5, 3) := by decide +kernel
theorem dL_law_1620 : decode code 1620 = .ok (.iload 5, 2) := by decide +kernel
theorem dL_law_1622 : decode code 1622 = .ok (.ifCond .ne 15, 3) := by decide +kernel
theorem dL_law_1637 : decode code 1637 = .ok (.goto 381, 3) := by decide +kernel
theorem dL_law_1640 : decode code 1640 = .ok (.aload_n 1, 1) := by decide +kernel
theorem dL_law_1641 : decode code 1641 = .ok (.aload_n 0, 1) := by decide +kernel
theorem dL_law_1642 : decode code 1642 = .ok (.iload 4, 2) := by decide +kernel
theorem dL_law_1644 : decode code 1644 = .ok (.iconst 1, 1) := by decide +kernel
theorem dL_law_1645 : decode code 1645 = .ok (.iadd, 1) := by decide +kernel
theorem dL_law_1646 : decode code 1646 = .ok (.iaload, 1) := by decide +kernel
theorem dL_law_1647 : decode code 1647 = .ok (.aload_n 0, 1) := by decide +kernel
theorem dL_law_1648 : decode code 1648 = .ok (.iload 4, 2) := by decide +kernel
theorem dL_law_1650 : decode code 1650 = .ok (.iconst 2, 1) := by decide +kernel
theorem dL_law_1651 : decode code 1651 = .ok (.iadd, 1) := by decide +kernel
theorem dL_law_1652 : decode code 1652 = .ok (.iaload, 1) := by decide +kernel
theorem dL_law_1653 : decode code 1653 = .ok (.aload_n 3, 1) := by decide +kernel
theorem dL_law_1654 : decode code 1654 = .ok (.invokestatic 189, 3) := by decide +kernel
theorem dL_law_1657 : decode code 1657 = .ok (.istore 5, 2) := by decide +kernel
theorem dL_law_1659 : decode code 1659 = .ok (.aload_n 2, 1) := by decide +kernel
theorem dL_law_1660 : decode code 1660 = .ok (.aload_n 0, 1) := by decide +kernel
theorem dL_law_1661 : decode code 1661 = .ok (.iload 4, 2) := by decide +kernel
theorem dL_law_1663 : decode code 1663 = .ok (.iconst 1, 1) := by decide +kernel
theorem dL_law_1664 : decode code 1664 = .ok (.iadd, 1) := by decide +kernel
theorem dL_law_1665 : decode code 1665 = .ok (.iaload, 1) := by decide +kernel
theorem dL_law_1666 : decode code 1666 = .ok (.aload_n 0, 1) := by decide +kernel
theorem dL_law_1667 : decode code 1667 = .ok (.iload 4, 2) := by decide +kernel
theorem dL_law_1669 : decode code 1669 = .ok (.iconst 2, 1) := by decide +kernel
theorem dL_law_1670 : decode code 1670 = .ok (.iadd, 1) := by decide +kernel
theorem dL_law_1671 : decode code 1671 = .ok (.iaload, 1) := by decide +kernel
theorem dL_law_1672 : decode code 1672 = .ok (.invokevirtual 191, 3) := by decide +kernel
theorem dL_law_1675 : decode code 1675 = .ok (.lstore 6, 2) := by decide +kernel
theorem dL_law_1677 : decode code 1677 = .ok (.aload_n 2, 1) := by decide +kernel
theorem dL_law_1678 : decode code 1678 = .ok (.invokevirtual 117, 3) := by decide +kernel
theorem dL_law_1681 : decode code 1681 = .ok (.iload 5, 2) := by decide +kernel
theorem dL_law_1683 : decode code 1683 = .ok (.if_icmp .eq 5, 3) := by decide +kernel
theorem dL_law_1688 : decode code 1688 = .ok (.iload 5, 2) := by decide +kernel
theorem dL_law_1690 : decode code 1690 = .ok (.ifCond .ne 14, 3) := by decide +kernel
theorem dL_law_1704 : decode code 1704 = .ok (.goto 314, 3) := by decide +kernel
theorem dL_law_1707 : decode code 1707 = .ok (.aload_n 1, 1) := by decide +kernel
theorem dL_law_1708 : decode code 1708 = .ok (.aload_n 0, 1) := by decide +kernel
theorem dL_law_1709 : decode code 1709 = .ok (.iload 4, 2) := by decide +kernel
theorem dL_law_1711 : decode code 1711 = .ok (.iconst 1, 1) := by decide +kernel
theorem dL_law_1712 : decode code 1712 = .ok (.iadd, 1) := by decide +kernel
theorem dL_law_1713 : decode code 1713 = .ok (.iaload, 1) := by decide +kernel
theorem dL_law_1714 : decode code 1714 = .ok (.aload_n 0, 1) := by decide +kernel
theorem dL_law_1715 : decode code 1715 = .ok (.iload 4, 2) := by decide +kernel
theorem dL_law_1717 : decode code 1717 = .ok (.iconst 2, 1) := by decide +kernel
theorem dL_law_1718 : decode code 1718 = .ok (.iadd, 1) := by decide +kernel
theorem dL_law_1719 : decode code 1719 = .ok (.iaload, 1) := by decide +kernel
theorem dL_law_1720 : decode code 1720 = .ok (.aload_n 3, 1) := by decide +kernel
theorem dL_law_1721 : decode code 1721 = .ok (.invokestatic 192, 3) := by decide +kernel
theorem dL_law_1724 : decode code 1724 = .ok (.istore 5, 2) := by decide +kernel
theorem dL_law_1726 : decode code 1726 = .ok (.aload_n 2, 1) := by decide +kernel
theorem dL_law_1727 : decode code 1727 = .ok (.aload_n 0, 1) := by decide +kernel
theorem dL_law_1728 : decode code 1728 = .ok (.iload 4, 2) := by decide +kernel
theorem dL_law_1730 : decode code 1730 = .ok (.iconst 1, 1) := by decide +kernel
theorem dL_law_1731 : decode code 1731 = .ok (.iadd, 1) := by decide +kernel
theorem dL_law_1732 : decode code 1732 = .ok (.iaload, 1) := by decide +kernel
theorem dL_law_1733 : decode code 1733 = .ok (.aload_n 0, 1) := by decide +kernel
theorem dL_law_1734 : decode code 1734 = .ok (.iload 4, 2) := by decide +kernel
theorem dL_law_1736 : decode code 1736 = .ok (.iconst 2, 1) := by decide +kernel
theorem dL_law_1737 : decode code 1737 = .ok (.iadd, 1) := by decide +kernel
theorem dL_law_1738 : decode code 1738 = .ok (.iaload, 1) := by decide +kernel
theorem dL_law_1739 : decode code 1739 = .ok (.invokevirtual 194, 3) := by decide +kernel
theorem dL_law_1742 : decode code 1742 = .ok (.istore 6, 2) := by decide +kernel
theorem dL_law_1744 : decode code 1744 = .ok (.aload_n 2, 1) := by decide +kernel
theorem dL_law_1745 : decode code 1745 = .ok (.invokevirtual 117, 3) := by decide +kernel
theorem dL_law_1748 : decode code 1748 = .ok (.iload 5, 2) := by decide +kernel
theorem dL_law_1750 : decode code 1750 = .ok (.if_icmp .eq 5, 3) := by decide +kernel
theorem dL_law_1755 : decode code 1755 = .ok (.iload 5, 2) := by decide +kernel
theorem dL_law_1757 : decode code 1757 = .ok (.ifCond .ne 15, 3) := by decide +kernel
theorem dL_law_1772 : decode code 1772 = .ok (.goto 246, 3) := by decide +kernel
theorem dL_law_1775 : decode code 1775 = .ok (.aload_n 1, 1) := by decide +kernel
theorem dL_law_1776 : decode code 1776 = .ok (.aload_n 0, 1) := by decide +kernel
theorem dL_law_1777 : decode code 1777 = .ok (.iload 4, 2) := by decide +kernel
theorem dL_law_1779 : decode code 1779 = .ok (.iconst 1, 1) := by decide +kernel
theorem dL_law_1780 : decode code 1780 = .ok (.iadd, 1) := by decide +kernel
theorem dL_law_1781 : decode code 1781 = .ok (.iaload, 1) := by decide +kernel
theorem dL_law_1782 : decode code 1782 = .ok (.aload_n 0, 1) := by decide +kernel
theorem dL_law_1783 : decode code 1783 = .ok (.iload 4, 2) := by decide +kernel
theorem dL_law_1785 : decode code 1785 = .ok (.iconst 2, 1) := by decide +kernel
theorem dL_law_1786 : decode code 1786 = .ok (.iadd, 1) := by decide +kernel
theorem dL_law_1787 : decode code 1787 = .ok (.iaload, 1) := by decide +kernel
theorem dL_law_1788 : decode code 1788 = .ok (.aload_n 3, 1) := by decide +kernel
theorem dL_law_1789 : decode code 1789 = .ok (.invokestatic 195, 3) := by decide +kernel
theorem dL_law_1792 : decode code 1792 = .ok (.istore 5, 2) := by decide +kernel
theorem dL_law_1794 : decode code 1794 = .ok (.aload_n 2, 1) := by decide +kernel
theorem dL_law_1795 : decode code 1795 = .ok (.aload_n 0, 1) := by decide +kernel
theorem dL_law_1796 : decode code 1796 = .ok (.iload 4, 2) := by decide +kernel
theorem dL_law_1798 : decode code 1798 = .ok (.iconst 1, 1) := by decide +kernel
theorem dL_law_1799 : decode code 1799 = .ok (.iadd, 1) := by decide +kernel
theorem dL_law_1800 : decode code 1800 = .ok (.iaload, 1) := by decide +kernel
theorem dL_law_1801 : decode code 1801 = .ok (.aload_n 0, 1) := by decide +kernel
theorem dL_law_1802 : decode code 1802 = .ok (.iload 4, 2) := by decide +kernel
theorem dL_law_1804 : decode code 1804 = .ok (.iconst 2, 1) := by decide +kernel
theorem dL_law_1805 : decode code 1805 = .ok (.iadd, 1) := by decide +kernel
theorem dL_law_1806 : decode code 1806 = .ok (.iaload, 1) := by decide +kernel
theorem dL_law_1807 : decode code 1807 = .ok (.invokevirtual 197, 3) := by decide +kernel
theorem dL_law_1810 : decode code 1810 = .ok (.istore 6, 2) := by decide +kernel
theorem dL_law_1812 : decode code 1812 = .ok (.aload_n 2, 1) := by decide +kernel
theorem dL_law_1813 : decode code 1813 = .ok (.invokevirtual 117, 3) := by decide +kernel
theorem dL_law_1816 : decode code 1816 = .ok (.iload 5, 2) := by decide +kernel
theorem dL_law_1818 : decode code 1818 = .ok (.if_icmp .eq 5, 3) := by decide +kernel
theorem dL_law_1823 : decode code 1823 = .ok (.iload 5, 2) := by decide +kernel
theorem dL_law_1825 : decode code 1825 = .ok (.ifCond .ne 15, 3) := by decide +kernel
theorem dL_law_1840 : decode code 1840 = .ok (.goto 178, 3) := by decide +kernel
theorem dL_law_1843 : decode code 1843 = .ok (.aload_n 1, 1) := by decide +kernel
theorem dL_law_1844 : decode code 1844 = .ok (.aload_n 0, 1) := by decide +kernel
theorem dL_law_1845 : decode code 1845 = .ok (.iload 4, 2) := by decide +kernel
theorem dL_law_1847 : decode code 1847 = .ok (.iconst 1, 1) := by decide +kernel
theorem dL_law_1848 : decode code 1848 = .ok (.iadd, 1) := by decide +kernel
theorem dL_law_1849 : decode code 1849 = .ok (.iaload, 1) := by decide +kernel
theorem dL_law_1850 : decode code 1850 = .ok (.aload_n 0, 1) := by decide +kernel
theorem dL_law_1851 : decode code 1851 = .ok (.iload 4, 2) := by decide +kernel
theorem dL_law_1853 : decode code 1853 = .ok (.iconst 2, 1) := by decide +kernel
theorem dL_law_1854 : decode code 1854 = .ok (.iadd, 1) := by decide +kernel
theorem dL_law_1855 : decode code 1855 = .ok (.iaload, 1) := by decide +kernel
theorem dL_law_1856 : decode code 1856 = .ok (.aload_n 3, 1) := by decide +kernel
theorem dL_law_1857 : decode code 1857 = .ok (.invokestatic 198, 3) := by decide +kernel
theorem dL_law_1860 : decode code 1860 = .ok (.istore 5, 2) := by decide +kernel
theorem dL_law_1862 : decode code 1862 = .ok (.aload_n 2, 1) := by decide +kernel
theorem dL_law_1863 : decode code 1863 = .ok (.aload_n 0, 1) := by decide +kernel
theorem dL_law_1864 : decode code 1864 = .ok (.iload 4, 2) := by decide +kernel
theorem dL_law_1866 : decode code 1866 = .ok (.iconst 1, 1) := by decide +kernel
theorem dL_law_1867 : decode code 1867 = .ok (.iadd, 1) := by decide +kernel
theorem dL_law_1868 : decode code 1868 = .ok (.iaload, 1) := by decide +kernel
theorem dL_law_1869 : decode code 1869 = .ok (.aload_n 0, 1) := by decide +kernel
theorem dL_law_1870 : decode code 1870 = .ok (.iload 4, 2) := by decide +kernel
theorem dL_law_1872 : decode code 1872 = .ok (.iconst 2, 1) := by decide +kernel
theorem dL_law_1873 : decode code 1873 = .ok (.iadd, 1) := by decide +kernel
theorem dL_law_1874 : decode code 1874 = .ok (.iaload, 1) := by decide +kernel
theorem dL_law_1875 : decode code 1875 = .ok (.invokevirtual 200, 3) := by decide +kernel
theorem dL_law_1878 : decode code 1878 = .ok (.istore 6, 2) := by decide +kernel
theorem dL_law_1880 : decode code 1880 = .ok (.aload_n 2, 1) := by decide +kernel
theorem dL_law_1881 : decode code 1881 = .ok (.invokevirtual 117, 3) := by decide +kernel
theorem dL_law_1884 : decode code 1884 = .ok (.iload 5, 2) := by decide +kernel
theorem dL_law_1886 : decode code 1886 = .ok (.if_icmp .eq 5, 3) := by decide +kernel
theorem dL_law_1891 : decode code 1891 = .ok (.iload 5, 2) := by decide +kernel
theorem dL_law_1893 : decode code 1893 = .ok (.ifCond .ne 15, 3) := by decide +kernel
theorem dL_law_1908 : decode code 1908 = .ok (.goto 110, 3) := by decide +kernel
theorem dL_law_1911 : decode code 1911 = .ok (.aload_n 1, 1) := by decide +kernel
theorem dL_law_1912 : decode code 1912 = .ok (.aload_n 0, 1) := by decide +kernel
theorem dL_law_1913 : decode code 1913 = .ok (.iload 4, 2) := by decide +kernel
theorem dL_law_1915 : decode code 1915 = .ok (.iconst 1, 1) := by decide +kernel
theorem dL_law_1916 : decode code 1916 = .ok (.iadd, 1) := by decide +kernel
theorem dL_law_1917 : decode code 1917 = .ok (.iaload, 1) := by decide +kernel
theorem dL_law_1918 : decode code 1918 = .ok (.aload_n 3, 1) := by decide +kernel
theorem dL_law_1919 : decode code 1919 = .ok (.invokestatic 201, 3) := by decide +kernel
theorem dL_law_1922 : decode code 1922 = .ok (.istore 5, 2) := by decide +kernel
theorem dL_law_1924 : decode code 1924 = .ok (.aload_n 2, 1) := by decide +kernel
theorem dL_law_1925 : decode code 1925 = .ok (.aload_n 0, 1) := by decide +kernel
theorem dL_law_1926 : decode code 1926 = .ok (.iload 4, 2) := by decide +kernel
theorem dL_law_1928 : decode code 1928 = .ok (.iconst 1, 1) := by decide +kernel
theorem dL_law_1929 : decode code 1929 = .ok (.iadd, 1) := by decide +kernel
theorem dL_law_1930 : decode code 1930 = .ok (.iaload, 1) := by decide +kernel
theorem dL_law_1931 : decode code 1931 = .ok (.invokevirtual 203, 3) := by decide +kernel
theorem dL_law_1934 : decode code 1934 = .ok (.istore 6, 2) := by decide +kernel
theorem dL_law_1936 : decode code 1936 = .ok (.aload_n 2, 1) := by decide +kernel
theorem dL_law_1937 : decode code 1937 = .ok (.invokevirtual 117, 3) := by decide +kernel
theorem dL_law_1940 : decode code 1940 = .ok (.iload 5, 2) := by decide +kernel
theorem dL_law_1942 : decode code 1942 = .ok (.if_icmp .eq 5, 3) := by decide +kernel
theorem dL_law_1947 : decode code 1947 = .ok (.iload 5, 2) := by decide +kernel
theorem dL_law_1949 : decode code 1949 = .ok (.ifCond .ne 15, 3) := by decide +kernel
theorem dL_law_1964 : decode code 1964 = .ok (.goto 54, 3) := by decide +kernel
theorem dL_law_1967 : decode code 1967 = .ok (.aload_n 1, 1) := by decide +kernel
theorem dL_law_1968 : decode code 1968 = .ok (.invokevirtual 204, 3) := by decide +kernel
theorem dL_law_1971 : decode code 1971 = .ok (.aload_n 2, 1) := by decide +kernel
theorem dL_law_1972 : decode code 1972 = .ok (.invokevirtual 207, 3) := by decide +kernel
theorem dL_law_1975 : decode code 1975 = .ok (.if_icmp .eq 43, 3) := by decide +kernel
theorem dL_law_1980 : decode code 1980 = .ok (.aload_n 1, 1) := by decide +kernel
theorem dL_law_1981 : decode code 1981 = .ok (.invokevirtual 208, 3) := by decide +kernel
theorem dL_law_1984 : decode code 1984 = .ok (.aload_n 2, 1) := by decide +kernel
theorem dL_law_1985 : decode code 1985 = .ok (.invokevirtual 211, 3) := by decide +kernel
theorem dL_law_1988 : decode code 1988 = .ok (.if_icmp .eq 30, 3) := by decide +kernel
theorem dL_law_1993 : decode code 1993 = .ok (.aload_n 1, 1) := by decide +kernel
theorem dL_law_1994 : decode code 1994 = .ok (.aload_n 0, 1) := by decide +kernel
theorem dL_law_1995 : decode code 1995 = .ok (.iload 4, 2) := by decide +kernel
theorem dL_law_1997 : decode code 1997 = .ok (.iconst 1, 1) := by decide +kernel
theorem dL_law_1998 : decode code 1998 = .ok (.iadd, 1) := by decide +kernel
theorem dL_law_1999 : decode code 1999 = .ok (.iaload, 1) := by decide +kernel
theorem dL_law_2000 : decode code 2000 = .ok (.invokevirtual 212, 3) := by decide +kernel
theorem dL_law_2003 : decode code 2003 = .ok (.aload_n 2, 1) := by decide +kernel
theorem dL_law_2004 : decode code 2004 = .ok (.aload_n 0, 1) := by decide +kernel
theorem dL_law_2005 : decode code 2005 = .ok (.iload 4, 2) := by decide +kernel
theorem dL_law_2007 : decode code 2007 = .ok (.iconst 1, 1) := by decide +kernel
theorem dL_law_2008 : decode code 2008 = .ok (.iadd, 1) := by decide +kernel
theorem dL_law_2009 : decode code 2009 = .ok (.iaload, 1) := by decide +kernel
theorem dL_law_2010 : decode code 2010 = .ok (.invokevirtual 215, 3) := by decide +kernel
theorem dL_law_2013 : decode code 2013 = .ok (.if_icmp .eq 5, 3) := by decide +kernel
theorem dL_law_2018 : decode code 2018 = .ok (.iinc 4 6, 3) := by decide +kernel
theorem dL_law_2021 : decode code 2021 = .ok (.goto (-1998), 3) := by decide +kernel
theorem dL_law_23 : decode code 23 = .ok (.iload 4, 2) := by decide +kernel
theorem dL_law_25 : decode code 25 = .ok (.aload_n 0, 1) := by decide +kernel
theorem dL_law_26 : decode code 26 = .ok (.arraylength, 1) := by decide +kernel
theorem dL_law_27 : decode code 27 = .ok (.bipush 6, 2) := by decide +kernel
theorem dL_law_29 : decode code 29 = .ok (.isub, 1) := by decide +kernel
theorem dL_law_30 : decode code 30 = .ok (.if_icmp .gt 1994, 3) := by decide +kernel
theorem dL_law_2024 : decode code 2024 = .ok (.iconst 1, 1) := by decide +kernel
theorem dL_law_2025 : decode code 2025 = .ok (.ireturn, 1) := by decide +kernel
theorem law_tail {p : Program} {l : Launch} {e : Env} {s : State} {m : MethodId} {below : List Frame} {meth : Method} {c : Code} {b : Nat} {xs : Nat → Int32} (C0 : lw_At p s m meth c b 6 xs) {A : Nat → Prop} (hA2 : ∀ q : Nat, A q → s.heap.size ≤ q) (hbA : ¬ A b) {H : Heap} {locs : List Loc} {ls : Array Slot} (hS : va_S A s.heap H locs) (hl : lv_has ls 8 [(4, .int 0), (0, .ref b)]) {cells slots : Nat} (hc : cells ≤ 600002) (hs : slots ≤ 7302232) : W p l e room_1 s m #[Value.ref b] below meth c H locs cells slots (lw_Z below #[Value.ref b] s) (F0 m 2018 ls []) := by
  obtain ⟨hx, hb, hr, hml, hown, hts, hX, hbl, hlocks, hgv⟩ := C0
  refine lv_iinc (v := 6) (lv' := [(4, .int 6), (0, .ref b)]) hx hb dL_law_2018 hl (k := 0) rfl (by decide) (by decide) rfl (fun ls hl => ?_)
  refine lv_goto (tgt := 23) hx hb dL_law_2021 (by decide) ?_
  refine lv_iload hx hb dL_law_23 (lv_at hl 0 rfl) ?_
  refine lv_aload_n hx hb dL_law_25 rfl (lv_at hl 1 rfl) ?_
  refine va_slen hx hb hX hbl hbA hS dL_law_26 ?_
  refine lv_topi (fun v_1 ev_1 => ?_)
  have ev_1 : v_1 = 6 := ev_1.trans (by decide)
  subst ev_1
  refine lv_bipush (v := 6) hx hb dL_law_27 (by decide) ?_
  refine lv_isub hx hb dL_law_29 ?_
  refine lv_topi (fun v_2 ev_2 => ?_)
  have ev_2 : v_2 = 0 := ev_2.trans (by decide)
  subst ev_2
  refine lv_icmp_gt (tgt := 2024) hx hb dL_law_30 (by decide) (fun _ => ?_) (fun hc => absurd (by decide) hc)
  refine lv_iconst (v := 1) hx hb dL_law_2024 (by decide) ?_
  refine va_forget (fun q hq => hA2 _ (hS.2.2 q hq)) ?_
  refine W.widen (k := 600002) (n := 7302232) hc hs ?_
  exact lw_ret hx hb hr hlocks dL_law_2025
set_option maxHeartbeats 4000000 in
set_option maxRecDepth 100000 in
/-- the law at a call of feed on fresh objects -/
theorem law_case_feed {p : Program} {l : Launch} (hlt : l.stackTraces = false) {e : Env} {s : State} {m : MethodId} {below : List Frame} {meth : Method} {c : Code} {b : Nat} {xs : Nat → Int32} (C0 : lw_At p s m meth c b 6 xs) {dC : Nat → ClassId} {dI : Nat → Nat → Nat} {A : Nat → Prop} (hA : ∀ q : Nat, s.heap.size ≤ q → A q) (hA2 : ∀ q : Nat, A q → s.heap.size ≤ q) (hbA : ¬ A b) (hN : w_N s) (hT : w_T A s s.heap) (hSt : w_S A s s.heap) (hC : w_C A s s.heap) {H : Heap} {locs : List Loc} {ls : Array Slot} {c0 : Nat} {n0 : Nat} {qt : Nat} {kt : Nat} {ft : Nat → Int32} {qo : Nat} {ko : Nat} {fo : Nat → Int64} {qfed : Nat} {qf : Nat} {qfd : Nat} {qs : Nat} {qk : Nat} {ke : Nat} {fe : Nat → Int32} {fs_c0 : List Value} {fs_n0 : List Value} (hP : va_P (dC, dI) vwCl [(c0, .inr (11, fs_c0)), (qt, .inl (kt, 200, .inl ft)), (qo, .inl (ko, 1, .inr (.inl fo))), (n0, .inr (15, fs_n0)), (qfed, .inl (ke, 200, .inl fe))] H) (hD : va_D A [(c0, .inr (11, fs_c0)), (qt, .inl (kt, 200, .inl ft)), (qo, .inl (ko, 1, .inr (.inl fo))), (n0, .inr (15, fs_n0)), (qfed, .inl (ke, 200, .inl fe))]) (hK : va_K (dC, dI) vwCl [(kt, .byte), (ko, .long), (ke, .int)] s) (hS : va_S A s.heap H locs) (hl : lv_has ls 8 [(4, .int 0), (3, .ref qo), (2, .ref n0), (1, .ref c0), (0, .ref b)]) (hF_c0 : mF 19 [(1, .int 0), (0, .ref qt)] fs_c0) (hF_n0 : mF 89 [(0, .int 0), (18, .int 0), (19, .int 0), (20, .int (-1)), (21, .int 0), (22, .int 0), (23, .int 0), (24, .int 0), (25, .int 0), (27, .int 0), (28, .int 0), (29, .int 0), (35, .int 0), (17, .int (-1)), (26, .ref qfed), (30, .ref qf), (31, .ref qfd), (33, .ref qs), (36, .ref qk)] fs_n0) : W p l e room_1 s m #[Value.ref b] below meth c H locs 15894 3343160 (lw_Z below #[Value.ref b] s) (F0 m 180 ls []) := by
  have hx := C0.1; have hb := C0.2.1; have hml := C0.2.2.2.1; have hown := C0.2.2.2.2.1; have hts := C0.2.2.2.2.2.1; have hX := C0.2.2.2.2.2.2.1; have hbl := C0.2.2.2.2.2.2.2.1; have hlocks := C0.2.2.2.2.2.2.2.2.1
  refine lv_aload_n hx hb dL_law_180 rfl (lv_at hl 3 rfl) ?_
  refine lv_aload_n hx hb dL_law_181 rfl (lv_at hl 4 rfl) ?_
  refine lv_iload hx hb dL_law_182 (lv_at hl 0 rfl) ?_
  refine lv_iconst (v := 1) hx hb dL_law_184 (by decide) ?_
  refine lv_iadd hx hb dL_law_185 ?_
  refine lv_topi (fun v_1 ev_1 => ?_)
  have ev_1 : v_1 = 1 := ev_1.trans (by decide)
  subst ev_1
  refine va_sld hx hb hX hbl hbA hS (by exact fun h => by rcases h with h | h <;> revert h <;> decide) dL_law_186 ?_
  refine lv_topi (fun v_2 ev_2 => ?_)
  have ev_2 : v_2 = xs 1 := ev_2
  subst ev_2
  refine lv_aload_n hx hb dL_law_187 rfl (lv_at hl 4 rfl) ?_
  refine lv_iload hx hb dL_law_188 (lv_at hl 0 rfl) ?_
  refine lv_iconst (v := 2) hx hb dL_law_190 (by decide) ?_
  refine lv_iadd hx hb dL_law_191 ?_
  refine lv_topi (fun v_3 ev_3 => ?_)
  have ev_3 : v_3 = 2 := ev_3.trans (by decide)
  subst ev_3
  refine va_sld hx hb hX hbl hbA hS (by exact fun h => by rcases h with h | h <;> revert h <;> decide) dL_law_192 ?_
  refine lv_topi (fun v_4 ev_4 => ?_)
  have ev_4 : v_4 = xs 2 := ev_4
  subst ev_4
  refine lv_aload_n hx hb dL_law_193 rfl (lv_at hl 4 rfl) ?_
  refine lv_iload hx hb dL_law_194 (lv_at hl 0 rfl) ?_
  refine lv_iconst (v := 3) hx hb dL_law_196 (by decide) ?_
  refine lv_iadd hx hb dL_law_197 ?_
  refine lv_topi (fun v_5 ev_5 => ?_)
  have ev_5 : v_5 = 3 := ev_5.trans (by decide)
  subst ev_5
  refine va_sld hx hb hX hbl hbA hS (by exact fun h => by rcases h with h | h <;> revert h <;> decide) dL_law_198 ?_
  refine lv_topi (fun v_6 ev_6 => ?_)
  have ev_6 : v_6 = xs 3 := ev_6
  subst ev_6
  refine lv_aload_n hx hb dL_law_199 rfl (lv_at hl 4 rfl) ?_
  refine lv_iload hx hb dL_law_200 (lv_at hl 0 rfl) ?_
  refine lv_iconst (v := 4) hx hb dL_law_202 (by decide) ?_
  refine lv_iadd hx hb dL_law_203 ?_
  refine lv_topi (fun v_7 ev_7 => ?_)
  have ev_7 : v_7 = 4 := ev_7.trans (by decide)
  subst ev_7
  refine va_sld hx hb hX hbl hbA hS (by exact fun h => by rcases h with h | h <;> revert h <;> decide) dL_law_204 ?_
  refine lv_topi (fun v_8 ev_8 => ?_)
  have ev_8 : v_8 = xs 4 := ev_8
  subst ev_8
  refine lv_aload_n hx hb dL_law_205 rfl (lv_at hl 4 rfl) ?_
  refine lv_iload hx hb dL_law_206 (lv_at hl 0 rfl) ?_
  refine lv_iconst (v := 5) hx hb dL_law_208 (by decide) ?_
  refine lv_iadd hx hb dL_law_209 ?_
  refine lv_topi (fun v_9 ev_9 => ?_)
  have ev_9 : v_9 = 5 := ev_9.trans (by decide)
  subst ev_9
  refine va_sld hx hb hX hbl hbA hS (by exact fun h => by rcases h with h | h <;> revert h <;> decide) dL_law_210 ?_
  refine lv_topi (fun v_10 ev_10 => ?_)
  have ev_10 : v_10 = xs 5 := ev_10
  subst ev_10
  have hPc := hP.sub (ws' := [(c0, .inr (11, fs_c0)), (qt, .inl (kt, 200, .inl ft))]) [0, 1] rfl
  have hDc := hD.sub (ws' := [(c0, .inr (11, fs_c0)), (qt, .inl (kt, 200, .inl ft))]) [0, 1] (by decide) rfl
  have hKc := hK.sub (tys' := [(kt, .byte)]) [0] rfl
  have hFc := va_free (wc := [(c0, .inr (11, fs_c0)), (qt, .inl (kt, 200, .inl ft))]) hD hS hA [0, 1] rfl
  refine va_calli (va_runV (As := [.int (xs 1), .int (xs 2), .int (xs 3), .int (xs 4), .int (xs 5)]) (rest := []) ⟨hx, hb, hml, hown, hts⟩ (c_f_feed l dC dI c0 qt kt ((xs 1)) ((xs 2)) ((xs 3)) ((xs 4)) ((xs 5)) ft fs_c0 (mF.sub hF_c0 [0, 1] rfl) H.size) (cwV 5 hts g_law_wv_f_feed_106 rfl rfl rfl hv_X11_feed ⟨Nat.le_of_ble_eq_true rfl, Nat.le_of_ble_eq_true rfl⟩) ⟨fun a U g mk q => by obtain ⟨q0, q1, qP, qK, qD, qE0⟩ := q; exact ⟨q0, q1, qP, va_K.moved (u := U) (U := U.calling g mk a) (Vm.Alike.refl U.vm) qK, qD, w_N.same rfl qE0⟩, va_recv hKc hPc (ci := 11) (q0 := 0) rfl rfl, fun U hU hW => ⟨rfl, by rw [hU], by rw [hU]; exact hPc, va_K.moved hW.alike hKc, hDc.weaken (fun _ _ _ _ => trivial), w_N.warm hW hN⟩⟩ rfl rfl hl.1 rfl (lv_room (Nat.le_of_ble_eq_true rfl)) dL_law_211 ⟨(Nat.le_of_ble_eq_true rfl), (Nat.le_of_ble_eq_true rfl)⟩) hS (fun q _ h => hFc q h) hFc (fun r_11 u t H1 locs1 ht hvm hw hB hz1 hk1 hS1 => ?_)
  obtain ⟨hP1, hK1, hD1⟩ := hB
  rw [ht] at hP1
  have hK1 := va_K.moved hvm.symm hK1
  have hJ := va_join (wr := [(qo, .inl (ko, 1, .inr (.inl fo))), (n0, .inr (15, fs_n0)), (qfed, .inl (ke, 200, .inl fe))]) (w1 := []) hP hD [0, 1] [2, 3, 4] rfl rfl (by decide) (by decide) hk1 hFc hP1 hD1
  clear hP hD hPc hDc hKc hFc hz1; try clear hk1
  obtain ⟨hP, hD⟩ := hJ
  replace hK := (hK.sub (tys' := [(kt, .byte), (ko, .long), (ke, .int)]) [0, 1, 2] rfl).app (hK1.sub (tys' := []) [] rfl)
  clear hP1 hK1 hD1 hvm ht hS; try clear t
  try clear H
  revert hS1
  intro hS
  generalize H1 = H at hP hS ⊢; try clear H1
  replace hP : va_P (dC, dI) vwCl [(qo, .inl (ko, 1, .inr (.inl fo))), (n0, .inr (15, fs_n0)), (qfed, .inl (ke, 200, .inl fe))] H := hP
  replace hD : va_D A [(qo, .inl (ko, 1, .inr (.inl fo))), (n0, .inr (15, fs_n0)), (qfed, .inl (ke, 200, .inl fe))] := hD
  replace hK : va_K (dC, dI) vwCl [(kt, .byte), (ko, .long), (ke, .int)] s := hK
  have hw_12 : r_11 = 20 := hw; clear hw
  subst hw_12
  refine lv_aload_n hx hb dL_law_214 rfl (lv_at hl 2 rfl) ?_
  refine lv_aload_n hx hb dL_law_215 rfl (lv_at hl 4 rfl) ?_
  refine lv_iload hx hb dL_law_216 (lv_at hl 0 rfl) ?_
  refine lv_iconst (v := 1) hx hb dL_law_218 (by decide) ?_
  refine lv_iadd hx hb dL_law_219 ?_
  refine lv_topi (fun v_13 ev_13 => ?_)
  have ev_13 : v_13 = 1 := ev_13.trans (by decide)
  subst ev_13
  refine va_sld hx hb hX hbl hbA hS (by exact fun h => by rcases h with h | h <;> revert h <;> decide) dL_law_220 ?_
  refine lv_topi (fun v_14 ev_14 => ?_)
  have ev_14 : v_14 = xs 1 := ev_14
  subst ev_14
  refine lv_aload_n hx hb dL_law_221 rfl (lv_at hl 4 rfl) ?_
  refine lv_iload hx hb dL_law_222 (lv_at hl 0 rfl) ?_
  refine lv_iconst (v := 2) hx hb dL_law_224 (by decide) ?_
  refine lv_iadd hx hb dL_law_225 ?_
  refine lv_topi (fun v_15 ev_15 => ?_)
  have ev_15 : v_15 = 2 := ev_15.trans (by decide)
  subst ev_15
  refine va_sld hx hb hX hbl hbA hS (by exact fun h => by rcases h with h | h <;> revert h <;> decide) dL_law_226 ?_
  refine lv_topi (fun v_16 ev_16 => ?_)
  have ev_16 : v_16 = xs 2 := ev_16
  subst ev_16
  refine lv_aload_n hx hb dL_law_227 rfl (lv_at hl 4 rfl) ?_
  refine lv_iload hx hb dL_law_228 (lv_at hl 0 rfl) ?_
  refine lv_iconst (v := 3) hx hb dL_law_230 (by decide) ?_
  refine lv_iadd hx hb dL_law_231 ?_
  refine lv_topi (fun v_17 ev_17 => ?_)
  have ev_17 : v_17 = 3 := ev_17.trans (by decide)
  subst ev_17
  refine va_sld hx hb hX hbl hbA hS (by exact fun h => by rcases h with h | h <;> revert h <;> decide) dL_law_232 ?_
  refine lv_topi (fun v_18 ev_18 => ?_)
  have ev_18 : v_18 = xs 3 := ev_18
  subst ev_18
  refine lv_aload_n hx hb dL_law_233 rfl (lv_at hl 4 rfl) ?_
  refine lv_iload hx hb dL_law_234 (lv_at hl 0 rfl) ?_
  refine lv_iconst (v := 4) hx hb dL_law_236 (by decide) ?_
  refine lv_iadd hx hb dL_law_237 ?_
  refine lv_topi (fun v_19 ev_19 => ?_)
  have ev_19 : v_19 = 4 := ev_19.trans (by decide)
  subst ev_19
  refine va_sld hx hb hX hbl hbA hS (by exact fun h => by rcases h with h | h <;> revert h <;> decide) dL_law_238 ?_
  refine lv_topi (fun v_20 ev_20 => ?_)
  have ev_20 : v_20 = xs 4 := ev_20
  subst ev_20
  refine lv_aload_n hx hb dL_law_239 rfl (lv_at hl 4 rfl) ?_
  refine lv_iload hx hb dL_law_240 (lv_at hl 0 rfl) ?_
  refine lv_iconst (v := 5) hx hb dL_law_242 (by decide) ?_
  refine lv_iadd hx hb dL_law_243 ?_
  refine lv_topi (fun v_21 ev_21 => ?_)
  have ev_21 : v_21 = 5 := ev_21.trans (by decide)
  subst ev_21
  refine va_sld hx hb hX hbl hbA hS (by exact fun h => by rcases h with h | h <;> revert h <;> decide) dL_law_244 ?_
  refine lv_topi (fun v_22 ev_22 => ?_)
  have ev_22 : v_22 = xs 5 := ev_22
  subst ev_22
  have hPc := hP.sub (ws' := [(n0, .inr (15, fs_n0)), (qfed, .inl (ke, 200, .inl fe))]) [1, 2] rfl
  have hDc := hD.sub (ws' := [(n0, .inr (15, fs_n0)), (qfed, .inl (ke, 200, .inl fe))]) [1, 2] (by decide) rfl
  have hKc := hK.sub (tys' := [(ke, .int)]) [2] rfl
  have hFc := va_free (wc := [(n0, .inr (15, fs_n0)), (qfed, .inl (ke, 200, .inl fe))]) hD hS hA [1, 2] rfl
  refine va_calli (va_runV (As := [.int (xs 1), .int (xs 2), .int (xs 3), .int (xs 4), .int (xs 5)]) (rest := [.int 20]) ⟨hx, hb, hml, hown, hts⟩ (c_m_feed l dC dI n0 qfed qf qfd qs qk ke ((xs 1)) ((xs 2)) ((xs 3)) ((xs 4)) ((xs 5)) fe fs_n0 (mF.sub hF_n0 [0, 1, 2, 3, 4, 5, 6, 7, 8, 9, 10, 11, 12, 13, 14, 15, 16, 17, 18] rfl) H.size) (cwV 5 hts g_law_wv_m_feed_110 rfl rfl rfl hv_X15_feed ⟨Nat.le_of_ble_eq_true rfl, Nat.le_of_ble_eq_true rfl⟩) ⟨fun a U g mk q => by obtain ⟨q0, q1, qP, qK, qD, qE0⟩ := q; exact ⟨q0, q1, qP, va_K.moved (u := U) (U := U.calling g mk a) (Vm.Alike.refl U.vm) qK, qD, w_N.same rfl qE0⟩, va_recv hKc hPc (ci := 15) (q0 := 0) rfl rfl, fun U hU hW => ⟨rfl, by rw [hU], by rw [hU]; exact hPc, va_K.moved hW.alike hKc, hDc.weaken (fun _ _ _ _ => trivial), w_N.warm hW hN⟩⟩ rfl rfl hl.1 rfl (lv_room (Nat.le_of_ble_eq_true rfl)) dL_law_245 ⟨(Nat.le_of_ble_eq_true rfl), (Nat.le_of_ble_eq_true rfl)⟩) hS (fun q _ h => hFc q h) hFc (fun r_23 u t H1 locs1 ht hvm hw hB hz1 hk1 hS1 => ?_)
  obtain ⟨fs_24, hP1, hK1, hD1, hp_25⟩ := hB
  rw [ht] at hP1
  have hK1 := va_K.moved hvm.symm hK1
  have hJ := va_join (wr := [(qo, .inl (ko, 1, .inr (.inl fo)))]) (w1 := [(n0, .inr (15, fs_24))]) hP hD [1, 2] [0] rfl rfl (by decide) (by decide) hk1 hFc hP1 hD1
  clear hP hD hPc hDc hKc hFc hz1; try clear hk1
  obtain ⟨hP, hD⟩ := hJ
  replace hK := (hK.sub (tys' := [(kt, .byte), (ko, .long), (ke, .int)]) [0, 1, 2] rfl).app (hK1.sub (tys' := []) [] rfl)
  clear hP1 hK1 hD1 hvm ht hS; try clear t
  try clear H
  revert hS1
  intro hS
  generalize H1 = H at hP hS ⊢; try clear H1
  replace hP : va_P (dC, dI) vwCl [(qo, .inl (ko, 1, .inr (.inl fo))), (n0, .inr (15, fs_24))] H := hP
  replace hD : va_D A [(qo, .inl (ko, 1, .inr (.inl fo))), (n0, .inr (15, fs_24))] := hD
  replace hK : va_K (dC, dI) vwCl [(kt, .byte), (ko, .long), (ke, .int)] s := hK
  have hw_26 : r_23 = 20 := hw; clear hw
  subst hw_26
  refine lv_icmp_eq (tgt := 2018) hx hb dL_law_248 (by decide) (fun _ => ?_) (fun hc => absurd (by decide) hc)
  exact law_tail C0 hA2 hbA hS (lv_sub hl [0, 4] rfl) (Nat.le_of_ble_eq_true rfl) (Nat.le_of_ble_eq_true rfl)
set_option maxHeartbeats 4000000 in
set_option maxRecDepth 100000 in
/-- the law at a call of equation on fresh objects -/
theorem law_case_equation {p : Program} {l : Launch} (hlt : l.stackTraces = false) {e : Env} {s : State} {m : MethodId} {below : List Frame} {meth : Method} {c : Code} {b : Nat} {xs : Nat → Int32} (C0 : lw_At p s m meth c b 6 xs) {dC : Nat → ClassId} {dI : Nat → Nat → Nat} {A : Nat → Prop} (hA : ∀ q : Nat, s.heap.size ≤ q → A q) (hA2 : ∀ q : Nat, A q → s.heap.size ≤ q) (hbA : ¬ A b) (hN : w_N s) (hT : w_T A s s.heap) (hSt : w_S A s s.heap) (hC : w_C A s s.heap) {H : Heap} {locs : List Loc} {ls : Array Slot} {c0 : Nat} {n0 : Nat} {qR : Nat} {qt : Nat} {qm : Nat} {qp : Nat} {kt : Nat} {kp : Nat} {qma : Nat} {qmb : Nat} {p0a : Nat} {p0b : Nat} {k1a : Nat} {k1b : Nat} {ft : Nat → Int32} {fp : Nat → Option Nat} {p0 : Nat} {qo : Nat} {ko : Nat} {fo : Nat → Int64} {fs_qR : List Value} {fs_qm : List Value} {fs_p0 : List Value} {qfed : Nat} {qf : Nat} {qfd : Nat} {qs : Nat} {qk : Nat} {fs_c0 : List Value} {fs_n0 : List Value} (hP : va_P (dC, dI) vwCl [(c0, .inr (11, fs_c0)), (qR, .inr (7, fs_qR)), (qt, .inl (kt, 200, .inl ft)), (qp, .inl (kp, 28, .inr (.inr (.inr (.inr fp))))), (qm, .inr (6, fs_qm)), (p0, .inr (6, fs_p0)), (p0a, .inl (k1a, 16, .inr (.inl (fun _ => 0)))), (p0b, .inl (k1b, 16, .inr (.inl (fun _ => 0)))), (qo, .inl (ko, 1, .inr (.inl fo))), (n0, .inr (15, fs_n0))] H) (hD : va_D A [(c0, .inr (11, fs_c0)), (qR, .inr (7, fs_qR)), (qt, .inl (kt, 200, .inl ft)), (qp, .inl (kp, 28, .inr (.inr (.inr (.inr fp))))), (qm, .inr (6, fs_qm)), (p0, .inr (6, fs_p0)), (p0a, .inl (k1a, 16, .inr (.inl (fun _ => 0)))), (p0b, .inl (k1b, 16, .inr (.inl (fun _ => 0)))), (qo, .inl (ko, 1, .inr (.inl fo))), (n0, .inr (15, fs_n0))]) (hK : va_K (dC, dI) vwCl [(kt, .byte), (kp, .object RX6), (k1a, .long), (k1b, .long), (ko, .long)] s) (hS : va_S A s.heap H locs) (hl : lv_has ls 8 [(4, .int 0), (3, .ref qo), (2, .ref n0), (1, .ref c0), (0, .ref b)]) (hF_c0 : mF 19 [(1, .int 0), (6, .ref qR), (2, .int (-1))] fs_c0) (hF_qR : mF 10 [(0, .ref qt), (3, .ref qm), (2, .ref qp), (4, .int 0), (5, .int 0), (8, .int 0), (9, .int (-1)), (6, .int 0), (7, .int 0)] fs_qR) (hF_qm : mF 3 [(0, .ref qma), (1, .ref qmb), (2, .int 0)] fs_qm) (hF_p0 : mF 3 [(0, .ref p0a), (1, .ref p0b), (2, .int 0)] fs_p0) (hF_n0 : mF 89 [(0, .int 0), (18, .int 0), (19, .int 0), (20, .int (-1)), (21, .int 0), (22, .int 0), (23, .int 0), (24, .int 0), (25, .int 0), (27, .int 0), (28, .int 0), (29, .int 0), (35, .int 0), (17, .int (-1)), (26, .ref qfed), (30, .ref qf), (31, .ref qfd), (33, .ref qs), (36, .ref qk)] fs_n0) (hfp : fp 0 = some p0) : W p l e room_1 s m #[Value.ref b] below meth c H locs 15894 3343160 (lw_Z below #[Value.ref b] s) (F0 m 253 ls []) := by
  have hx := C0.1; have hb := C0.2.1; have hml := C0.2.2.2.1; have hown := C0.2.2.2.2.1; have hts := C0.2.2.2.2.2.1; have hX := C0.2.2.2.2.2.2.1; have hbl := C0.2.2.2.2.2.2.2.1; have hlocks := C0.2.2.2.2.2.2.2.2.1
  refine lv_aload_n hx hb dL_law_253 rfl (lv_at hl 3 rfl) ?_
  refine lv_aload_n hx hb dL_law_254 rfl (lv_at hl 4 rfl) ?_
  refine lv_iload hx hb dL_law_255 (lv_at hl 0 rfl) ?_
  refine lv_iconst (v := 1) hx hb dL_law_257 (by decide) ?_
  refine lv_iadd hx hb dL_law_258 ?_
  refine lv_topi (fun v_1 ev_1 => ?_)
  have ev_1 : v_1 = 1 := ev_1.trans (by decide)
  subst ev_1
  refine va_sld hx hb hX hbl hbA hS (by exact fun h => by rcases h with h | h <;> revert h <;> decide) dL_law_259 ?_
  refine lv_topi (fun v_2 ev_2 => ?_)
  have ev_2 : v_2 = xs 1 := ev_2
  subst ev_2
  refine lv_aload_n hx hb dL_law_260 rfl (lv_at hl 1 rfl) ?_
  have hPc := hP.sub (ws' := [(c0, .inr (11, fs_c0)), (qR, .inr (7, fs_qR)), (qt, .inl (kt, 200, .inl ft)), (qp, .inl (kp, 28, .inr (.inr (.inr (.inr fp))))), (qm, .inr (6, fs_qm)), (p0, .inr (6, fs_p0)), (p0a, .inl (k1a, 16, .inr (.inl (fun _ => 0)))), (p0b, .inl (k1b, 16, .inr (.inl (fun _ => 0)))), (qo, .inl (ko, 1, .inr (.inl fo)))]) [0, 1, 2, 3, 4, 5, 6, 7, 8] rfl
  have hDc := hD.sub (ws' := [(c0, .inr (11, fs_c0)), (qR, .inr (7, fs_qR)), (qt, .inl (kt, 200, .inl ft)), (qp, .inl (kp, 28, .inr (.inr (.inr (.inr fp))))), (qm, .inr (6, fs_qm)), (p0, .inr (6, fs_p0)), (p0a, .inl (k1a, 16, .inr (.inl (fun _ => 0)))), (p0b, .inl (k1b, 16, .inr (.inl (fun _ => 0)))), (qo, .inl (ko, 1, .inr (.inl fo)))]) [0, 1, 2, 3, 4, 5, 6, 7, 8] (by decide) rfl
  have hKc := hK.sub (tys' := [(kt, .byte), (kp, .object RX6), (k1a, .long), (k1b, .long), (ko, .long)]) [0, 1, 2, 3, 4] rfl
  have hFc := va_free (wc := [(c0, .inr (11, fs_c0)), (qR, .inr (7, fs_qR)), (qt, .inl (kt, 200, .inl ft)), (qp, .inl (kp, 28, .inr (.inr (.inr (.inr fp))))), (qm, .inr (6, fs_qm)), (p0, .inr (6, fs_p0)), (p0a, .inl (k1a, 16, .inr (.inl (fun _ => 0)))), (p0b, .inl (k1b, 16, .inr (.inl (fun _ => 0)))), (qo, .inl (ko, 1, .inr (.inl fo)))]) hD hS hA [0, 1, 2, 3, 4, 5, 6, 7, 8] rfl
  refine vx_calli (vx_runSX (As := [.ref c0, .int (xs 1), .ref qo]) (rest := []) ⟨hx, hb, hml, hown, hts⟩ (c_l_equation l hlt dC dI c0 qR qt qm qp kt kp qma qmb p0a p0b k1a k1b ft fp p0 qo ko ((xs 1)) fo fs_c0 fs_qR fs_qm fs_p0 (mF.sub hF_c0 [0, 1, 2] rfl) (mF.sub hF_qR [0, 1, 2, 3, 4, 5, 6, 7, 8] rfl) (mF.sub hF_qm [0, 1, 2] rfl) (mF.sub hF_p0 [0, 1, 2] rfl) hfp H.size) (vx_cwSW 3 hts g_law_wv_l_equation_111 rfl rfl rfl hd_L_equation ⟨Nat.le_of_ble_eq_true rfl, Nat.le_of_ble_eq_true rfl⟩) ⟨fun a U g mk q => by obtain ⟨q0, q1, qP, qK, qD, qE0, qE1, qE2, qE3⟩ := q; exact ⟨q0, q1, qP, va_K.moved (u := U) (U := U.calling g mk a) (Vm.Alike.refl U.vm) qK, qD, w_N.same rfl qE0, w_T.same rfl rfl qE1, w_S.same rfl rfl qE2, w_C.same rfl rfl qE3⟩, fun U hU hW => ⟨rfl, by rw [hU], by rw [hU]; exact hPc, va_K.moved hW.alike hKc, hDc.weaken (fun _ _ _ _ => trivial), w_N.warm hW hN, w_T.go hT hW hS.2.1 hFc hU, w_S.go hSt hW hS.2.1 hFc hU, w_C.go hC hW hS.2.1 hFc hU⟩⟩ rfl rfl hl.1 rfl (lv_room (Nat.le_of_ble_eq_true rfl)) dL_law_261 ⟨(Nat.le_of_ble_eq_true rfl), (Nat.le_of_ble_eq_true rfl)⟩) hS (fun q _ h => hFc q h) hFc (fun q _ h => hFc q h) (fun E9 ce9 q9 u t H1 locs1 ht hvm hpx hBX hz1 hk1 hS1 hcell9 hv9 hcl9 => ?_) (fun r_3 u_4 t H1 locs1 ht hvm hw hB hz1 hk1 hS1 => ?_)
  · skip
    exact (hpx : False).elim
  · skip
    obtain ⟨f_5, hP1, hK1, hD1, hp_6⟩ := hB
    rw [ht] at hP1
    have hK1 := va_K.moved hvm.symm hK1
    have hJ := va_join (wr := [(n0, .inr (15, fs_n0))]) (w1 := [(qo, .inl (ko, 1, .inr (.inl f_5)))]) hP hD [0, 1, 2, 3, 4, 5, 6, 7, 8] [9] rfl rfl (by decide) (by decide) hk1 hFc hP1 hD1
    clear hP hD hPc hDc hKc hFc hz1; try clear hk1
    obtain ⟨hP, hD⟩ := hJ
    replace hK := (hK.sub (tys' := [(kt, .byte), (kp, .object RX6), (k1a, .long), (k1b, .long), (ko, .long)]) [0, 1, 2, 3, 4] rfl).app (hK1.sub (tys' := []) [] rfl)
    clear hP1 hK1 hD1 hvm ht hS; try clear t
    try clear H
    revert hS1
    intro hS
    generalize H1 = H at hP hS ⊢; try clear H1
    replace hP : va_P (dC, dI) vwCl [(n0, .inr (15, fs_n0)), (qo, .inl (ko, 1, .inr (.inl f_5)))] H := hP
    replace hD : va_D A [(n0, .inr (15, fs_n0)), (qo, .inl (ko, 1, .inr (.inl f_5)))] := hD
    replace hK : va_K (dC, dI) vwCl [(kt, .byte), (kp, .object RX6), (k1a, .long), (k1b, .long), (ko, .long)] s := hK
    have hw_7 : (r_3 = 0 ∧ u_4 = (-9) ∧ kTape ((xs 1))) ∨ (r_3 = 1 ∧ ¬ kTape ((xs 1))) := hw; clear hw
    rcases hw_7 with ⟨ehw_7_0, ehw_7_1, hw_7⟩ | ⟨ehw_7_0, hw_7⟩
    · skip
      subst ehw_7_0
      subst ehw_7_1
      refine lv_istore (lv' := [(5, .int 0), (4, .int 0), (3, .ref qo), (2, .ref n0), (1, .ref c0), (0, .ref b)]) hx hb dL_law_264 hl (by decide) rfl (fun ls hl => ?_)
      refine lv_aload_n hx hb dL_law_266 rfl (lv_at hl 3 rfl) ?_
      refine lv_aload_n hx hb dL_law_267 rfl (lv_at hl 5 rfl) ?_
      refine lv_iload hx hb dL_law_268 (lv_at hl 1 rfl) ?_
      refine lv_iconst (v := 1) hx hb dL_law_270 (by decide) ?_
      refine lv_iadd hx hb dL_law_271 ?_
      refine lv_topi (fun v_8 ev_8 => ?_)
      have ev_8 : v_8 = 1 := ev_8.trans (by decide)
      subst ev_8
      refine va_sld hx hb hX hbl hbA hS (by exact fun h => by rcases h with h | h <;> revert h <;> decide) dL_law_272 ?_
      refine lv_topi (fun v_9 ev_9 => ?_)
      have ev_9 : v_9 = xs 1 := ev_9
      subst ev_9
      have hPc := hP.sub (ws' := [(n0, .inr (15, fs_n0))]) [0] rfl
      have hDc := hD.sub (ws' := [(n0, .inr (15, fs_n0))]) [0] (by decide) rfl
      have hKc := hK.sub (tys' := []) [] rfl
      have hFc := va_free (wc := [(n0, .inr (15, fs_n0))]) hD hS hA [0] rfl
      refine va_calli (va_runV (As := [.int (xs 1)]) (rest := []) ⟨hx, hb, hml, hown, hts⟩ (c_m_equation l dC dI n0 qfed qf qfd qs qk ((xs 1)) fs_n0 (mF.sub hF_n0 [0, 1, 2, 3, 4, 5, 6, 7, 8, 9, 10, 11, 12, 13, 14, 15, 16, 17, 18] rfl) H.size) (cwV 1 hts g_law_wv_m_equation_116 rfl rfl rfl hv_X15_equation ⟨Nat.le_of_ble_eq_true rfl, Nat.le_of_ble_eq_true rfl⟩) ⟨fun a U g mk q => by obtain ⟨q0, q1, qP, qK, qD, qE0⟩ := q; exact ⟨q0, q1, qP, va_K.moved (u := U) (U := U.calling g mk a) (Vm.Alike.refl U.vm) qK, qD, w_N.same rfl qE0⟩, va_recv hKc hPc (ci := 15) (q0 := 0) rfl rfl, fun U hU hW => ⟨rfl, by rw [hU], by rw [hU]; exact hPc, va_K.moved hW.alike hKc, hDc.weaken (fun _ _ _ _ => trivial), w_N.warm hW hN⟩⟩ rfl rfl hl.1 rfl (lv_room (Nat.le_of_ble_eq_true rfl)) dL_law_273 ⟨(Nat.le_of_ble_eq_true rfl), (Nat.le_of_ble_eq_true rfl)⟩) hS (fun q _ h => hFc q h) hFc (fun r_10 u_11 t H1 locs1 ht hvm hw hB hz1 hk1 hS1 => ?_)
      obtain ⟨fs_12, hP1, hK1, hD1, hp_13⟩ := hB
      rw [ht] at hP1
      have hK1 := va_K.moved hvm.symm hK1
      have hJ := va_join (wr := [(qo, .inl (ko, 1, .inr (.inl f_5)))]) (w1 := [(n0, .inr (15, fs_12))]) hP hD [0] [1] rfl rfl (by decide) (by decide) hk1 hFc hP1 hD1
      clear hP hD hPc hDc hKc hFc hz1; try clear hk1
      obtain ⟨hP, hD⟩ := hJ
      replace hK := (hK.sub (tys' := [(kt, .byte), (kp, .object RX6), (k1a, .long), (k1b, .long), (ko, .long)]) [0, 1, 2, 3, 4] rfl).app (hK1.sub (tys' := []) [] rfl)
      clear hP1 hK1 hD1 hvm ht hS; try clear t
      try clear H
      revert hS1
      intro hS
      generalize H1 = H at hP hS ⊢; try clear H1
      replace hP : va_P (dC, dI) vwCl [(qo, .inl (ko, 1, .inr (.inl f_5))), (n0, .inr (15, fs_12))] H := hP
      replace hD : va_D A [(qo, .inl (ko, 1, .inr (.inl f_5))), (n0, .inr (15, fs_12))] := hD
      replace hK : va_K (dC, dI) vwCl [(kt, .byte), (kp, .object RX6), (k1a, .long), (k1b, .long), (ko, .long)] s := hK
      have hw_14 : (u_11 = 0 ∧ r_10 = (-9) ∧ kIn ((xs 1)) 0 0) ∨ (u_11 = 1 ∧ ¬ kIn ((xs 1)) 0 0) := hw; clear hw
      rcases hw_14 with ⟨ehw_14_0, ehw_14_1, hw_14⟩ | ⟨ehw_14_0, hw_14⟩
      · skip
        subst ehw_14_0
        subst ehw_14_1
        refine lv_istore (lv' := [(6, .int (-9)), (5, .int 0), (4, .int 0), (3, .ref qo), (2, .ref n0), (1, .ref c0), (0, .ref b)]) hx hb dL_law_276 hl (by decide) rfl (fun ls hl => ?_)
        refine lv_aload_n hx hb dL_law_278 rfl (lv_at hl 4 rfl) ?_
        have hPc := hP.sub (ws' := [(n0, .inr (15, fs_12))]) [1] rfl
        have hDc := hD.sub (ws' := [(n0, .inr (15, fs_12))]) [1] (by decide) rfl
        have hKc := hK.sub (tys' := []) [] rfl
        have hFc := va_free (wc := [(n0, .inr (15, fs_12))]) hD hS hA [1] rfl
        refine va_calli (va_runV (As := []) (rest := []) ⟨hx, hb, hml, hown, hts⟩ (c_m_thrown l dC dI n0 0 fs_12 (mF.sub hp_13 [0] rfl) H.size) (cwV 0 hts g_law_wv_m_thrown_117 rfl rfl rfl hv_X15_thrown ⟨Nat.le_of_ble_eq_true rfl, Nat.le_of_ble_eq_true rfl⟩) ⟨fun a U g mk q => by obtain ⟨q0, q1, qP, qK, qD, qE0⟩ := q; exact ⟨q0, q1, qP, va_K.moved (u := U) (U := U.calling g mk a) (Vm.Alike.refl U.vm) qK, qD, w_N.same rfl qE0⟩, va_recv hKc hPc (ci := 15) (q0 := 0) rfl rfl, fun U hU hW => ⟨rfl, by rw [hU], by rw [hU]; exact hPc, va_K.moved hW.alike hKc, hDc.weaken (fun _ _ _ _ => trivial), w_N.warm hW hN⟩⟩ rfl rfl hl.1 rfl (lv_room (Nat.le_of_ble_eq_true rfl)) dL_law_279 ⟨(Nat.le_of_ble_eq_true rfl), (Nat.le_of_ble_eq_true rfl)⟩) hS (fun q _ h => hFc q h) hFc (fun r_15 u t H1 locs1 ht hvm hw hB hz1 hk1 hS1 => ?_)
        obtain ⟨hP1, hK1, hD1⟩ := hB
        rw [ht] at hP1
        have hK1 := va_K.moved hvm.symm hK1
        have hJ := va_join (wr := [(qo, .inl (ko, 1, .inr (.inl f_5)))]) (w1 := []) hP hD [1] [0] rfl rfl (by decide) (by decide) hk1 hFc hP1 hD1
        clear hP hD hPc hDc hKc hFc hz1; try clear hk1
        obtain ⟨hP, hD⟩ := hJ
        replace hK := (hK.sub (tys' := [(kt, .byte), (kp, .object RX6), (k1a, .long), (k1b, .long), (ko, .long)]) [0, 1, 2, 3, 4] rfl).app (hK1.sub (tys' := []) [] rfl)
        clear hP1 hK1 hD1 hvm ht hS; try clear t
        try clear H
        revert hS1
        intro hS
        generalize H1 = H at hP hS ⊢; try clear H1
        replace hP : va_P (dC, dI) vwCl [(qo, .inl (ko, 1, .inr (.inl f_5)))] H := hP
        replace hD : va_D A [(qo, .inl (ko, 1, .inr (.inl f_5)))] := hD
        replace hK : va_K (dC, dI) vwCl [(kt, .byte), (kp, .object RX6), (k1a, .long), (k1b, .long), (ko, .long)] s := hK
        have hw_16 : r_15 = 0 := hw; clear hw
        subst hw_16
        refine lv_iload hx hb dL_law_282 (lv_at hl 1 rfl) ?_
        refine lv_icmp_eq (tgt := 289) hx hb dL_law_284 (by decide) (fun _ => ?_) (fun hc => absurd (by decide) hc)
        refine lv_iload hx hb dL_law_289 (lv_at hl 1 rfl) ?_
        refine lv_if_ne (tgt := 306) hx hb dL_law_291 (by decide) (fun hc => absurd (by decide) hc) (fun _ => ?_)
        refine lv_aload_n hx hb dL_law_294 rfl (lv_at hl 3 rfl) ?_
        refine lv_iconst (v := 0) hx hb dL_law_295 (by decide) ?_
        refine va_lald hx hb hK hP 0 4 rfl rfl (by exact fun h => by rcases h with h | h <;> revert h <;> decide) dL_law_296 ?_
        refine lv_topl (fun v_17 ev_17 => ?_)
        have ev_17 : v_17 = (-9) := ev_17.trans hp_6
        subst ev_17
        refine lv_iload hx hb dL_law_297 (lv_at hl 0 rfl) ?_
        refine lv_i2l (v := (-9)) hx hb dL_law_299 (by decide) ?_
        refine W.lcmp hx hb dL_law_300 ?_
        refine lv_topi (fun v_18 ev_18 => ?_)
        have ev_18 : v_18 = 0 := ev_18.trans (by decide)
        subst ev_18
        refine lv_if_eq (tgt := 306) hx hb dL_law_301 (by decide) (fun _ => ?_) (fun hc => absurd (by decide) hc)
        refine lv_goto (tgt := 2018) hx hb dL_law_306 (by decide) ?_
        exact law_tail C0 hA2 hbA hS (lv_sub hl [2, 6] rfl) (Nat.le_of_ble_eq_true rfl) (Nat.le_of_ble_eq_true rfl)
      · skip
        subst ehw_14_0
        exact absurd (kTape_in.mp hw_7) hw_14
    · skip
      subst ehw_7_0
      refine lv_istore (lv' := [(5, .int 1), (4, .int 0), (3, .ref qo), (2, .ref n0), (1, .ref c0), (0, .ref b)]) hx hb dL_law_264 hl (by decide) rfl (fun ls hl => ?_)
      refine lv_aload_n hx hb dL_law_266 rfl (lv_at hl 3 rfl) ?_
      refine lv_aload_n hx hb dL_law_267 rfl (lv_at hl 5 rfl) ?_
      refine lv_iload hx hb dL_law_268 (lv_at hl 1 rfl) ?_
      refine lv_iconst (v := 1) hx hb dL_law_270 (by decide) ?_
      refine lv_iadd hx hb dL_law_271 ?_
      refine lv_topi (fun v_19 ev_19 => ?_)
      have ev_19 : v_19 = 1 := ev_19.trans (by decide)
      subst ev_19
      refine va_sld hx hb hX hbl hbA hS (by exact fun h => by rcases h with h | h <;> revert h <;> decide) dL_law_272 ?_
      refine lv_topi (fun v_20 ev_20 => ?_)
      have ev_20 : v_20 = xs 1 := ev_20
      subst ev_20
      have hPc := hP.sub (ws' := [(n0, .inr (15, fs_n0))]) [0] rfl
      have hDc := hD.sub (ws' := [(n0, .inr (15, fs_n0))]) [0] (by decide) rfl
      have hKc := hK.sub (tys' := []) [] rfl
      have hFc := va_free (wc := [(n0, .inr (15, fs_n0))]) hD hS hA [0] rfl
      refine va_calli (va_runV (As := [.int (xs 1)]) (rest := []) ⟨hx, hb, hml, hown, hts⟩ (c_m_equation l dC dI n0 qfed qf qfd qs qk ((xs 1)) fs_n0 (mF.sub hF_n0 [0, 1, 2, 3, 4, 5, 6, 7, 8, 9, 10, 11, 12, 13, 14, 15, 16, 17, 18] rfl) H.size) (cwV 1 hts g_law_wv_m_equation_116 rfl rfl rfl hv_X15_equation ⟨Nat.le_of_ble_eq_true rfl, Nat.le_of_ble_eq_true rfl⟩) ⟨fun a U g mk q => by obtain ⟨q0, q1, qP, qK, qD, qE0⟩ := q; exact ⟨q0, q1, qP, va_K.moved (u := U) (U := U.calling g mk a) (Vm.Alike.refl U.vm) qK, qD, w_N.same rfl qE0⟩, va_recv hKc hPc (ci := 15) (q0 := 0) rfl rfl, fun U hU hW => ⟨rfl, by rw [hU], by rw [hU]; exact hPc, va_K.moved hW.alike hKc, hDc.weaken (fun _ _ _ _ => trivial), w_N.warm hW hN⟩⟩ rfl rfl hl.1 rfl (lv_room (Nat.le_of_ble_eq_true rfl)) dL_law_273 ⟨(Nat.le_of_ble_eq_true rfl), (Nat.le_of_ble_eq_true rfl)⟩) hS (fun q _ h => hFc q h) hFc (fun r_21 u_22 t H1 locs1 ht hvm hw hB hz1 hk1 hS1 => ?_)
      obtain ⟨fs_23, hP1, hK1, hD1, hp_24⟩ := hB
      rw [ht] at hP1
      have hK1 := va_K.moved hvm.symm hK1
      have hJ := va_join (wr := [(qo, .inl (ko, 1, .inr (.inl f_5)))]) (w1 := [(n0, .inr (15, fs_23))]) hP hD [0] [1] rfl rfl (by decide) (by decide) hk1 hFc hP1 hD1
      clear hP hD hPc hDc hKc hFc hz1; try clear hk1
      obtain ⟨hP, hD⟩ := hJ
      replace hK := (hK.sub (tys' := [(kt, .byte), (kp, .object RX6), (k1a, .long), (k1b, .long), (ko, .long)]) [0, 1, 2, 3, 4] rfl).app (hK1.sub (tys' := []) [] rfl)
      clear hP1 hK1 hD1 hvm ht hS; try clear t
      try clear H
      revert hS1
      intro hS
      generalize H1 = H at hP hS ⊢; try clear H1
      replace hP : va_P (dC, dI) vwCl [(qo, .inl (ko, 1, .inr (.inl f_5))), (n0, .inr (15, fs_23))] H := hP
      replace hD : va_D A [(qo, .inl (ko, 1, .inr (.inl f_5))), (n0, .inr (15, fs_23))] := hD
      replace hK : va_K (dC, dI) vwCl [(kt, .byte), (kp, .object RX6), (k1a, .long), (k1b, .long), (ko, .long)] s := hK
      have hw_25 : (u_22 = 0 ∧ r_21 = (-9) ∧ kIn ((xs 1)) 0 0) ∨ (u_22 = 1 ∧ ¬ kIn ((xs 1)) 0 0) := hw; clear hw
      rcases hw_25 with ⟨ehw_25_0, ehw_25_1, hw_25⟩ | ⟨ehw_25_0, hw_25⟩
      · skip
        subst ehw_25_0
        subst ehw_25_1
        exact absurd (kTape_in.mpr hw_25) hw_7
      · skip
        subst ehw_25_0
        refine lv_istore (lv' := [(6, .int r_21), (5, .int 1), (4, .int 0), (3, .ref qo), (2, .ref n0), (1, .ref c0), (0, .ref b)]) hx hb dL_law_276 hl (by decide) rfl (fun ls hl => ?_)
        refine lv_aload_n hx hb dL_law_278 rfl (lv_at hl 4 rfl) ?_
        have hPc := hP.sub (ws' := [(n0, .inr (15, fs_23))]) [1] rfl
        have hDc := hD.sub (ws' := [(n0, .inr (15, fs_23))]) [1] (by decide) rfl
        have hKc := hK.sub (tys' := []) [] rfl
        have hFc := va_free (wc := [(n0, .inr (15, fs_23))]) hD hS hA [1] rfl
        refine va_calli (va_runV (As := []) (rest := []) ⟨hx, hb, hml, hown, hts⟩ (c_m_thrown l dC dI n0 1 fs_23 (mF.sub hp_24 [0] rfl) H.size) (cwV 0 hts g_law_wv_m_thrown_117 rfl rfl rfl hv_X15_thrown ⟨Nat.le_of_ble_eq_true rfl, Nat.le_of_ble_eq_true rfl⟩) ⟨fun a U g mk q => by obtain ⟨q0, q1, qP, qK, qD, qE0⟩ := q; exact ⟨q0, q1, qP, va_K.moved (u := U) (U := U.calling g mk a) (Vm.Alike.refl U.vm) qK, qD, w_N.same rfl qE0⟩, va_recv hKc hPc (ci := 15) (q0 := 0) rfl rfl, fun U hU hW => ⟨rfl, by rw [hU], by rw [hU]; exact hPc, va_K.moved hW.alike hKc, hDc.weaken (fun _ _ _ _ => trivial), w_N.warm hW hN⟩⟩ rfl rfl hl.1 rfl (lv_room (Nat.le_of_ble_eq_true rfl)) dL_law_279 ⟨(Nat.le_of_ble_eq_true rfl), (Nat.le_of_ble_eq_true rfl)⟩) hS (fun q _ h => hFc q h) hFc (fun r_26 u t H1 locs1 ht hvm hw hB hz1 hk1 hS1 => ?_)
        obtain ⟨hP1, hK1, hD1⟩ := hB
        rw [ht] at hP1
        have hK1 := va_K.moved hvm.symm hK1
        have hJ := va_join (wr := [(qo, .inl (ko, 1, .inr (.inl f_5)))]) (w1 := []) hP hD [1] [0] rfl rfl (by decide) (by decide) hk1 hFc hP1 hD1
        clear hP hD hPc hDc hKc hFc hz1; try clear hk1
        obtain ⟨hP, hD⟩ := hJ
        replace hK := (hK.sub (tys' := [(kt, .byte), (kp, .object RX6), (k1a, .long), (k1b, .long), (ko, .long)]) [0, 1, 2, 3, 4] rfl).app (hK1.sub (tys' := []) [] rfl)
        clear hP1 hK1 hD1 hvm ht hS; try clear t
        try clear H
        revert hS1
        intro hS
        generalize H1 = H at hP hS ⊢; try clear H1
        replace hP : va_P (dC, dI) vwCl [(qo, .inl (ko, 1, .inr (.inl f_5)))] H := hP
        replace hD : va_D A [(qo, .inl (ko, 1, .inr (.inl f_5)))] := hD
        replace hK : va_K (dC, dI) vwCl [(kt, .byte), (kp, .object RX6), (k1a, .long), (k1b, .long), (ko, .long)] s := hK
        have hw_27 : r_26 = 1 := hw; clear hw
        subst hw_27
        refine lv_iload hx hb dL_law_282 (lv_at hl 1 rfl) ?_
        refine lv_icmp_eq (tgt := 289) hx hb dL_law_284 (by decide) (fun _ => ?_) (fun hc => absurd (by decide) hc)
        refine lv_iload hx hb dL_law_289 (lv_at hl 1 rfl) ?_
        refine lv_if_ne (tgt := 306) hx hb dL_law_291 (by decide) (fun _ => ?_) (fun hc => absurd hc (by decide))
        refine lv_goto (tgt := 2018) hx hb dL_law_306 (by decide) ?_
        exact law_tail C0 hA2 hbA hS (lv_sub hl [2, 6] rfl) (Nat.le_of_ble_eq_true rfl) (Nat.le_of_ble_eq_true rfl)
set_option maxHeartbeats 4000000 in
set_option maxRecDepth 100000 in
/-- the law at a call of field on fresh objects -/
theorem law_case_field {p : Program} {l : Launch} (hlt : l.stackTraces = false) {e : Env} {s : State} {m : MethodId} {below : List Frame} {meth : Method} {c : Code} {b : Nat} {xs : Nat → Int32} (C0 : lw_At p s m meth c b 6 xs) {dC : Nat → ClassId} {dI : Nat → Nat → Nat} {A : Nat → Prop} (hA : ∀ q : Nat, s.heap.size ≤ q → A q) (hA2 : ∀ q : Nat, A q → s.heap.size ≤ q) (hbA : ¬ A b) (hN : w_N s) (hT : w_T A s s.heap) (hSt : w_S A s s.heap) (hC : w_C A s s.heap) {H : Heap} {locs : List Loc} {ls : Array Slot} {c0 : Nat} {n0 : Nat} {qC : Nat} {qo : Nat} {fs_qC : List Value} {ko : Nat} {fo : Nat → Int64} {qfed : Nat} {qf : Nat} {qfd : Nat} {qs : Nat} {qk : Nat} {fs_c0 : List Value} {fs_n0 : List Value} (hP : va_P (dC, dI) vwCl [(c0, .inr (11, fs_c0)), (qC, .inr (2, fs_qC)), (qo, .inl (ko, 1, .inr (.inl fo))), (n0, .inr (15, fs_n0))] H) (hD : va_D A [(c0, .inr (11, fs_c0)), (qC, .inr (2, fs_qC)), (qo, .inl (ko, 1, .inr (.inl fo))), (n0, .inr (15, fs_n0))]) (hK : va_K (dC, dI) vwCl [(ko, .long)] s) (hS : va_S A s.heap H locs) (hl : lv_has ls 8 [(4, .int 0), (3, .ref qo), (2, .ref n0), (1, .ref c0), (0, .ref b)]) (hF_c0 : mF 19 [(7, .ref qC)] fs_c0) (hF_qC : mF 13 [(8, .int 0)] fs_qC) (hF_n0 : mF 89 [(0, .int 0), (18, .int 0), (19, .int 0), (20, .int (-1)), (21, .int 0), (22, .int 0), (23, .int 0), (24, .int 0), (25, .int 0), (27, .int 0), (28, .int 0), (29, .int 0), (35, .int 0), (17, .int (-1)), (26, .ref qfed), (30, .ref qf), (31, .ref qfd), (33, .ref qs), (36, .ref qk)] fs_n0) : W p l e room_1 s m #[Value.ref b] below meth c H locs 15894 3343160 (lw_Z below #[Value.ref b] s) (F0 m 309 ls []) := by
  have hx := C0.1; have hb := C0.2.1; have hml := C0.2.2.2.1; have hown := C0.2.2.2.2.1; have hts := C0.2.2.2.2.2.1; have hX := C0.2.2.2.2.2.2.1; have hbl := C0.2.2.2.2.2.2.2.1; have hlocks := C0.2.2.2.2.2.2.2.2.1
  refine lv_aload_n hx hb dL_law_309 rfl (lv_at hl 3 rfl) ?_
  refine lv_aload_n hx hb dL_law_310 rfl (lv_at hl 4 rfl) ?_
  refine lv_iload hx hb dL_law_311 (lv_at hl 0 rfl) ?_
  refine lv_iconst (v := 1) hx hb dL_law_313 (by decide) ?_
  refine lv_iadd hx hb dL_law_314 ?_
  refine lv_topi (fun v_1 ev_1 => ?_)
  have ev_1 : v_1 = 1 := ev_1.trans (by decide)
  subst ev_1
  refine va_sld hx hb hX hbl hbA hS (by exact fun h => by rcases h with h | h <;> revert h <;> decide) dL_law_315 ?_
  refine lv_topi (fun v_2 ev_2 => ?_)
  have ev_2 : v_2 = xs 1 := ev_2
  subst ev_2
  refine lv_aload_n hx hb dL_law_316 rfl (lv_at hl 1 rfl) ?_
  have hPc := hP.sub (ws' := [(c0, .inr (11, fs_c0)), (qC, .inr (2, fs_qC))]) [0, 1] rfl
  have hDc := hD.sub (ws' := [(c0, .inr (11, fs_c0)), (qC, .inr (2, fs_qC))]) [0, 1] (by decide) rfl
  have hKc := hK.sub (tys' := []) [] rfl
  have hFc := va_free (wc := [(c0, .inr (11, fs_c0)), (qC, .inr (2, fs_qC))]) hD hS hA [0, 1] rfl
  refine vx_calli (vx_runSX (As := [.ref c0, .int (xs 1), .ref qo]) (rest := []) ⟨hx, hb, hml, hown, hts⟩ (c_l_field l hlt dC dI c0 qC qo ((xs 1)) fs_c0 fs_qC (mF.sub hF_c0 [0] rfl) (mF.sub hF_qC [0] rfl) H.size) (vx_cwSW 3 hts g_law_wv_l_field_120 rfl rfl rfl hd_L_field ⟨Nat.le_of_ble_eq_true rfl, Nat.le_of_ble_eq_true rfl⟩) ⟨fun a U g mk q => by obtain ⟨q0, q1, qP, qK, qD, qE0, qE1, qE2⟩ := q; exact ⟨q0, q1, qP, va_K.moved (u := U) (U := U.calling g mk a) (Vm.Alike.refl U.vm) qK, qD, w_N.same rfl qE0, w_T.same rfl rfl qE1, w_C.same rfl rfl qE2⟩, fun U hU hW => ⟨rfl, by rw [hU], by rw [hU]; exact hPc, va_K.moved hW.alike hKc, hDc.weaken (fun _ _ _ _ => trivial), w_N.warm hW hN, w_T.go hT hW hS.2.1 hFc hU, w_C.go hC hW hS.2.1 hFc hU⟩⟩ rfl rfl hl.1 rfl (lv_room (Nat.le_of_ble_eq_true rfl)) dL_law_317 ⟨(Nat.le_of_ble_eq_true rfl), (Nat.le_of_ble_eq_true rfl)⟩) hS (fun q _ h => hFc q h) hFc (fun q _ h => hFc q h) (fun E9 ce9 q9 u t H1 locs1 ht hvm hpx hBX hz1 hk1 hS1 hcell9 hv9 hcl9 => ?_) (fun r_3 u t H1 locs1 ht hvm hw hB hz1 hk1 hS1 => ?_)
  · skip
    exact (hpx : False).elim
  · skip
    obtain ⟨hP1, hK1, hD1⟩ := hB
    rw [ht] at hP1
    have hK1 := va_K.moved hvm.symm hK1
    have hJ := va_join (wr := [(qo, .inl (ko, 1, .inr (.inl fo))), (n0, .inr (15, fs_n0))]) (w1 := []) hP hD [0, 1] [2, 3] rfl rfl (by decide) (by decide) hk1 hFc hP1 hD1
    clear hP hD hPc hDc hKc hFc hz1; try clear hk1
    obtain ⟨hP, hD⟩ := hJ
    replace hK := (hK.sub (tys' := [(ko, .long)]) [0] rfl).app (hK1.sub (tys' := []) [] rfl)
    clear hP1 hK1 hD1 hvm ht hS; try clear t
    try clear H
    revert hS1
    intro hS
    generalize H1 = H at hP hS ⊢; try clear H1
    replace hP : va_P (dC, dI) vwCl [(qo, .inl (ko, 1, .inr (.inl fo))), (n0, .inr (15, fs_n0))] H := hP
    replace hD : va_D A [(qo, .inl (ko, 1, .inr (.inl fo))), (n0, .inr (15, fs_n0))] := hD
    replace hK : va_K (dC, dI) vwCl [(ko, .long)] s := hK
    have hw_4 : r_3 = 2 := hw; clear hw
    subst hw_4
    refine lv_istore (lv' := [(5, .int 2), (4, .int 0), (3, .ref qo), (2, .ref n0), (1, .ref c0), (0, .ref b)]) hx hb dL_law_320 hl (by decide) rfl (fun ls hl => ?_)
    refine lv_aload_n hx hb dL_law_322 rfl (lv_at hl 3 rfl) ?_
    refine lv_aload_n hx hb dL_law_323 rfl (lv_at hl 5 rfl) ?_
    refine lv_iload hx hb dL_law_324 (lv_at hl 1 rfl) ?_
    refine lv_iconst (v := 1) hx hb dL_law_326 (by decide) ?_
    refine lv_iadd hx hb dL_law_327 ?_
    refine lv_topi (fun v_5 ev_5 => ?_)
    have ev_5 : v_5 = 1 := ev_5.trans (by decide)
    subst ev_5
    refine va_sld hx hb hX hbl hbA hS (by exact fun h => by rcases h with h | h <;> revert h <;> decide) dL_law_328 ?_
    refine lv_topi (fun v_6 ev_6 => ?_)
    have ev_6 : v_6 = xs 1 := ev_6
    subst ev_6
    have hPc := hP.sub (ws' := [(n0, .inr (15, fs_n0))]) [1] rfl
    have hDc := hD.sub (ws' := [(n0, .inr (15, fs_n0))]) [1] (by decide) rfl
    have hKc := hK.sub (tys' := []) [] rfl
    have hFc := va_free (wc := [(n0, .inr (15, fs_n0))]) hD hS hA [1] rfl
    refine va_calli (va_runV (As := [.int (xs 1)]) (rest := []) ⟨hx, hb, hml, hown, hts⟩ (c_m_field l dC dI n0 qfed qf qfd qs qk ((xs 1)) fs_n0 (mF.sub hF_n0 [0, 1, 2, 3, 4, 5, 6, 7, 8, 9, 10, 11, 12, 13, 14, 15, 16, 17, 18] rfl) H.size) (cwV 1 hts g_law_wv_m_field_122 rfl rfl rfl hv_X15_field ⟨Nat.le_of_ble_eq_true rfl, Nat.le_of_ble_eq_true rfl⟩) ⟨fun a U g mk q => by obtain ⟨q0, q1, qP, qK, qD, qE0⟩ := q; exact ⟨q0, q1, qP, va_K.moved (u := U) (U := U.calling g mk a) (Vm.Alike.refl U.vm) qK, qD, w_N.same rfl qE0⟩, va_recv hKc hPc (ci := 15) (q0 := 0) rfl rfl, fun U hU hW => ⟨rfl, by rw [hU], by rw [hU]; exact hPc, va_K.moved hW.alike hKc, hDc.weaken (fun _ _ _ _ => trivial), w_N.warm hW hN⟩⟩ rfl rfl hl.1 rfl (lv_room (Nat.le_of_ble_eq_true rfl)) dL_law_329 ⟨(Nat.le_of_ble_eq_true rfl), (Nat.le_of_ble_eq_true rfl)⟩) hS (fun q _ h => hFc q h) hFc (fun r_7 u t H1 locs1 ht hvm hw hB hz1 hk1 hS1 => ?_)
    obtain ⟨fs_8, hP1, hK1, hD1, hp_9⟩ := hB
    rw [ht] at hP1
    have hK1 := va_K.moved hvm.symm hK1
    have hJ := va_join (wr := [(qo, .inl (ko, 1, .inr (.inl fo)))]) (w1 := [(n0, .inr (15, fs_8))]) hP hD [1] [0] rfl rfl (by decide) (by decide) hk1 hFc hP1 hD1
    clear hP hD hPc hDc hKc hFc hz1; try clear hk1
    obtain ⟨hP, hD⟩ := hJ
    replace hK := (hK.sub (tys' := [(ko, .long)]) [0] rfl).app (hK1.sub (tys' := []) [] rfl)
    clear hP1 hK1 hD1 hvm ht hS; try clear t
    try clear H
    revert hS1
    intro hS
    generalize H1 = H at hP hS ⊢; try clear H1
    replace hP : va_P (dC, dI) vwCl [(qo, .inl (ko, 1, .inr (.inl fo))), (n0, .inr (15, fs_8))] H := hP
    replace hD : va_D A [(qo, .inl (ko, 1, .inr (.inl fo))), (n0, .inr (15, fs_8))] := hD
    replace hK : va_K (dC, dI) vwCl [(ko, .long)] s := hK
    have hw_10 : True := hw; clear hw
    refine lv_istore (lv' := [(6, .int r_7), (5, .int 2), (4, .int 0), (3, .ref qo), (2, .ref n0), (1, .ref c0), (0, .ref b)]) hx hb dL_law_332 hl (by decide) rfl (fun ls hl => ?_)
    refine lv_aload_n hx hb dL_law_334 rfl (lv_at hl 4 rfl) ?_
    have hPc := hP.sub (ws' := [(n0, .inr (15, fs_8))]) [1] rfl
    have hDc := hD.sub (ws' := [(n0, .inr (15, fs_8))]) [1] (by decide) rfl
    have hKc := hK.sub (tys' := []) [] rfl
    have hFc := va_free (wc := [(n0, .inr (15, fs_8))]) hD hS hA [1] rfl
    refine va_calli (va_runV (As := []) (rest := []) ⟨hx, hb, hml, hown, hts⟩ (c_m_thrown l dC dI n0 2 fs_8 (mF.sub hp_9 [0] rfl) H.size) (cwV 0 hts g_law_wv_m_thrown_117 rfl rfl rfl hv_X15_thrown ⟨Nat.le_of_ble_eq_true rfl, Nat.le_of_ble_eq_true rfl⟩) ⟨fun a U g mk q => by obtain ⟨q0, q1, qP, qK, qD, qE0⟩ := q; exact ⟨q0, q1, qP, va_K.moved (u := U) (U := U.calling g mk a) (Vm.Alike.refl U.vm) qK, qD, w_N.same rfl qE0⟩, va_recv hKc hPc (ci := 15) (q0 := 0) rfl rfl, fun U hU hW => ⟨rfl, by rw [hU], by rw [hU]; exact hPc, va_K.moved hW.alike hKc, hDc.weaken (fun _ _ _ _ => trivial), w_N.warm hW hN⟩⟩ rfl rfl hl.1 rfl (lv_room (Nat.le_of_ble_eq_true rfl)) dL_law_335 ⟨(Nat.le_of_ble_eq_true rfl), (Nat.le_of_ble_eq_true rfl)⟩) hS (fun q _ h => hFc q h) hFc (fun r_11 u t H1 locs1 ht hvm hw hB hz1 hk1 hS1 => ?_)
    obtain ⟨hP1, hK1, hD1⟩ := hB
    rw [ht] at hP1
    have hK1 := va_K.moved hvm.symm hK1
    have hJ := va_join (wr := [(qo, .inl (ko, 1, .inr (.inl fo)))]) (w1 := []) hP hD [1] [0] rfl rfl (by decide) (by decide) hk1 hFc hP1 hD1
    clear hP hD hPc hDc hKc hFc hz1; try clear hk1
    obtain ⟨hP, hD⟩ := hJ
    replace hK := (hK.sub (tys' := [(ko, .long)]) [0] rfl).app (hK1.sub (tys' := []) [] rfl)
    clear hP1 hK1 hD1 hvm ht hS; try clear t
    try clear H
    revert hS1
    intro hS
    generalize H1 = H at hP hS ⊢; try clear H1
    replace hP : va_P (dC, dI) vwCl [(qo, .inl (ko, 1, .inr (.inl fo)))] H := hP
    replace hD : va_D A [(qo, .inl (ko, 1, .inr (.inl fo)))] := hD
    replace hK : va_K (dC, dI) vwCl [(ko, .long)] s := hK
    have hw_12 : r_11 = 2 := hw; clear hw
    subst hw_12
    refine lv_iload hx hb dL_law_338 (lv_at hl 1 rfl) ?_
    refine lv_icmp_eq (tgt := 345) hx hb dL_law_340 (by decide) (fun _ => ?_) (fun hc => absurd (by decide) hc)
    refine lv_iload hx hb dL_law_345 (lv_at hl 1 rfl) ?_
    refine lv_if_ne (tgt := 362) hx hb dL_law_347 (by decide) (fun _ => ?_) (fun hc => absurd hc (by decide))
    refine lv_goto (tgt := 2018) hx hb dL_law_362 (by decide) ?_
    exact law_tail C0 hA2 hbA hS (lv_sub hl [2, 6] rfl) (Nat.le_of_ble_eq_true rfl) (Nat.le_of_ble_eq_true rfl)
set_option maxHeartbeats 4000000 in
set_option maxRecDepth 100000 in
/-- the law at a call of solution on fresh objects -/
theorem law_case_solution {p : Program} {l : Launch} (hlt : l.stackTraces = false) {e : Env} {s : State} {m : MethodId} {below : List Frame} {meth : Method} {c : Code} {b : Nat} {xs : Nat → Int32} (C0 : lw_At p s m meth c b 6 xs) {dC : Nat → ClassId} {dI : Nat → Nat → Nat} {A : Nat → Prop} (hA : ∀ q : Nat, s.heap.size ≤ q → A q) (hA2 : ∀ q : Nat, A q → s.heap.size ≤ q) (hbA : ¬ A b) (hN : w_N s) (hT : w_T A s s.heap) (hSt : w_S A s s.heap) (hC : w_C A s s.heap) {H : Heap} {locs : List Loc} {ls : Array Slot} {c0 : Nat} {n0 : Nat} {qC : Nat} {qo : Nat} {fs_qC : List Value} {ko : Nat} {fo : Nat → Int64} {qfed : Nat} {qf : Nat} {qfd : Nat} {qs : Nat} {qk : Nat} {fs_c0 : List Value} {fs_n0 : List Value} (hP : va_P (dC, dI) vwCl [(c0, .inr (11, fs_c0)), (qC, .inr (2, fs_qC)), (qo, .inl (ko, 1, .inr (.inl fo))), (n0, .inr (15, fs_n0))] H) (hD : va_D A [(c0, .inr (11, fs_c0)), (qC, .inr (2, fs_qC)), (qo, .inl (ko, 1, .inr (.inl fo))), (n0, .inr (15, fs_n0))]) (hK : va_K (dC, dI) vwCl [(ko, .long)] s) (hS : va_S A s.heap H locs) (hl : lv_has ls 8 [(4, .int 0), (3, .ref qo), (2, .ref n0), (1, .ref c0), (0, .ref b)]) (hF_c0 : mF 19 [(7, .ref qC)] fs_c0) (hF_qC : mF 13 [(8, .int 0)] fs_qC) (hF_n0 : mF 89 [(0, .int 0), (18, .int 0), (19, .int 0), (20, .int (-1)), (21, .int 0), (22, .int 0), (23, .int 0), (24, .int 0), (25, .int 0), (27, .int 0), (28, .int 0), (29, .int 0), (35, .int 0), (17, .int (-1)), (26, .ref qfed), (30, .ref qf), (31, .ref qfd), (33, .ref qs), (36, .ref qk)] fs_n0) : W p l e room_1 s m #[Value.ref b] below meth c H locs 15894 3343160 (lw_Z below #[Value.ref b] s) (F0 m 365 ls []) := by
  have hx := C0.1; have hb := C0.2.1; have hml := C0.2.2.2.1; have hown := C0.2.2.2.2.1; have hts := C0.2.2.2.2.2.1; have hX := C0.2.2.2.2.2.2.1; have hbl := C0.2.2.2.2.2.2.2.1; have hlocks := C0.2.2.2.2.2.2.2.2.1
  refine lv_aload_n hx hb dL_law_365 rfl (lv_at hl 3 rfl) ?_
  refine lv_aload_n hx hb dL_law_366 rfl (lv_at hl 4 rfl) ?_
  refine lv_iload hx hb dL_law_367 (lv_at hl 0 rfl) ?_
  refine lv_iconst (v := 1) hx hb dL_law_369 (by decide) ?_
  refine lv_iadd hx hb dL_law_370 ?_
  refine lv_topi (fun v_1 ev_1 => ?_)
  have ev_1 : v_1 = 1 := ev_1.trans (by decide)
  subst ev_1
  refine va_sld hx hb hX hbl hbA hS (by exact fun h => by rcases h with h | h <;> revert h <;> decide) dL_law_371 ?_
  refine lv_topi (fun v_2 ev_2 => ?_)
  have ev_2 : v_2 = xs 1 := ev_2
  subst ev_2
  refine lv_aload_n hx hb dL_law_372 rfl (lv_at hl 1 rfl) ?_
  have hPc := hP.sub (ws' := [(c0, .inr (11, fs_c0)), (qC, .inr (2, fs_qC))]) [0, 1] rfl
  have hDc := hD.sub (ws' := [(c0, .inr (11, fs_c0)), (qC, .inr (2, fs_qC))]) [0, 1] (by decide) rfl
  have hKc := hK.sub (tys' := []) [] rfl
  have hFc := va_free (wc := [(c0, .inr (11, fs_c0)), (qC, .inr (2, fs_qC))]) hD hS hA [0, 1] rfl
  refine vx_calli (vx_runSX (As := [.ref c0, .int (xs 1), .ref qo]) (rest := []) ⟨hx, hb, hml, hown, hts⟩ (c_l_solution l hlt dC dI c0 qC qo ((xs 1)) fs_c0 fs_qC (mF.sub hF_c0 [0] rfl) (mF.sub hF_qC [0] rfl) H.size) (vx_cwSW 3 hts g_law_wv_l_solution_123 rfl rfl rfl hd_L_solution ⟨Nat.le_of_ble_eq_true rfl, Nat.le_of_ble_eq_true rfl⟩) ⟨fun a U g mk q => by obtain ⟨q0, q1, qP, qK, qD, qE0, qE1, qE2⟩ := q; exact ⟨q0, q1, qP, va_K.moved (u := U) (U := U.calling g mk a) (Vm.Alike.refl U.vm) qK, qD, w_N.same rfl qE0, w_T.same rfl rfl qE1, w_C.same rfl rfl qE2⟩, fun U hU hW => ⟨rfl, by rw [hU], by rw [hU]; exact hPc, va_K.moved hW.alike hKc, hDc.weaken (fun _ _ _ _ => trivial), w_N.warm hW hN, w_T.go hT hW hS.2.1 hFc hU, w_C.go hC hW hS.2.1 hFc hU⟩⟩ rfl rfl hl.1 rfl (lv_room (Nat.le_of_ble_eq_true rfl)) dL_law_373 ⟨(Nat.le_of_ble_eq_true rfl), (Nat.le_of_ble_eq_true rfl)⟩) hS (fun q _ h => hFc q h) hFc (fun q _ h => hFc q h) (fun E9 ce9 q9 u t H1 locs1 ht hvm hpx hBX hz1 hk1 hS1 hcell9 hv9 hcl9 => ?_) (fun r_3 u t H1 locs1 ht hvm hw hB hz1 hk1 hS1 => ?_)
  · skip
    exact (hpx : False).elim
  · skip
    obtain ⟨hP1, hK1, hD1⟩ := hB
    rw [ht] at hP1
    have hK1 := va_K.moved hvm.symm hK1
    have hJ := va_join (wr := [(qo, .inl (ko, 1, .inr (.inl fo))), (n0, .inr (15, fs_n0))]) (w1 := []) hP hD [0, 1] [2, 3] rfl rfl (by decide) (by decide) hk1 hFc hP1 hD1
    clear hP hD hPc hDc hKc hFc hz1; try clear hk1
    obtain ⟨hP, hD⟩ := hJ
    replace hK := (hK.sub (tys' := [(ko, .long)]) [0] rfl).app (hK1.sub (tys' := []) [] rfl)
    clear hP1 hK1 hD1 hvm ht hS; try clear t
    try clear H
    revert hS1
    intro hS
    generalize H1 = H at hP hS ⊢; try clear H1
    replace hP : va_P (dC, dI) vwCl [(qo, .inl (ko, 1, .inr (.inl fo))), (n0, .inr (15, fs_n0))] H := hP
    replace hD : va_D A [(qo, .inl (ko, 1, .inr (.inl fo))), (n0, .inr (15, fs_n0))] := hD
    replace hK : va_K (dC, dI) vwCl [(ko, .long)] s := hK
    have hw_4 : r_3 = 2 := hw; clear hw
    subst hw_4
    refine lv_istore (lv' := [(5, .int 2), (4, .int 0), (3, .ref qo), (2, .ref n0), (1, .ref c0), (0, .ref b)]) hx hb dL_law_376 hl (by decide) rfl (fun ls hl => ?_)
    refine lv_aload_n hx hb dL_law_378 rfl (lv_at hl 3 rfl) ?_
    refine lv_aload_n hx hb dL_law_379 rfl (lv_at hl 5 rfl) ?_
    refine lv_iload hx hb dL_law_380 (lv_at hl 1 rfl) ?_
    refine lv_iconst (v := 1) hx hb dL_law_382 (by decide) ?_
    refine lv_iadd hx hb dL_law_383 ?_
    refine lv_topi (fun v_5 ev_5 => ?_)
    have ev_5 : v_5 = 1 := ev_5.trans (by decide)
    subst ev_5
    refine va_sld hx hb hX hbl hbA hS (by exact fun h => by rcases h with h | h <;> revert h <;> decide) dL_law_384 ?_
    refine lv_topi (fun v_6 ev_6 => ?_)
    have ev_6 : v_6 = xs 1 := ev_6
    subst ev_6
    have hPc := hP.sub (ws' := [(n0, .inr (15, fs_n0))]) [1] rfl
    have hDc := hD.sub (ws' := [(n0, .inr (15, fs_n0))]) [1] (by decide) rfl
    have hKc := hK.sub (tys' := []) [] rfl
    have hFc := va_free (wc := [(n0, .inr (15, fs_n0))]) hD hS hA [1] rfl
    refine va_calli (va_runV (As := [.int (xs 1)]) (rest := []) ⟨hx, hb, hml, hown, hts⟩ (c_m_solution l dC dI n0 qfed qf qfd qs qk ((xs 1)) fs_n0 (mF.sub hF_n0 [0, 1, 2, 3, 4, 5, 6, 7, 8, 9, 10, 11, 12, 13, 14, 15, 16, 17, 18] rfl) H.size) (cwV 1 hts g_law_wv_m_solution_125 rfl rfl rfl hv_X15_solution ⟨Nat.le_of_ble_eq_true rfl, Nat.le_of_ble_eq_true rfl⟩) ⟨fun a U g mk q => by obtain ⟨q0, q1, qP, qK, qD, qE0⟩ := q; exact ⟨q0, q1, qP, va_K.moved (u := U) (U := U.calling g mk a) (Vm.Alike.refl U.vm) qK, qD, w_N.same rfl qE0⟩, va_recv hKc hPc (ci := 15) (q0 := 0) rfl rfl, fun U hU hW => ⟨rfl, by rw [hU], by rw [hU]; exact hPc, va_K.moved hW.alike hKc, hDc.weaken (fun _ _ _ _ => trivial), w_N.warm hW hN⟩⟩ rfl rfl hl.1 rfl (lv_room (Nat.le_of_ble_eq_true rfl)) dL_law_385 ⟨(Nat.le_of_ble_eq_true rfl), (Nat.le_of_ble_eq_true rfl)⟩) hS (fun q _ h => hFc q h) hFc (fun r_7 u t H1 locs1 ht hvm hw hB hz1 hk1 hS1 => ?_)
    obtain ⟨fs_8, hP1, hK1, hD1, hp_9⟩ := hB
    rw [ht] at hP1
    have hK1 := va_K.moved hvm.symm hK1
    have hJ := va_join (wr := [(qo, .inl (ko, 1, .inr (.inl fo)))]) (w1 := [(n0, .inr (15, fs_8))]) hP hD [1] [0] rfl rfl (by decide) (by decide) hk1 hFc hP1 hD1
    clear hP hD hPc hDc hKc hFc hz1; try clear hk1
    obtain ⟨hP, hD⟩ := hJ
    replace hK := (hK.sub (tys' := [(ko, .long)]) [0] rfl).app (hK1.sub (tys' := []) [] rfl)
    clear hP1 hK1 hD1 hvm ht hS; try clear t
    try clear H
    revert hS1
    intro hS
    generalize H1 = H at hP hS ⊢; try clear H1
    replace hP : va_P (dC, dI) vwCl [(qo, .inl (ko, 1, .inr (.inl fo))), (n0, .inr (15, fs_8))] H := hP
    replace hD : va_D A [(qo, .inl (ko, 1, .inr (.inl fo))), (n0, .inr (15, fs_8))] := hD
    replace hK : va_K (dC, dI) vwCl [(ko, .long)] s := hK
    have hw_10 : True := hw; clear hw
    refine lv_istore (lv' := [(6, .int r_7), (5, .int 2), (4, .int 0), (3, .ref qo), (2, .ref n0), (1, .ref c0), (0, .ref b)]) hx hb dL_law_388 hl (by decide) rfl (fun ls hl => ?_)
    refine lv_aload_n hx hb dL_law_390 rfl (lv_at hl 4 rfl) ?_
    have hPc := hP.sub (ws' := [(n0, .inr (15, fs_8))]) [1] rfl
    have hDc := hD.sub (ws' := [(n0, .inr (15, fs_8))]) [1] (by decide) rfl
    have hKc := hK.sub (tys' := []) [] rfl
    have hFc := va_free (wc := [(n0, .inr (15, fs_8))]) hD hS hA [1] rfl
    refine va_calli (va_runV (As := []) (rest := []) ⟨hx, hb, hml, hown, hts⟩ (c_m_thrown l dC dI n0 2 fs_8 (mF.sub hp_9 [0] rfl) H.size) (cwV 0 hts g_law_wv_m_thrown_117 rfl rfl rfl hv_X15_thrown ⟨Nat.le_of_ble_eq_true rfl, Nat.le_of_ble_eq_true rfl⟩) ⟨fun a U g mk q => by obtain ⟨q0, q1, qP, qK, qD, qE0⟩ := q; exact ⟨q0, q1, qP, va_K.moved (u := U) (U := U.calling g mk a) (Vm.Alike.refl U.vm) qK, qD, w_N.same rfl qE0⟩, va_recv hKc hPc (ci := 15) (q0 := 0) rfl rfl, fun U hU hW => ⟨rfl, by rw [hU], by rw [hU]; exact hPc, va_K.moved hW.alike hKc, hDc.weaken (fun _ _ _ _ => trivial), w_N.warm hW hN⟩⟩ rfl rfl hl.1 rfl (lv_room (Nat.le_of_ble_eq_true rfl)) dL_law_391 ⟨(Nat.le_of_ble_eq_true rfl), (Nat.le_of_ble_eq_true rfl)⟩) hS (fun q _ h => hFc q h) hFc (fun r_11 u t H1 locs1 ht hvm hw hB hz1 hk1 hS1 => ?_)
    obtain ⟨hP1, hK1, hD1⟩ := hB
    rw [ht] at hP1
    have hK1 := va_K.moved hvm.symm hK1
    have hJ := va_join (wr := [(qo, .inl (ko, 1, .inr (.inl fo)))]) (w1 := []) hP hD [1] [0] rfl rfl (by decide) (by decide) hk1 hFc hP1 hD1
    clear hP hD hPc hDc hKc hFc hz1; try clear hk1
    obtain ⟨hP, hD⟩ := hJ
    replace hK := (hK.sub (tys' := [(ko, .long)]) [0] rfl).app (hK1.sub (tys' := []) [] rfl)
    clear hP1 hK1 hD1 hvm ht hS; try clear t
    try clear H
    revert hS1
    intro hS
    generalize H1 = H at hP hS ⊢; try clear H1
    replace hP : va_P (dC, dI) vwCl [(qo, .inl (ko, 1, .inr (.inl fo)))] H := hP
    replace hD : va_D A [(qo, .inl (ko, 1, .inr (.inl fo)))] := hD
    replace hK : va_K (dC, dI) vwCl [(ko, .long)] s := hK
    have hw_12 : r_11 = 2 := hw; clear hw
    subst hw_12
    refine lv_iload hx hb dL_law_394 (lv_at hl 1 rfl) ?_
    refine lv_icmp_eq (tgt := 401) hx hb dL_law_396 (by decide) (fun _ => ?_) (fun hc => absurd (by decide) hc)
    refine lv_iload hx hb dL_law_401 (lv_at hl 1 rfl) ?_
    refine lv_if_ne (tgt := 418) hx hb dL_law_403 (by decide) (fun _ => ?_) (fun hc => absurd hc (by decide))
    refine lv_goto (tgt := 2018) hx hb dL_law_418 (by decide) ?_
    exact law_tail C0 hA2 hbA hS (lv_sub hl [2, 6] rfl) (Nat.le_of_ble_eq_true rfl) (Nat.le_of_ble_eq_true rfl)
set_option maxHeartbeats 4000000 in
set_option maxRecDepth 100000 in
/-- the law at a call of fault on fresh objects -/
theorem law_case_fault {p : Program} {l : Launch} (hlt : l.stackTraces = false) {e : Env} {s : State} {m : MethodId} {below : List Frame} {meth : Method} {c : Code} {b : Nat} {xs : Nat → Int32} (C0 : lw_At p s m meth c b 6 xs) {dC : Nat → ClassId} {dI : Nat → Nat → Nat} {A : Nat → Prop} (hA : ∀ q : Nat, s.heap.size ≤ q → A q) (hA2 : ∀ q : Nat, A q → s.heap.size ≤ q) (hbA : ¬ A b) (hN : w_N s) (hT : w_T A s s.heap) (hSt : w_S A s s.heap) (hC : w_C A s s.heap) {H : Heap} {locs : List Loc} {ls : Array Slot} {c0 : Nat} {n0 : Nat} {qo : Nat} {ko : Nat} {fo : Nat → Int64} {qfed : Nat} {qf : Nat} {qfd : Nat} {qs : Nat} {qk : Nat} {fs_c0 : List Value} {fs_n0 : List Value} (hP : va_P (dC, dI) vwCl [(c0, .inr (11, fs_c0)), (qo, .inl (ko, 1, .inr (.inl fo))), (n0, .inr (15, fs_n0))] H) (hD : va_D A [(c0, .inr (11, fs_c0)), (qo, .inl (ko, 1, .inr (.inl fo))), (n0, .inr (15, fs_n0))]) (hK : va_K (dC, dI) vwCl [(ko, .long)] s) (hS : va_S A s.heap H locs) (hl : lv_has ls 8 [(4, .int 0), (3, .ref qo), (2, .ref n0), (1, .ref c0), (0, .ref b)]) (hF_c0 : mF 19 [(2, .int (-1))] fs_c0) (hF_n0 : mF 89 [(0, .int 0), (18, .int 0), (19, .int 0), (20, .int (-1)), (21, .int 0), (22, .int 0), (23, .int 0), (24, .int 0), (25, .int 0), (27, .int 0), (28, .int 0), (29, .int 0), (35, .int 0), (17, .int (-1)), (26, .ref qfed), (30, .ref qf), (31, .ref qfd), (33, .ref qs), (36, .ref qk)] fs_n0) : W p l e room_1 s m #[Value.ref b] below meth c H locs 15894 3343160 (lw_Z below #[Value.ref b] s) (F0 m 421 ls []) := by
  have hx := C0.1; have hb := C0.2.1; have hml := C0.2.2.2.1; have hown := C0.2.2.2.2.1; have hts := C0.2.2.2.2.2.1; have hX := C0.2.2.2.2.2.2.1; have hbl := C0.2.2.2.2.2.2.2.1; have hlocks := C0.2.2.2.2.2.2.2.2.1
  refine lv_aload_n hx hb dL_law_421 rfl (lv_at hl 3 rfl) ?_
  have hPc := hP.sub (ws' := [(c0, .inr (11, fs_c0))]) [0] rfl
  have hDc := hD.sub (ws' := [(c0, .inr (11, fs_c0))]) [0] (by decide) rfl
  have hKc := hK.sub (tys' := []) [] rfl
  have hFc := va_free (wc := [(c0, .inr (11, fs_c0))]) hD hS hA [0] rfl
  refine va_calli (va_runV (As := []) (rest := []) ⟨hx, hb, hml, hown, hts⟩ (c_f_fault l dC dI c0 fs_c0 (mF.sub hF_c0 [0] rfl) H.size) (cwV 0 hts g_law_wv_f_fault_126 rfl rfl rfl hv_X11_fault ⟨Nat.le_of_ble_eq_true rfl, Nat.le_of_ble_eq_true rfl⟩) ⟨fun a U g mk q => by obtain ⟨q0, q1, qP, qK, qD, qE0⟩ := q; exact ⟨q0, q1, qP, va_K.moved (u := U) (U := U.calling g mk a) (Vm.Alike.refl U.vm) qK, qD, w_N.same rfl qE0⟩, va_recv hKc hPc (ci := 11) (q0 := 0) rfl rfl, fun U hU hW => ⟨rfl, by rw [hU], by rw [hU]; exact hPc, va_K.moved hW.alike hKc, hDc.weaken (fun _ _ _ _ => trivial), w_N.warm hW hN⟩⟩ rfl rfl hl.1 rfl (lv_room (Nat.le_of_ble_eq_true rfl)) dL_law_422 ⟨(Nat.le_of_ble_eq_true rfl), (Nat.le_of_ble_eq_true rfl)⟩) hS (fun q _ h => hFc q h) hFc (fun r_1 u t H1 locs1 ht hvm hw hB hz1 hk1 hS1 => ?_)
  obtain ⟨hP1, hK1, hD1⟩ := hB
  rw [ht] at hP1
  have hK1 := va_K.moved hvm.symm hK1
  have hJ := va_join (wr := [(qo, .inl (ko, 1, .inr (.inl fo))), (n0, .inr (15, fs_n0))]) (w1 := []) hP hD [0] [1, 2] rfl rfl (by decide) (by decide) hk1 hFc hP1 hD1
  clear hP hD hPc hDc hKc hFc hz1; try clear hk1
  obtain ⟨hP, hD⟩ := hJ
  replace hK := (hK.sub (tys' := [(ko, .long)]) [0] rfl).app (hK1.sub (tys' := []) [] rfl)
  clear hP1 hK1 hD1 hvm ht hS; try clear t
  try clear H
  revert hS1
  intro hS
  generalize H1 = H at hP hS ⊢; try clear H1
  replace hP : va_P (dC, dI) vwCl [(qo, .inl (ko, 1, .inr (.inl fo))), (n0, .inr (15, fs_n0))] H := hP
  replace hD : va_D A [(qo, .inl (ko, 1, .inr (.inl fo))), (n0, .inr (15, fs_n0))] := hD
  replace hK : va_K (dC, dI) vwCl [(ko, .long)] s := hK
  have hw_2 : r_1 = (-1) := hw; clear hw
  subst hw_2
  refine lv_aload_n hx hb dL_law_425 rfl (lv_at hl 2 rfl) ?_
  have hPc := hP.sub (ws' := [(n0, .inr (15, fs_n0))]) [1] rfl
  have hDc := hD.sub (ws' := [(n0, .inr (15, fs_n0))]) [1] (by decide) rfl
  have hKc := hK.sub (tys' := []) [] rfl
  have hFc := va_free (wc := [(n0, .inr (15, fs_n0))]) hD hS hA [1] rfl
  refine va_calli (va_runV (As := []) (rest := [.int (-1)]) ⟨hx, hb, hml, hown, hts⟩ (c_m_fault l dC dI n0 qfed qf qfd qs qk fs_n0 (mF.sub hF_n0 [0, 1, 2, 3, 4, 5, 6, 7, 8, 9, 10, 11, 12, 13, 14, 15, 16, 17, 18] rfl) H.size) (cwV 0 hts g_law_wv_m_fault_129 rfl rfl rfl hv_X15_fault ⟨Nat.le_of_ble_eq_true rfl, Nat.le_of_ble_eq_true rfl⟩) ⟨fun a U g mk q => by obtain ⟨q0, q1, qP, qK, qD, qE0⟩ := q; exact ⟨q0, q1, qP, va_K.moved (u := U) (U := U.calling g mk a) (Vm.Alike.refl U.vm) qK, qD, w_N.same rfl qE0⟩, va_recv hKc hPc (ci := 15) (q0 := 0) rfl rfl, fun U hU hW => ⟨rfl, by rw [hU], by rw [hU]; exact hPc, va_K.moved hW.alike hKc, hDc.weaken (fun _ _ _ _ => trivial), w_N.warm hW hN⟩⟩ rfl rfl hl.1 rfl (lv_room (Nat.le_of_ble_eq_true rfl)) dL_law_426 ⟨(Nat.le_of_ble_eq_true rfl), (Nat.le_of_ble_eq_true rfl)⟩) hS (fun q _ h => hFc q h) hFc (fun r_3 u t H1 locs1 ht hvm hw hB hz1 hk1 hS1 => ?_)
  obtain ⟨fs_4, hP1, hK1, hD1, hp_5⟩ := hB
  rw [ht] at hP1
  have hK1 := va_K.moved hvm.symm hK1
  have hJ := va_join (wr := [(qo, .inl (ko, 1, .inr (.inl fo)))]) (w1 := [(n0, .inr (15, fs_4))]) hP hD [1] [0] rfl rfl (by decide) (by decide) hk1 hFc hP1 hD1
  clear hP hD hPc hDc hKc hFc hz1; try clear hk1
  obtain ⟨hP, hD⟩ := hJ
  replace hK := (hK.sub (tys' := [(ko, .long)]) [0] rfl).app (hK1.sub (tys' := []) [] rfl)
  clear hP1 hK1 hD1 hvm ht hS; try clear t
  try clear H
  revert hS1
  intro hS
  generalize H1 = H at hP hS ⊢; try clear H1
  replace hP : va_P (dC, dI) vwCl [(qo, .inl (ko, 1, .inr (.inl fo))), (n0, .inr (15, fs_4))] H := hP
  replace hD : va_D A [(qo, .inl (ko, 1, .inr (.inl fo))), (n0, .inr (15, fs_4))] := hD
  replace hK : va_K (dC, dI) vwCl [(ko, .long)] s := hK
  have hw_6 : r_3 = (-1) := hw; clear hw
  subst hw_6
  refine lv_icmp_eq (tgt := 2018) hx hb dL_law_429 (by decide) (fun _ => ?_) (fun hc => absurd (by decide) hc)
  exact law_tail C0 hA2 hbA hS (lv_sub hl [0, 4] rfl) (Nat.le_of_ble_eq_true rfl) (Nat.le_of_ble_eq_true rfl)
set_option maxHeartbeats 4000000 in
set_option maxRecDepth 100000 in
/-- the law at a call of told on fresh objects -/
theorem law_case_told {p : Program} {l : Launch} (hlt : l.stackTraces = false) {e : Env} {s : State} {m : MethodId} {below : List Frame} {meth : Method} {c : Code} {b : Nat} {xs : Nat → Int32} (C0 : lw_At p s m meth c b 6 xs) {dC : Nat → ClassId} {dI : Nat → Nat → Nat} {A : Nat → Prop} (hA : ∀ q : Nat, s.heap.size ≤ q → A q) (hA2 : ∀ q : Nat, A q → s.heap.size ≤ q) (hbA : ¬ A b) (hN : w_N s) (hT : w_T A s s.heap) (hSt : w_S A s s.heap) (hC : w_C A s s.heap) {H : Heap} {locs : List Loc} {ls : Array Slot} {c0 : Nat} {n0 : Nat} {qC : Nat} {qr : Nat} {qra : Nat} {qrb : Nat} {k1a : Nat} {k1b : Nat} {qo : Nat} {ko : Nat} {fo : Nat → Int64} {fs_qC : List Value} {fs_qr : List Value} {qfed : Nat} {qf : Nat} {qfd : Nat} {qs : Nat} {qk : Nat} {fs_qf : List Value} {fs_c0 : List Value} {fs_n0 : List Value} (hP : va_P (dC, dI) vwCl [(c0, .inr (11, fs_c0)), (qC, .inr (2, fs_qC)), (qr, .inr (6, fs_qr)), (qra, .inl (k1a, 16, .inr (.inl (fun _ => 0)))), (qrb, .inl (k1b, 16, .inr (.inl (fun _ => 0)))), (qo, .inl (ko, 1, .inr (.inl fo))), (n0, .inr (15, fs_n0)), (qf, .inr (13, fs_qf))] H) (hD : va_D A [(c0, .inr (11, fs_c0)), (qC, .inr (2, fs_qC)), (qr, .inr (6, fs_qr)), (qra, .inl (k1a, 16, .inr (.inl (fun _ => 0)))), (qrb, .inl (k1b, 16, .inr (.inl (fun _ => 0)))), (qo, .inl (ko, 1, .inr (.inl fo))), (n0, .inr (15, fs_n0)), (qf, .inr (13, fs_qf))]) (hK : va_K (dC, dI) vwCl [(k1a, .long), (k1b, .long), (ko, .long)] s) (hS : va_S A s.heap H locs) (hl : lv_has ls 8 [(4, .int 0), (3, .ref qo), (2, .ref n0), (1, .ref c0), (0, .ref b)]) (hF_c0 : mF 19 [(7, .ref qC)] fs_c0) (hF_qC : mF 13 [(2, .ref qr), (8, .int 0)] fs_qC) (hF_qr : mF 3 [(0, .ref qra), (1, .ref qrb), (2, .int 0)] fs_qr) (hF_n0 : mF 89 [(0, .int 0), (18, .int 0), (19, .int 0), (20, .int (-1)), (21, .int 0), (22, .int 0), (23, .int 0), (24, .int 0), (25, .int 0), (27, .int 0), (28, .int 0), (29, .int 0), (35, .int 0), (17, .int (-1)), (26, .ref qfed), (30, .ref qf), (31, .ref qfd), (33, .ref qs), (36, .ref qk)] fs_n0) (hF_qf : mF 5 [(4, .int 0)] fs_qf) : W p l e room_1 s m #[Value.ref b] below meth c H locs 15894 3343160 (lw_Z below #[Value.ref b] s) (F0 m 434 ls []) := by
  have hx := C0.1; have hb := C0.2.1; have hml := C0.2.2.2.1; have hown := C0.2.2.2.2.1; have hts := C0.2.2.2.2.2.1; have hX := C0.2.2.2.2.2.2.1; have hbl := C0.2.2.2.2.2.2.2.1; have hlocks := C0.2.2.2.2.2.2.2.2.1
  refine lv_aload_n hx hb dL_law_434 rfl (lv_at hl 3 rfl) ?_
  refine lv_aload_n hx hb dL_law_435 rfl (lv_at hl 4 rfl) ?_
  refine lv_iload hx hb dL_law_436 (lv_at hl 0 rfl) ?_
  refine lv_iconst (v := 1) hx hb dL_law_438 (by decide) ?_
  refine lv_iadd hx hb dL_law_439 ?_
  refine lv_topi (fun v_1 ev_1 => ?_)
  have ev_1 : v_1 = 1 := ev_1.trans (by decide)
  subst ev_1
  refine va_sld hx hb hX hbl hbA hS (by exact fun h => by rcases h with h | h <;> revert h <;> decide) dL_law_440 ?_
  refine lv_topi (fun v_2 ev_2 => ?_)
  have ev_2 : v_2 = xs 1 := ev_2
  subst ev_2
  refine lv_aload_n hx hb dL_law_441 rfl (lv_at hl 1 rfl) ?_
  have hPc := hP.sub (ws' := [(c0, .inr (11, fs_c0)), (qC, .inr (2, fs_qC)), (qr, .inr (6, fs_qr)), (qra, .inl (k1a, 16, .inr (.inl (fun _ => 0)))), (qrb, .inl (k1b, 16, .inr (.inl (fun _ => 0)))), (qo, .inl (ko, 1, .inr (.inl fo)))]) [0, 1, 2, 3, 4, 5] rfl
  have hDc := hD.sub (ws' := [(c0, .inr (11, fs_c0)), (qC, .inr (2, fs_qC)), (qr, .inr (6, fs_qr)), (qra, .inl (k1a, 16, .inr (.inl (fun _ => 0)))), (qrb, .inl (k1b, 16, .inr (.inl (fun _ => 0)))), (qo, .inl (ko, 1, .inr (.inl fo)))]) [0, 1, 2, 3, 4, 5] (by decide) rfl
  have hKc := hK.sub (tys' := [(k1a, .long), (k1b, .long), (ko, .long)]) [0, 1, 2] rfl
  have hFc := va_free (wc := [(c0, .inr (11, fs_c0)), (qC, .inr (2, fs_qC)), (qr, .inr (6, fs_qr)), (qra, .inl (k1a, 16, .inr (.inl (fun _ => 0)))), (qrb, .inl (k1b, 16, .inr (.inl (fun _ => 0)))), (qo, .inl (ko, 1, .inr (.inl fo)))]) hD hS hA [0, 1, 2, 3, 4, 5] rfl
  refine vx_calli (vx_runSX (As := [.ref c0, .int (xs 1), .ref qo]) (rest := []) ⟨hx, hb, hml, hown, hts⟩ (c_l_told l hlt dC dI c0 qC qr qra qrb k1a k1b qo ko ((xs 1)) fo fs_c0 fs_qC fs_qr (mF.sub hF_c0 [0] rfl) (mF.sub hF_qC [0, 1] rfl) (mF.sub hF_qr [0, 1, 2] rfl) H.size) (vx_cwSW 3 hts g_law_wv_l_told_130 rfl rfl rfl hd_L_told ⟨Nat.le_of_ble_eq_true rfl, Nat.le_of_ble_eq_true rfl⟩) ⟨fun a U g mk q => by obtain ⟨q0, q1, qP, qK, qD, qE0, qE1, qE2⟩ := q; exact ⟨q0, q1, qP, va_K.moved (u := U) (U := U.calling g mk a) (Vm.Alike.refl U.vm) qK, qD, w_N.same rfl qE0, w_T.same rfl rfl qE1, w_C.same rfl rfl qE2⟩, fun U hU hW => ⟨rfl, by rw [hU], by rw [hU]; exact hPc, va_K.moved hW.alike hKc, hDc.weaken (fun _ _ _ _ => trivial), w_N.warm hW hN, w_T.go hT hW hS.2.1 hFc hU, w_C.go hC hW hS.2.1 hFc hU⟩⟩ rfl rfl hl.1 rfl (lv_room (Nat.le_of_ble_eq_true rfl)) dL_law_442 ⟨(Nat.le_of_ble_eq_true rfl), (Nat.le_of_ble_eq_true rfl)⟩) hS (fun q _ h => hFc q h) hFc (fun q _ h => hFc q h) (fun E9 ce9 q9 u t H1 locs1 ht hvm hpx hBX hz1 hk1 hS1 hcell9 hv9 hcl9 => ?_) (fun r_3 u_4 t H1 locs1 ht hvm hw hB hz1 hk1 hS1 => ?_)
  · skip
    exact (hpx : False).elim
  · skip
    obtain ⟨f_5, hP1, hK1, hD1, hp_6⟩ := hB
    rw [ht] at hP1
    have hK1 := va_K.moved hvm.symm hK1
    have hJ := va_join (wr := [(n0, .inr (15, fs_n0)), (qf, .inr (13, fs_qf))]) (w1 := [(qo, .inl (ko, 1, .inr (.inl f_5)))]) hP hD [0, 1, 2, 3, 4, 5] [6, 7] rfl rfl (by decide) (by decide) hk1 hFc hP1 hD1
    clear hP hD hPc hDc hKc hFc hz1; try clear hk1
    obtain ⟨hP, hD⟩ := hJ
    replace hK := (hK.sub (tys' := [(k1a, .long), (k1b, .long), (ko, .long)]) [0, 1, 2] rfl).app (hK1.sub (tys' := []) [] rfl)
    clear hP1 hK1 hD1 hvm ht hS; try clear t
    try clear H
    revert hS1
    intro hS
    generalize H1 = H at hP hS ⊢; try clear H1
    replace hP : va_P (dC, dI) vwCl [(n0, .inr (15, fs_n0)), (qf, .inr (13, fs_qf)), (qo, .inl (ko, 1, .inr (.inl f_5)))] H := hP
    replace hD : va_D A [(n0, .inr (15, fs_n0)), (qf, .inr (13, fs_qf)), (qo, .inl (ko, 1, .inr (.inl f_5)))] := hD
    replace hK : va_K (dC, dI) vwCl [(k1a, .long), (k1b, .long), (ko, .long)] s := hK
    have hw_7 : (r_3 = 0 ∧ u_4 = 0 ∧ kWhat ((xs 1))) ∨ (r_3 = 1 ∧ ¬ kWhat ((xs 1))) := hw; clear hw
    rcases hw_7 with ⟨ehw_7_0, ehw_7_1, hw_7⟩ | ⟨ehw_7_0, hw_7⟩
    · skip
      subst ehw_7_0
      subst ehw_7_1
      refine lv_istore (lv' := [(5, .int 0), (4, .int 0), (3, .ref qo), (2, .ref n0), (1, .ref c0), (0, .ref b)]) hx hb dL_law_445 hl (by decide) rfl (fun ls hl => ?_)
      refine lv_aload_n hx hb dL_law_447 rfl (lv_at hl 3 rfl) ?_
      refine lv_aload_n hx hb dL_law_448 rfl (lv_at hl 5 rfl) ?_
      refine lv_iload hx hb dL_law_449 (lv_at hl 1 rfl) ?_
      refine lv_iconst (v := 1) hx hb dL_law_451 (by decide) ?_
      refine lv_iadd hx hb dL_law_452 ?_
      refine lv_topi (fun v_8 ev_8 => ?_)
      have ev_8 : v_8 = 1 := ev_8.trans (by decide)
      subst ev_8
      refine va_sld hx hb hX hbl hbA hS (by exact fun h => by rcases h with h | h <;> revert h <;> decide) dL_law_453 ?_
      refine lv_topi (fun v_9 ev_9 => ?_)
      have ev_9 : v_9 = xs 1 := ev_9
      subst ev_9
      have hPc := hP.sub (ws' := [(n0, .inr (15, fs_n0)), (qf, .inr (13, fs_qf))]) [0, 1] rfl
      have hDc := hD.sub (ws' := [(n0, .inr (15, fs_n0)), (qf, .inr (13, fs_qf))]) [0, 1] (by decide) rfl
      have hKc := hK.sub (tys' := []) [] rfl
      have hFc := va_free (wc := [(n0, .inr (15, fs_n0)), (qf, .inr (13, fs_qf))]) hD hS hA [0, 1] rfl
      refine va_calli (va_runV (As := [.int (xs 1)]) (rest := []) ⟨hx, hb, hml, hown, hts⟩ (c_m_told l dC dI n0 qfed qf qfd qs qk ((xs 1)) fs_n0 fs_qf (mF.sub hF_n0 [0, 1, 2, 3, 4, 5, 6, 7, 8, 9, 10, 11, 12, 13, 14, 15, 16, 17, 18] rfl) (mF.sub hF_qf [0] rfl) H.size) (cwV 1 hts g_law_wv_m_told_132 rfl rfl rfl hv_X15_told ⟨Nat.le_of_ble_eq_true rfl, Nat.le_of_ble_eq_true rfl⟩) ⟨fun a U g mk q => by obtain ⟨q0, q1, qP, qK, qD, qE0⟩ := q; exact ⟨q0, q1, qP, va_K.moved (u := U) (U := U.calling g mk a) (Vm.Alike.refl U.vm) qK, qD, w_N.same rfl qE0⟩, va_recv hKc hPc (ci := 15) (q0 := 0) rfl rfl, fun U hU hW => ⟨rfl, by rw [hU], by rw [hU]; exact hPc, va_K.moved hW.alike hKc, hDc.weaken (fun _ _ _ _ => trivial), w_N.warm hW hN⟩⟩ rfl rfl hl.1 rfl (lv_room (Nat.le_of_ble_eq_true rfl)) dL_law_454 ⟨(Nat.le_of_ble_eq_true rfl), (Nat.le_of_ble_eq_true rfl)⟩) hS (fun q _ h => hFc q h) hFc (fun r_10 u_11 t H1 locs1 ht hvm hw hB hz1 hk1 hS1 => ?_)
      obtain ⟨fs_12, hP1, hK1, hD1, hp_13⟩ := hB
      rw [ht] at hP1
      have hK1 := va_K.moved hvm.symm hK1
      have hJ := va_join (wr := [(qo, .inl (ko, 1, .inr (.inl f_5)))]) (w1 := [(n0, .inr (15, fs_12))]) hP hD [0, 1] [2] rfl rfl (by decide) (by decide) hk1 hFc hP1 hD1
      clear hP hD hPc hDc hKc hFc hz1; try clear hk1
      obtain ⟨hP, hD⟩ := hJ
      replace hK := (hK.sub (tys' := [(k1a, .long), (k1b, .long), (ko, .long)]) [0, 1, 2] rfl).app (hK1.sub (tys' := []) [] rfl)
      clear hP1 hK1 hD1 hvm ht hS; try clear t
      try clear H
      revert hS1
      intro hS
      generalize H1 = H at hP hS ⊢; try clear H1
      replace hP : va_P (dC, dI) vwCl [(qo, .inl (ko, 1, .inr (.inl f_5))), (n0, .inr (15, fs_12))] H := hP
      replace hD : va_D A [(qo, .inl (ko, 1, .inr (.inl f_5))), (n0, .inr (15, fs_12))] := hD
      replace hK : va_K (dC, dI) vwCl [(k1a, .long), (k1b, .long), (ko, .long)] s := hK
      have hw_14 : (u_11 = 0 ∧ r_10 = 0 ∧ kIn ((xs 1)) 0 2) ∨ (u_11 = 1 ∧ ¬ kIn ((xs 1)) 0 2) := hw; clear hw
      rcases hw_14 with ⟨ehw_14_0, ehw_14_1, hw_14⟩ | ⟨ehw_14_0, hw_14⟩
      · skip
        subst ehw_14_0
        subst ehw_14_1
        refine lv_istore (lv' := [(6, .int 0), (5, .int 0), (4, .int 0), (3, .ref qo), (2, .ref n0), (1, .ref c0), (0, .ref b)]) hx hb dL_law_457 hl (by decide) rfl (fun ls hl => ?_)
        refine lv_aload_n hx hb dL_law_459 rfl (lv_at hl 4 rfl) ?_
        have hPc := hP.sub (ws' := [(n0, .inr (15, fs_12))]) [1] rfl
        have hDc := hD.sub (ws' := [(n0, .inr (15, fs_12))]) [1] (by decide) rfl
        have hKc := hK.sub (tys' := []) [] rfl
        have hFc := va_free (wc := [(n0, .inr (15, fs_12))]) hD hS hA [1] rfl
        refine va_calli (va_runV (As := []) (rest := []) ⟨hx, hb, hml, hown, hts⟩ (c_m_thrown l dC dI n0 0 fs_12 (mF.sub hp_13 [0] rfl) H.size) (cwV 0 hts g_law_wv_m_thrown_117 rfl rfl rfl hv_X15_thrown ⟨Nat.le_of_ble_eq_true rfl, Nat.le_of_ble_eq_true rfl⟩) ⟨fun a U g mk q => by obtain ⟨q0, q1, qP, qK, qD, qE0⟩ := q; exact ⟨q0, q1, qP, va_K.moved (u := U) (U := U.calling g mk a) (Vm.Alike.refl U.vm) qK, qD, w_N.same rfl qE0⟩, va_recv hKc hPc (ci := 15) (q0 := 0) rfl rfl, fun U hU hW => ⟨rfl, by rw [hU], by rw [hU]; exact hPc, va_K.moved hW.alike hKc, hDc.weaken (fun _ _ _ _ => trivial), w_N.warm hW hN⟩⟩ rfl rfl hl.1 rfl (lv_room (Nat.le_of_ble_eq_true rfl)) dL_law_460 ⟨(Nat.le_of_ble_eq_true rfl), (Nat.le_of_ble_eq_true rfl)⟩) hS (fun q _ h => hFc q h) hFc (fun r_15 u t H1 locs1 ht hvm hw hB hz1 hk1 hS1 => ?_)
        obtain ⟨hP1, hK1, hD1⟩ := hB
        rw [ht] at hP1
        have hK1 := va_K.moved hvm.symm hK1
        have hJ := va_join (wr := [(qo, .inl (ko, 1, .inr (.inl f_5)))]) (w1 := []) hP hD [1] [0] rfl rfl (by decide) (by decide) hk1 hFc hP1 hD1
        clear hP hD hPc hDc hKc hFc hz1; try clear hk1
        obtain ⟨hP, hD⟩ := hJ
        replace hK := (hK.sub (tys' := [(k1a, .long), (k1b, .long), (ko, .long)]) [0, 1, 2] rfl).app (hK1.sub (tys' := []) [] rfl)
        clear hP1 hK1 hD1 hvm ht hS; try clear t
        try clear H
        revert hS1
        intro hS
        generalize H1 = H at hP hS ⊢; try clear H1
        replace hP : va_P (dC, dI) vwCl [(qo, .inl (ko, 1, .inr (.inl f_5)))] H := hP
        replace hD : va_D A [(qo, .inl (ko, 1, .inr (.inl f_5)))] := hD
        replace hK : va_K (dC, dI) vwCl [(k1a, .long), (k1b, .long), (ko, .long)] s := hK
        have hw_16 : r_15 = 0 := hw; clear hw
        subst hw_16
        refine lv_iload hx hb dL_law_463 (lv_at hl 1 rfl) ?_
        refine lv_icmp_eq (tgt := 470) hx hb dL_law_465 (by decide) (fun _ => ?_) (fun hc => absurd (by decide) hc)
        refine lv_iload hx hb dL_law_470 (lv_at hl 1 rfl) ?_
        refine lv_if_ne (tgt := 487) hx hb dL_law_472 (by decide) (fun hc => absurd (by decide) hc) (fun _ => ?_)
        refine lv_aload_n hx hb dL_law_475 rfl (lv_at hl 3 rfl) ?_
        refine lv_iconst (v := 0) hx hb dL_law_476 (by decide) ?_
        refine va_lald hx hb hK hP 0 2 rfl rfl (by exact fun h => by rcases h with h | h <;> revert h <;> decide) dL_law_477 ?_
        refine lv_topl (fun v_17 ev_17 => ?_)
        have ev_17 : v_17 = 0 := ev_17.trans hp_6
        subst ev_17
        refine lv_iload hx hb dL_law_478 (lv_at hl 0 rfl) ?_
        refine lv_i2l (v := 0) hx hb dL_law_480 (by decide) ?_
        refine W.lcmp hx hb dL_law_481 ?_
        refine lv_topi (fun v_18 ev_18 => ?_)
        have ev_18 : v_18 = 0 := ev_18.trans (by decide)
        subst ev_18
        refine lv_if_eq (tgt := 487) hx hb dL_law_482 (by decide) (fun _ => ?_) (fun hc => absurd (by decide) hc)
        refine lv_goto (tgt := 2018) hx hb dL_law_487 (by decide) ?_
        exact law_tail C0 hA2 hbA hS (lv_sub hl [2, 6] rfl) (Nat.le_of_ble_eq_true rfl) (Nat.le_of_ble_eq_true rfl)
      · skip
        subst ehw_14_0
        exact absurd (kWhat_in.mp hw_7) hw_14
    · skip
      subst ehw_7_0
      refine lv_istore (lv' := [(5, .int 1), (4, .int 0), (3, .ref qo), (2, .ref n0), (1, .ref c0), (0, .ref b)]) hx hb dL_law_445 hl (by decide) rfl (fun ls hl => ?_)
      refine lv_aload_n hx hb dL_law_447 rfl (lv_at hl 3 rfl) ?_
      refine lv_aload_n hx hb dL_law_448 rfl (lv_at hl 5 rfl) ?_
      refine lv_iload hx hb dL_law_449 (lv_at hl 1 rfl) ?_
      refine lv_iconst (v := 1) hx hb dL_law_451 (by decide) ?_
      refine lv_iadd hx hb dL_law_452 ?_
      refine lv_topi (fun v_19 ev_19 => ?_)
      have ev_19 : v_19 = 1 := ev_19.trans (by decide)
      subst ev_19
      refine va_sld hx hb hX hbl hbA hS (by exact fun h => by rcases h with h | h <;> revert h <;> decide) dL_law_453 ?_
      refine lv_topi (fun v_20 ev_20 => ?_)
      have ev_20 : v_20 = xs 1 := ev_20
      subst ev_20
      have hPc := hP.sub (ws' := [(n0, .inr (15, fs_n0)), (qf, .inr (13, fs_qf))]) [0, 1] rfl
      have hDc := hD.sub (ws' := [(n0, .inr (15, fs_n0)), (qf, .inr (13, fs_qf))]) [0, 1] (by decide) rfl
      have hKc := hK.sub (tys' := []) [] rfl
      have hFc := va_free (wc := [(n0, .inr (15, fs_n0)), (qf, .inr (13, fs_qf))]) hD hS hA [0, 1] rfl
      refine va_calli (va_runV (As := [.int (xs 1)]) (rest := []) ⟨hx, hb, hml, hown, hts⟩ (c_m_told l dC dI n0 qfed qf qfd qs qk ((xs 1)) fs_n0 fs_qf (mF.sub hF_n0 [0, 1, 2, 3, 4, 5, 6, 7, 8, 9, 10, 11, 12, 13, 14, 15, 16, 17, 18] rfl) (mF.sub hF_qf [0] rfl) H.size) (cwV 1 hts g_law_wv_m_told_132 rfl rfl rfl hv_X15_told ⟨Nat.le_of_ble_eq_true rfl, Nat.le_of_ble_eq_true rfl⟩) ⟨fun a U g mk q => by obtain ⟨q0, q1, qP, qK, qD, qE0⟩ := q; exact ⟨q0, q1, qP, va_K.moved (u := U) (U := U.calling g mk a) (Vm.Alike.refl U.vm) qK, qD, w_N.same rfl qE0⟩, va_recv hKc hPc (ci := 15) (q0 := 0) rfl rfl, fun U hU hW => ⟨rfl, by rw [hU], by rw [hU]; exact hPc, va_K.moved hW.alike hKc, hDc.weaken (fun _ _ _ _ => trivial), w_N.warm hW hN⟩⟩ rfl rfl hl.1 rfl (lv_room (Nat.le_of_ble_eq_true rfl)) dL_law_454 ⟨(Nat.le_of_ble_eq_true rfl), (Nat.le_of_ble_eq_true rfl)⟩) hS (fun q _ h => hFc q h) hFc (fun r_21 u_22 t H1 locs1 ht hvm hw hB hz1 hk1 hS1 => ?_)
      obtain ⟨fs_23, hP1, hK1, hD1, hp_24⟩ := hB
      rw [ht] at hP1
      have hK1 := va_K.moved hvm.symm hK1
      have hJ := va_join (wr := [(qo, .inl (ko, 1, .inr (.inl f_5)))]) (w1 := [(n0, .inr (15, fs_23))]) hP hD [0, 1] [2] rfl rfl (by decide) (by decide) hk1 hFc hP1 hD1
      clear hP hD hPc hDc hKc hFc hz1; try clear hk1
      obtain ⟨hP, hD⟩ := hJ
      replace hK := (hK.sub (tys' := [(k1a, .long), (k1b, .long), (ko, .long)]) [0, 1, 2] rfl).app (hK1.sub (tys' := []) [] rfl)
      clear hP1 hK1 hD1 hvm ht hS; try clear t
      try clear H
      revert hS1
      intro hS
      generalize H1 = H at hP hS ⊢; try clear H1
      replace hP : va_P (dC, dI) vwCl [(qo, .inl (ko, 1, .inr (.inl f_5))), (n0, .inr (15, fs_23))] H := hP
      replace hD : va_D A [(qo, .inl (ko, 1, .inr (.inl f_5))), (n0, .inr (15, fs_23))] := hD
      replace hK : va_K (dC, dI) vwCl [(k1a, .long), (k1b, .long), (ko, .long)] s := hK
      have hw_25 : (u_22 = 0 ∧ r_21 = 0 ∧ kIn ((xs 1)) 0 2) ∨ (u_22 = 1 ∧ ¬ kIn ((xs 1)) 0 2) := hw; clear hw
      rcases hw_25 with ⟨ehw_25_0, ehw_25_1, hw_25⟩ | ⟨ehw_25_0, hw_25⟩
      · skip
        subst ehw_25_0
        subst ehw_25_1
        exact absurd (kWhat_in.mpr hw_25) hw_7
      · skip
        subst ehw_25_0
        refine lv_istore (lv' := [(6, .int r_21), (5, .int 1), (4, .int 0), (3, .ref qo), (2, .ref n0), (1, .ref c0), (0, .ref b)]) hx hb dL_law_457 hl (by decide) rfl (fun ls hl => ?_)
        refine lv_aload_n hx hb dL_law_459 rfl (lv_at hl 4 rfl) ?_
        have hPc := hP.sub (ws' := [(n0, .inr (15, fs_23))]) [1] rfl
        have hDc := hD.sub (ws' := [(n0, .inr (15, fs_23))]) [1] (by decide) rfl
        have hKc := hK.sub (tys' := []) [] rfl
        have hFc := va_free (wc := [(n0, .inr (15, fs_23))]) hD hS hA [1] rfl
        refine va_calli (va_runV (As := []) (rest := []) ⟨hx, hb, hml, hown, hts⟩ (c_m_thrown l dC dI n0 1 fs_23 (mF.sub hp_24 [0] rfl) H.size) (cwV 0 hts g_law_wv_m_thrown_117 rfl rfl rfl hv_X15_thrown ⟨Nat.le_of_ble_eq_true rfl, Nat.le_of_ble_eq_true rfl⟩) ⟨fun a U g mk q => by obtain ⟨q0, q1, qP, qK, qD, qE0⟩ := q; exact ⟨q0, q1, qP, va_K.moved (u := U) (U := U.calling g mk a) (Vm.Alike.refl U.vm) qK, qD, w_N.same rfl qE0⟩, va_recv hKc hPc (ci := 15) (q0 := 0) rfl rfl, fun U hU hW => ⟨rfl, by rw [hU], by rw [hU]; exact hPc, va_K.moved hW.alike hKc, hDc.weaken (fun _ _ _ _ => trivial), w_N.warm hW hN⟩⟩ rfl rfl hl.1 rfl (lv_room (Nat.le_of_ble_eq_true rfl)) dL_law_460 ⟨(Nat.le_of_ble_eq_true rfl), (Nat.le_of_ble_eq_true rfl)⟩) hS (fun q _ h => hFc q h) hFc (fun r_26 u t H1 locs1 ht hvm hw hB hz1 hk1 hS1 => ?_)
        obtain ⟨hP1, hK1, hD1⟩ := hB
        rw [ht] at hP1
        have hK1 := va_K.moved hvm.symm hK1
        have hJ := va_join (wr := [(qo, .inl (ko, 1, .inr (.inl f_5)))]) (w1 := []) hP hD [1] [0] rfl rfl (by decide) (by decide) hk1 hFc hP1 hD1
        clear hP hD hPc hDc hKc hFc hz1; try clear hk1
        obtain ⟨hP, hD⟩ := hJ
        replace hK := (hK.sub (tys' := [(k1a, .long), (k1b, .long), (ko, .long)]) [0, 1, 2] rfl).app (hK1.sub (tys' := []) [] rfl)
        clear hP1 hK1 hD1 hvm ht hS; try clear t
        try clear H
        revert hS1
        intro hS
        generalize H1 = H at hP hS ⊢; try clear H1
        replace hP : va_P (dC, dI) vwCl [(qo, .inl (ko, 1, .inr (.inl f_5)))] H := hP
        replace hD : va_D A [(qo, .inl (ko, 1, .inr (.inl f_5)))] := hD
        replace hK : va_K (dC, dI) vwCl [(k1a, .long), (k1b, .long), (ko, .long)] s := hK
        have hw_27 : r_26 = 1 := hw; clear hw
        subst hw_27
        refine lv_iload hx hb dL_law_463 (lv_at hl 1 rfl) ?_
        refine lv_icmp_eq (tgt := 470) hx hb dL_law_465 (by decide) (fun _ => ?_) (fun hc => absurd (by decide) hc)
        refine lv_iload hx hb dL_law_470 (lv_at hl 1 rfl) ?_
        refine lv_if_ne (tgt := 487) hx hb dL_law_472 (by decide) (fun _ => ?_) (fun hc => absurd hc (by decide))
        refine lv_goto (tgt := 2018) hx hb dL_law_487 (by decide) ?_
        exact law_tail C0 hA2 hbA hS (lv_sub hl [2, 6] rfl) (Nat.le_of_ble_eq_true rfl) (Nat.le_of_ble_eq_true rfl)
set_option maxHeartbeats 4000000 in
set_option maxRecDepth 100000 in
/-- the law at a call of term on fresh objects -/
theorem law_case_term {p : Program} {l : Launch} (hlt : l.stackTraces = false) {e : Env} {s : State} {m : MethodId} {below : List Frame} {meth : Method} {c : Code} {b : Nat} {xs : Nat → Int32} (C0 : lw_At p s m meth c b 6 xs) {dC : Nat → ClassId} {dI : Nat → Nat → Nat} {A : Nat → Prop} (hA : ∀ q : Nat, s.heap.size ≤ q → A q) (hA2 : ∀ q : Nat, A q → s.heap.size ≤ q) (hbA : ¬ A b) (hN : w_N s) (hT : w_T A s s.heap) (hSt : w_S A s s.heap) (hC : w_C A s s.heap) {H : Heap} {locs : List Loc} {ls : Array Slot} {c0 : Nat} {n0 : Nat} {qC : Nat} {qr : Nat} {qra : Nat} {qrb : Nat} {k1a : Nat} {k1b : Nat} {qo : Nat} {ko : Nat} {fo : Nat → Int64} {fs_qC : List Value} {fs_qr : List Value} {qfed : Nat} {qf : Nat} {qfd : Nat} {qs : Nat} {qk : Nat} {a3 : Nat} {k3 : Nat} {fs_qf : List Value} {fs_c0 : List Value} {fs_n0 : List Value} (hP : va_P (dC, dI) vwCl [(c0, .inr (11, fs_c0)), (qC, .inr (2, fs_qC)), (qr, .inr (6, fs_qr)), (qra, .inl (k1a, 16, .inr (.inl (fun _ => 0)))), (qrb, .inl (k1b, 16, .inr (.inl (fun _ => 0)))), (qo, .inl (ko, 1, .inr (.inl fo))), (n0, .inr (15, fs_n0)), (qf, .inr (13, fs_qf)), (a3, .inl (k3, 128, .inl (fun _ => 0)))] H) (hD : va_D A [(c0, .inr (11, fs_c0)), (qC, .inr (2, fs_qC)), (qr, .inr (6, fs_qr)), (qra, .inl (k1a, 16, .inr (.inl (fun _ => 0)))), (qrb, .inl (k1b, 16, .inr (.inl (fun _ => 0)))), (qo, .inl (ko, 1, .inr (.inl fo))), (n0, .inr (15, fs_n0)), (qf, .inr (13, fs_qf)), (a3, .inl (k3, 128, .inl (fun _ => 0)))]) (hK : va_K (dC, dI) vwCl [(k1a, .long), (k1b, .long), (ko, .long), (k3, .int)] s) (hS : va_S A s.heap H locs) (hl : lv_has ls 8 [(4, .int 0), (3, .ref qo), (2, .ref n0), (1, .ref c0), (0, .ref b)]) (hF_c0 : mF 19 [(7, .ref qC)] fs_c0) (hF_qC : mF 13 [(2, .ref qr), (8, .int 0)] fs_qC) (hF_qr : mF 3 [(0, .ref qra), (1, .ref qrb), (2, .int 0)] fs_qr) (hF_n0 : mF 89 [(0, .int 0), (18, .int 0), (19, .int 0), (20, .int (-1)), (21, .int 0), (22, .int 0), (23, .int 0), (24, .int 0), (25, .int 0), (27, .int 0), (28, .int 0), (29, .int 0), (35, .int 0), (17, .int (-1)), (26, .ref qfed), (30, .ref qf), (31, .ref qfd), (33, .ref qs), (36, .ref qk)] fs_n0) (hF_qf : mF 5 [(4, .int 0), (2, .ref a3)] fs_qf) : W p l e room_1 s m #[Value.ref b] below meth c H locs 15894 3343160 (lw_Z below #[Value.ref b] s) (F0 m 490 ls []) := by
  have hx := C0.1; have hb := C0.2.1; have hml := C0.2.2.2.1; have hown := C0.2.2.2.2.1; have hts := C0.2.2.2.2.2.1; have hX := C0.2.2.2.2.2.2.1; have hbl := C0.2.2.2.2.2.2.2.1; have hlocks := C0.2.2.2.2.2.2.2.2.1
  refine lv_aload_n hx hb dL_law_490 rfl (lv_at hl 3 rfl) ?_
  refine lv_aload_n hx hb dL_law_491 rfl (lv_at hl 4 rfl) ?_
  refine lv_iload hx hb dL_law_492 (lv_at hl 0 rfl) ?_
  refine lv_iconst (v := 1) hx hb dL_law_494 (by decide) ?_
  refine lv_iadd hx hb dL_law_495 ?_
  refine lv_topi (fun v_1 ev_1 => ?_)
  have ev_1 : v_1 = 1 := ev_1.trans (by decide)
  subst ev_1
  refine va_sld hx hb hX hbl hbA hS (by exact fun h => by rcases h with h | h <;> revert h <;> decide) dL_law_496 ?_
  refine lv_topi (fun v_2 ev_2 => ?_)
  have ev_2 : v_2 = xs 1 := ev_2
  subst ev_2
  refine lv_aload_n hx hb dL_law_497 rfl (lv_at hl 1 rfl) ?_
  have hPc := hP.sub (ws' := [(c0, .inr (11, fs_c0)), (qC, .inr (2, fs_qC)), (qr, .inr (6, fs_qr)), (qra, .inl (k1a, 16, .inr (.inl (fun _ => 0)))), (qrb, .inl (k1b, 16, .inr (.inl (fun _ => 0)))), (qo, .inl (ko, 1, .inr (.inl fo)))]) [0, 1, 2, 3, 4, 5] rfl
  have hDc := hD.sub (ws' := [(c0, .inr (11, fs_c0)), (qC, .inr (2, fs_qC)), (qr, .inr (6, fs_qr)), (qra, .inl (k1a, 16, .inr (.inl (fun _ => 0)))), (qrb, .inl (k1b, 16, .inr (.inl (fun _ => 0)))), (qo, .inl (ko, 1, .inr (.inl fo)))]) [0, 1, 2, 3, 4, 5] (by decide) rfl
  have hKc := hK.sub (tys' := [(k1a, .long), (k1b, .long), (ko, .long)]) [0, 1, 2] rfl
  have hFc := va_free (wc := [(c0, .inr (11, fs_c0)), (qC, .inr (2, fs_qC)), (qr, .inr (6, fs_qr)), (qra, .inl (k1a, 16, .inr (.inl (fun _ => 0)))), (qrb, .inl (k1b, 16, .inr (.inl (fun _ => 0)))), (qo, .inl (ko, 1, .inr (.inl fo)))]) hD hS hA [0, 1, 2, 3, 4, 5] rfl
  refine vx_calli (vx_runSX (As := [.ref c0, .int (xs 1), .ref qo]) (rest := []) ⟨hx, hb, hml, hown, hts⟩ (c_l_term l hlt dC dI c0 qC qr qra qrb k1a k1b qo ko ((xs 1)) fo fs_c0 fs_qC fs_qr (mF.sub hF_c0 [0] rfl) (mF.sub hF_qC [0, 1] rfl) (mF.sub hF_qr [0, 1, 2] rfl) H.size) (vx_cwSW 3 hts g_law_wv_l_term_133 rfl rfl rfl hd_L_term ⟨Nat.le_of_ble_eq_true rfl, Nat.le_of_ble_eq_true rfl⟩) ⟨fun a U g mk q => by obtain ⟨q0, q1, qP, qK, qD, qE0, qE1, qE2⟩ := q; exact ⟨q0, q1, qP, va_K.moved (u := U) (U := U.calling g mk a) (Vm.Alike.refl U.vm) qK, qD, w_N.same rfl qE0, w_T.same rfl rfl qE1, w_C.same rfl rfl qE2⟩, fun U hU hW => ⟨rfl, by rw [hU], by rw [hU]; exact hPc, va_K.moved hW.alike hKc, hDc.weaken (fun _ _ _ _ => trivial), w_N.warm hW hN, w_T.go hT hW hS.2.1 hFc hU, w_C.go hC hW hS.2.1 hFc hU⟩⟩ rfl rfl hl.1 rfl (lv_room (Nat.le_of_ble_eq_true rfl)) dL_law_498 ⟨(Nat.le_of_ble_eq_true rfl), (Nat.le_of_ble_eq_true rfl)⟩) hS (fun q _ h => hFc q h) hFc (fun q _ h => hFc q h) (fun E9 ce9 q9 u t H1 locs1 ht hvm hpx hBX hz1 hk1 hS1 hcell9 hv9 hcl9 => ?_) (fun r_3 u_4 t H1 locs1 ht hvm hw hB hz1 hk1 hS1 => ?_)
  · skip
    exact (hpx : False).elim
  · skip
    obtain ⟨f_5, hP1, hK1, hD1, hp_6⟩ := hB
    rw [ht] at hP1
    have hK1 := va_K.moved hvm.symm hK1
    have hJ := va_join (wr := [(n0, .inr (15, fs_n0)), (qf, .inr (13, fs_qf)), (a3, .inl (k3, 128, .inl (fun _ => 0)))]) (w1 := [(qo, .inl (ko, 1, .inr (.inl f_5)))]) hP hD [0, 1, 2, 3, 4, 5] [6, 7, 8] rfl rfl (by decide) (by decide) hk1 hFc hP1 hD1
    clear hP hD hPc hDc hKc hFc hz1; try clear hk1
    obtain ⟨hP, hD⟩ := hJ
    replace hK := (hK.sub (tys' := [(k1a, .long), (k1b, .long), (ko, .long), (k3, .int)]) [0, 1, 2, 3] rfl).app (hK1.sub (tys' := []) [] rfl)
    clear hP1 hK1 hD1 hvm ht hS; try clear t
    try clear H
    revert hS1
    intro hS
    generalize H1 = H at hP hS ⊢; try clear H1
    replace hP : va_P (dC, dI) vwCl [(n0, .inr (15, fs_n0)), (qf, .inr (13, fs_qf)), (a3, .inl (k3, 128, .inl (fun _ => 0))), (qo, .inl (ko, 1, .inr (.inl f_5)))] H := hP
    replace hD : va_D A [(n0, .inr (15, fs_n0)), (qf, .inr (13, fs_qf)), (a3, .inl (k3, 128, .inl (fun _ => 0))), (qo, .inl (ko, 1, .inr (.inl f_5)))] := hD
    replace hK : va_K (dC, dI) vwCl [(k1a, .long), (k1b, .long), (ko, .long), (k3, .int)] s := hK
    have hw_7 : (r_3 = 0 ∧ u_4 = 0 ∧ kDig ((xs 1))) ∨ (r_3 = 1 ∧ ¬ kDig ((xs 1))) := hw; clear hw
    rcases hw_7 with ⟨ehw_7_0, ehw_7_1, hw_7⟩ | ⟨ehw_7_0, hw_7⟩
    · skip
      subst ehw_7_0
      subst ehw_7_1
      refine lv_istore (lv' := [(5, .int 0), (4, .int 0), (3, .ref qo), (2, .ref n0), (1, .ref c0), (0, .ref b)]) hx hb dL_law_501 hl (by decide) rfl (fun ls hl => ?_)
      refine lv_aload_n hx hb dL_law_503 rfl (lv_at hl 3 rfl) ?_
      refine lv_aload_n hx hb dL_law_504 rfl (lv_at hl 5 rfl) ?_
      refine lv_iload hx hb dL_law_505 (lv_at hl 1 rfl) ?_
      refine lv_iconst (v := 1) hx hb dL_law_507 (by decide) ?_
      refine lv_iadd hx hb dL_law_508 ?_
      refine lv_topi (fun v_8 ev_8 => ?_)
      have ev_8 : v_8 = 1 := ev_8.trans (by decide)
      subst ev_8
      refine va_sld hx hb hX hbl hbA hS (by exact fun h => by rcases h with h | h <;> revert h <;> decide) dL_law_509 ?_
      refine lv_topi (fun v_9 ev_9 => ?_)
      have ev_9 : v_9 = xs 1 := ev_9
      subst ev_9
      have hPc := hP.sub (ws' := [(n0, .inr (15, fs_n0)), (qf, .inr (13, fs_qf)), (a3, .inl (k3, 128, .inl (fun _ => 0)))]) [0, 1, 2] rfl
      have hDc := hD.sub (ws' := [(n0, .inr (15, fs_n0)), (qf, .inr (13, fs_qf)), (a3, .inl (k3, 128, .inl (fun _ => 0)))]) [0, 1, 2] (by decide) rfl
      have hKc := hK.sub (tys' := [(k3, .int)]) [3] rfl
      have hFc := va_free (wc := [(n0, .inr (15, fs_n0)), (qf, .inr (13, fs_qf)), (a3, .inl (k3, 128, .inl (fun _ => 0)))]) hD hS hA [0, 1, 2] rfl
      refine va_calli (va_runV (As := [.int (xs 1)]) (rest := []) ⟨hx, hb, hml, hown, hts⟩ (c_m_term l dC dI n0 qfed qf qfd qs qk a3 k3 ((xs 1)) fs_n0 fs_qf (mF.sub hF_n0 [0, 1, 2, 3, 4, 5, 6, 7, 8, 9, 10, 11, 12, 13, 14, 15, 16, 17, 18] rfl) (mF.sub hF_qf [0, 1] rfl) H.size) (cwV 1 hts g_law_wv_m_term_135 rfl rfl rfl hv_X15_term ⟨Nat.le_of_ble_eq_true rfl, Nat.le_of_ble_eq_true rfl⟩) ⟨fun a U g mk q => by obtain ⟨q0, q1, qP, qK, qD, qE0⟩ := q; exact ⟨q0, q1, qP, va_K.moved (u := U) (U := U.calling g mk a) (Vm.Alike.refl U.vm) qK, qD, w_N.same rfl qE0⟩, va_recv hKc hPc (ci := 15) (q0 := 0) rfl rfl, fun U hU hW => ⟨rfl, by rw [hU], by rw [hU]; exact hPc, va_K.moved hW.alike hKc, hDc.weaken (fun _ _ _ _ => trivial), w_N.warm hW hN⟩⟩ rfl rfl hl.1 rfl (lv_room (Nat.le_of_ble_eq_true rfl)) dL_law_510 ⟨(Nat.le_of_ble_eq_true rfl), (Nat.le_of_ble_eq_true rfl)⟩) hS (fun q _ h => hFc q h) hFc (fun r_10 u_11 t H1 locs1 ht hvm hw hB hz1 hk1 hS1 => ?_)
      obtain ⟨fs_12, hP1, hK1, hD1, hp_13⟩ := hB
      rw [ht] at hP1
      have hK1 := va_K.moved hvm.symm hK1
      have hJ := va_join (wr := [(qo, .inl (ko, 1, .inr (.inl f_5)))]) (w1 := [(n0, .inr (15, fs_12))]) hP hD [0, 1, 2] [3] rfl rfl (by decide) (by decide) hk1 hFc hP1 hD1
      clear hP hD hPc hDc hKc hFc hz1; try clear hk1
      obtain ⟨hP, hD⟩ := hJ
      replace hK := (hK.sub (tys' := [(k1a, .long), (k1b, .long), (ko, .long), (k3, .int)]) [0, 1, 2, 3] rfl).app (hK1.sub (tys' := []) [] rfl)
      clear hP1 hK1 hD1 hvm ht hS; try clear t
      try clear H
      revert hS1
      intro hS
      generalize H1 = H at hP hS ⊢; try clear H1
      replace hP : va_P (dC, dI) vwCl [(qo, .inl (ko, 1, .inr (.inl f_5))), (n0, .inr (15, fs_12))] H := hP
      replace hD : va_D A [(qo, .inl (ko, 1, .inr (.inl f_5))), (n0, .inr (15, fs_12))] := hD
      replace hK : va_K (dC, dI) vwCl [(k1a, .long), (k1b, .long), (ko, .long), (k3, .int)] s := hK
      have hw_14 : (u_11 = 0 ∧ r_10 = 0 ∧ kKey ((xs 1))) ∨ (u_11 = 1 ∧ ¬ kKey ((xs 1))) := hw; clear hw
      rcases hw_14 with ⟨ehw_14_0, ehw_14_1, hw_14⟩ | ⟨ehw_14_0, hw_14⟩
      · skip
        subst ehw_14_0
        subst ehw_14_1
        refine lv_istore (lv' := [(6, .int 0), (5, .int 0), (4, .int 0), (3, .ref qo), (2, .ref n0), (1, .ref c0), (0, .ref b)]) hx hb dL_law_513 hl (by decide) rfl (fun ls hl => ?_)
        refine lv_aload_n hx hb dL_law_515 rfl (lv_at hl 4 rfl) ?_
        have hPc := hP.sub (ws' := [(n0, .inr (15, fs_12))]) [1] rfl
        have hDc := hD.sub (ws' := [(n0, .inr (15, fs_12))]) [1] (by decide) rfl
        have hKc := hK.sub (tys' := []) [] rfl
        have hFc := va_free (wc := [(n0, .inr (15, fs_12))]) hD hS hA [1] rfl
        refine va_calli (va_runV (As := []) (rest := []) ⟨hx, hb, hml, hown, hts⟩ (c_m_thrown l dC dI n0 0 fs_12 (mF.sub hp_13 [0] rfl) H.size) (cwV 0 hts g_law_wv_m_thrown_117 rfl rfl rfl hv_X15_thrown ⟨Nat.le_of_ble_eq_true rfl, Nat.le_of_ble_eq_true rfl⟩) ⟨fun a U g mk q => by obtain ⟨q0, q1, qP, qK, qD, qE0⟩ := q; exact ⟨q0, q1, qP, va_K.moved (u := U) (U := U.calling g mk a) (Vm.Alike.refl U.vm) qK, qD, w_N.same rfl qE0⟩, va_recv hKc hPc (ci := 15) (q0 := 0) rfl rfl, fun U hU hW => ⟨rfl, by rw [hU], by rw [hU]; exact hPc, va_K.moved hW.alike hKc, hDc.weaken (fun _ _ _ _ => trivial), w_N.warm hW hN⟩⟩ rfl rfl hl.1 rfl (lv_room (Nat.le_of_ble_eq_true rfl)) dL_law_516 ⟨(Nat.le_of_ble_eq_true rfl), (Nat.le_of_ble_eq_true rfl)⟩) hS (fun q _ h => hFc q h) hFc (fun r_15 u t H1 locs1 ht hvm hw hB hz1 hk1 hS1 => ?_)
        obtain ⟨hP1, hK1, hD1⟩ := hB
        rw [ht] at hP1
        have hK1 := va_K.moved hvm.symm hK1
        have hJ := va_join (wr := [(qo, .inl (ko, 1, .inr (.inl f_5)))]) (w1 := []) hP hD [1] [0] rfl rfl (by decide) (by decide) hk1 hFc hP1 hD1
        clear hP hD hPc hDc hKc hFc hz1; try clear hk1
        obtain ⟨hP, hD⟩ := hJ
        replace hK := (hK.sub (tys' := [(k1a, .long), (k1b, .long), (ko, .long), (k3, .int)]) [0, 1, 2, 3] rfl).app (hK1.sub (tys' := []) [] rfl)
        clear hP1 hK1 hD1 hvm ht hS; try clear t
        try clear H
        revert hS1
        intro hS
        generalize H1 = H at hP hS ⊢; try clear H1
        replace hP : va_P (dC, dI) vwCl [(qo, .inl (ko, 1, .inr (.inl f_5)))] H := hP
        replace hD : va_D A [(qo, .inl (ko, 1, .inr (.inl f_5)))] := hD
        replace hK : va_K (dC, dI) vwCl [(k1a, .long), (k1b, .long), (ko, .long), (k3, .int)] s := hK
        have hw_16 : r_15 = 0 := hw; clear hw
        subst hw_16
        refine lv_iload hx hb dL_law_519 (lv_at hl 1 rfl) ?_
        refine lv_icmp_eq (tgt := 526) hx hb dL_law_521 (by decide) (fun _ => ?_) (fun hc => absurd (by decide) hc)
        refine lv_iload hx hb dL_law_526 (lv_at hl 1 rfl) ?_
        refine lv_if_ne (tgt := 543) hx hb dL_law_528 (by decide) (fun hc => absurd (by decide) hc) (fun _ => ?_)
        refine lv_aload_n hx hb dL_law_531 rfl (lv_at hl 3 rfl) ?_
        refine lv_iconst (v := 0) hx hb dL_law_532 (by decide) ?_
        refine va_lald hx hb hK hP 0 2 rfl rfl (by exact fun h => by rcases h with h | h <;> revert h <;> decide) dL_law_533 ?_
        refine lv_topl (fun v_17 ev_17 => ?_)
        have ev_17 : v_17 = 0 := ev_17.trans hp_6
        subst ev_17
        refine lv_iload hx hb dL_law_534 (lv_at hl 0 rfl) ?_
        refine lv_i2l (v := 0) hx hb dL_law_536 (by decide) ?_
        refine W.lcmp hx hb dL_law_537 ?_
        refine lv_topi (fun v_18 ev_18 => ?_)
        have ev_18 : v_18 = 0 := ev_18.trans (by decide)
        subst ev_18
        refine lv_if_eq (tgt := 543) hx hb dL_law_538 (by decide) (fun _ => ?_) (fun hc => absurd (by decide) hc)
        refine lv_goto (tgt := 2018) hx hb dL_law_543 (by decide) ?_
        exact law_tail C0 hA2 hbA hS (lv_sub hl [2, 6] rfl) (Nat.le_of_ble_eq_true rfl) (Nat.le_of_ble_eq_true rfl)
      · skip
        subst ehw_14_0
        exact absurd (kDig_key.mp hw_7) hw_14
    · skip
      subst ehw_7_0
      refine lv_istore (lv' := [(5, .int 1), (4, .int 0), (3, .ref qo), (2, .ref n0), (1, .ref c0), (0, .ref b)]) hx hb dL_law_501 hl (by decide) rfl (fun ls hl => ?_)
      refine lv_aload_n hx hb dL_law_503 rfl (lv_at hl 3 rfl) ?_
      refine lv_aload_n hx hb dL_law_504 rfl (lv_at hl 5 rfl) ?_
      refine lv_iload hx hb dL_law_505 (lv_at hl 1 rfl) ?_
      refine lv_iconst (v := 1) hx hb dL_law_507 (by decide) ?_
      refine lv_iadd hx hb dL_law_508 ?_
      refine lv_topi (fun v_19 ev_19 => ?_)
      have ev_19 : v_19 = 1 := ev_19.trans (by decide)
      subst ev_19
      refine va_sld hx hb hX hbl hbA hS (by exact fun h => by rcases h with h | h <;> revert h <;> decide) dL_law_509 ?_
      refine lv_topi (fun v_20 ev_20 => ?_)
      have ev_20 : v_20 = xs 1 := ev_20
      subst ev_20
      have hPc := hP.sub (ws' := [(n0, .inr (15, fs_n0)), (qf, .inr (13, fs_qf)), (a3, .inl (k3, 128, .inl (fun _ => 0)))]) [0, 1, 2] rfl
      have hDc := hD.sub (ws' := [(n0, .inr (15, fs_n0)), (qf, .inr (13, fs_qf)), (a3, .inl (k3, 128, .inl (fun _ => 0)))]) [0, 1, 2] (by decide) rfl
      have hKc := hK.sub (tys' := [(k3, .int)]) [3] rfl
      have hFc := va_free (wc := [(n0, .inr (15, fs_n0)), (qf, .inr (13, fs_qf)), (a3, .inl (k3, 128, .inl (fun _ => 0)))]) hD hS hA [0, 1, 2] rfl
      refine va_calli (va_runV (As := [.int (xs 1)]) (rest := []) ⟨hx, hb, hml, hown, hts⟩ (c_m_term l dC dI n0 qfed qf qfd qs qk a3 k3 ((xs 1)) fs_n0 fs_qf (mF.sub hF_n0 [0, 1, 2, 3, 4, 5, 6, 7, 8, 9, 10, 11, 12, 13, 14, 15, 16, 17, 18] rfl) (mF.sub hF_qf [0, 1] rfl) H.size) (cwV 1 hts g_law_wv_m_term_135 rfl rfl rfl hv_X15_term ⟨Nat.le_of_ble_eq_true rfl, Nat.le_of_ble_eq_true rfl⟩) ⟨fun a U g mk q => by obtain ⟨q0, q1, qP, qK, qD, qE0⟩ := q; exact ⟨q0, q1, qP, va_K.moved (u := U) (U := U.calling g mk a) (Vm.Alike.refl U.vm) qK, qD, w_N.same rfl qE0⟩, va_recv hKc hPc (ci := 15) (q0 := 0) rfl rfl, fun U hU hW => ⟨rfl, by rw [hU], by rw [hU]; exact hPc, va_K.moved hW.alike hKc, hDc.weaken (fun _ _ _ _ => trivial), w_N.warm hW hN⟩⟩ rfl rfl hl.1 rfl (lv_room (Nat.le_of_ble_eq_true rfl)) dL_law_510 ⟨(Nat.le_of_ble_eq_true rfl), (Nat.le_of_ble_eq_true rfl)⟩) hS (fun q _ h => hFc q h) hFc (fun r_21 u_22 t H1 locs1 ht hvm hw hB hz1 hk1 hS1 => ?_)
      obtain ⟨fs_23, hP1, hK1, hD1, hp_24⟩ := hB
      rw [ht] at hP1
      have hK1 := va_K.moved hvm.symm hK1
      have hJ := va_join (wr := [(qo, .inl (ko, 1, .inr (.inl f_5)))]) (w1 := [(n0, .inr (15, fs_23))]) hP hD [0, 1, 2] [3] rfl rfl (by decide) (by decide) hk1 hFc hP1 hD1
      clear hP hD hPc hDc hKc hFc hz1; try clear hk1
      obtain ⟨hP, hD⟩ := hJ
      replace hK := (hK.sub (tys' := [(k1a, .long), (k1b, .long), (ko, .long), (k3, .int)]) [0, 1, 2, 3] rfl).app (hK1.sub (tys' := []) [] rfl)
      clear hP1 hK1 hD1 hvm ht hS; try clear t
      try clear H
      revert hS1
      intro hS
      generalize H1 = H at hP hS ⊢; try clear H1
      replace hP : va_P (dC, dI) vwCl [(qo, .inl (ko, 1, .inr (.inl f_5))), (n0, .inr (15, fs_23))] H := hP
      replace hD : va_D A [(qo, .inl (ko, 1, .inr (.inl f_5))), (n0, .inr (15, fs_23))] := hD
      replace hK : va_K (dC, dI) vwCl [(k1a, .long), (k1b, .long), (ko, .long), (k3, .int)] s := hK
      have hw_25 : (u_22 = 0 ∧ r_21 = 0 ∧ kKey ((xs 1))) ∨ (u_22 = 1 ∧ ¬ kKey ((xs 1))) := hw; clear hw
      rcases hw_25 with ⟨ehw_25_0, ehw_25_1, hw_25⟩ | ⟨ehw_25_0, hw_25⟩
      · skip
        subst ehw_25_0
        subst ehw_25_1
        exact absurd (kDig_key.mpr hw_25) hw_7
      · skip
        subst ehw_25_0
        refine lv_istore (lv' := [(6, .int r_21), (5, .int 1), (4, .int 0), (3, .ref qo), (2, .ref n0), (1, .ref c0), (0, .ref b)]) hx hb dL_law_513 hl (by decide) rfl (fun ls hl => ?_)
        refine lv_aload_n hx hb dL_law_515 rfl (lv_at hl 4 rfl) ?_
        have hPc := hP.sub (ws' := [(n0, .inr (15, fs_23))]) [1] rfl
        have hDc := hD.sub (ws' := [(n0, .inr (15, fs_23))]) [1] (by decide) rfl
        have hKc := hK.sub (tys' := []) [] rfl
        have hFc := va_free (wc := [(n0, .inr (15, fs_23))]) hD hS hA [1] rfl
        refine va_calli (va_runV (As := []) (rest := []) ⟨hx, hb, hml, hown, hts⟩ (c_m_thrown l dC dI n0 1 fs_23 (mF.sub hp_24 [0] rfl) H.size) (cwV 0 hts g_law_wv_m_thrown_117 rfl rfl rfl hv_X15_thrown ⟨Nat.le_of_ble_eq_true rfl, Nat.le_of_ble_eq_true rfl⟩) ⟨fun a U g mk q => by obtain ⟨q0, q1, qP, qK, qD, qE0⟩ := q; exact ⟨q0, q1, qP, va_K.moved (u := U) (U := U.calling g mk a) (Vm.Alike.refl U.vm) qK, qD, w_N.same rfl qE0⟩, va_recv hKc hPc (ci := 15) (q0 := 0) rfl rfl, fun U hU hW => ⟨rfl, by rw [hU], by rw [hU]; exact hPc, va_K.moved hW.alike hKc, hDc.weaken (fun _ _ _ _ => trivial), w_N.warm hW hN⟩⟩ rfl rfl hl.1 rfl (lv_room (Nat.le_of_ble_eq_true rfl)) dL_law_516 ⟨(Nat.le_of_ble_eq_true rfl), (Nat.le_of_ble_eq_true rfl)⟩) hS (fun q _ h => hFc q h) hFc (fun r_26 u t H1 locs1 ht hvm hw hB hz1 hk1 hS1 => ?_)
        obtain ⟨hP1, hK1, hD1⟩ := hB
        rw [ht] at hP1
        have hK1 := va_K.moved hvm.symm hK1
        have hJ := va_join (wr := [(qo, .inl (ko, 1, .inr (.inl f_5)))]) (w1 := []) hP hD [1] [0] rfl rfl (by decide) (by decide) hk1 hFc hP1 hD1
        clear hP hD hPc hDc hKc hFc hz1; try clear hk1
        obtain ⟨hP, hD⟩ := hJ
        replace hK := (hK.sub (tys' := [(k1a, .long), (k1b, .long), (ko, .long), (k3, .int)]) [0, 1, 2, 3] rfl).app (hK1.sub (tys' := []) [] rfl)
        clear hP1 hK1 hD1 hvm ht hS; try clear t
        try clear H
        revert hS1
        intro hS
        generalize H1 = H at hP hS ⊢; try clear H1
        replace hP : va_P (dC, dI) vwCl [(qo, .inl (ko, 1, .inr (.inl f_5)))] H := hP
        replace hD : va_D A [(qo, .inl (ko, 1, .inr (.inl f_5)))] := hD
        replace hK : va_K (dC, dI) vwCl [(k1a, .long), (k1b, .long), (ko, .long), (k3, .int)] s := hK
        have hw_27 : r_26 = 1 := hw; clear hw
        subst hw_27
        refine lv_iload hx hb dL_law_519 (lv_at hl 1 rfl) ?_
        refine lv_icmp_eq (tgt := 526) hx hb dL_law_521 (by decide) (fun _ => ?_) (fun hc => absurd (by decide) hc)
        refine lv_iload hx hb dL_law_526 (lv_at hl 1 rfl) ?_
        refine lv_if_ne (tgt := 543) hx hb dL_law_528 (by decide) (fun _ => ?_) (fun hc => absurd hc (by decide))
        refine lv_goto (tgt := 2018) hx hb dL_law_543 (by decide) ?_
        exact law_tail C0 hA2 hbA hS (lv_sub hl [2, 6] rfl) (Nat.le_of_ble_eq_true rfl) (Nat.le_of_ble_eq_true rfl)
set_option maxHeartbeats 4000000 in
set_option maxRecDepth 100000 in
/-- the law at a call of rest on fresh objects -/
theorem law_case_rest {p : Program} {l : Launch} (hlt : l.stackTraces = false) {e : Env} {s : State} {m : MethodId} {below : List Frame} {meth : Method} {c : Code} {b : Nat} {xs : Nat → Int32} (C0 : lw_At p s m meth c b 6 xs) {dC : Nat → ClassId} {dI : Nat → Nat → Nat} {A : Nat → Prop} (hA : ∀ q : Nat, s.heap.size ≤ q → A q) (hA2 : ∀ q : Nat, A q → s.heap.size ≤ q) (hbA : ¬ A b) (hN : w_N s) (hT : w_T A s s.heap) (hSt : w_S A s s.heap) (hC : w_C A s s.heap) {H : Heap} {locs : List Loc} {ls : Array Slot} {c0 : Nat} {n0 : Nat} {qC : Nat} {qo : Nat} {fs_qC : List Value} {ko : Nat} {fo : Nat → Int64} {qfed : Nat} {qf : Nat} {qfd : Nat} {qs : Nat} {qk : Nat} {fs_c0 : List Value} {fs_n0 : List Value} (hP : va_P (dC, dI) vwCl [(c0, .inr (11, fs_c0)), (qC, .inr (2, fs_qC)), (qo, .inl (ko, 1, .inr (.inl fo))), (n0, .inr (15, fs_n0))] H) (hD : va_D A [(c0, .inr (11, fs_c0)), (qC, .inr (2, fs_qC)), (qo, .inl (ko, 1, .inr (.inl fo))), (n0, .inr (15, fs_n0))]) (hK : va_K (dC, dI) vwCl [(ko, .long)] s) (hS : va_S A s.heap H locs) (hl : lv_has ls 8 [(4, .int 0), (3, .ref qo), (2, .ref n0), (1, .ref c0), (0, .ref b)]) (hF_c0 : mF 19 [(7, .ref qC)] fs_c0) (hF_qC : mF 13 [(8, .int 0)] fs_qC) (hF_n0 : mF 89 [(0, .int 0), (18, .int 0), (19, .int 0), (20, .int (-1)), (21, .int 0), (22, .int 0), (23, .int 0), (24, .int 0), (25, .int 0), (27, .int 0), (28, .int 0), (29, .int 0), (35, .int 0), (17, .int (-1)), (26, .ref qfed), (30, .ref qf), (31, .ref qfd), (33, .ref qs), (36, .ref qk)] fs_n0) : W p l e room_1 s m #[Value.ref b] below meth c H locs 15894 3343160 (lw_Z below #[Value.ref b] s) (F0 m 546 ls []) := by
  have hx := C0.1; have hb := C0.2.1; have hml := C0.2.2.2.1; have hown := C0.2.2.2.2.1; have hts := C0.2.2.2.2.2.1; have hX := C0.2.2.2.2.2.2.1; have hbl := C0.2.2.2.2.2.2.2.1; have hlocks := C0.2.2.2.2.2.2.2.2.1
  refine lv_aload_n hx hb dL_law_546 rfl (lv_at hl 3 rfl) ?_
  refine lv_aload_n hx hb dL_law_547 rfl (lv_at hl 4 rfl) ?_
  refine lv_iload hx hb dL_law_548 (lv_at hl 0 rfl) ?_
  refine lv_iconst (v := 1) hx hb dL_law_550 (by decide) ?_
  refine lv_iadd hx hb dL_law_551 ?_
  refine lv_topi (fun v_1 ev_1 => ?_)
  have ev_1 : v_1 = 1 := ev_1.trans (by decide)
  subst ev_1
  refine va_sld hx hb hX hbl hbA hS (by exact fun h => by rcases h with h | h <;> revert h <;> decide) dL_law_552 ?_
  refine lv_topi (fun v_2 ev_2 => ?_)
  have ev_2 : v_2 = xs 1 := ev_2
  subst ev_2
  refine lv_aload_n hx hb dL_law_553 rfl (lv_at hl 1 rfl) ?_
  have hPc := hP.sub (ws' := [(c0, .inr (11, fs_c0)), (qC, .inr (2, fs_qC))]) [0, 1] rfl
  have hDc := hD.sub (ws' := [(c0, .inr (11, fs_c0)), (qC, .inr (2, fs_qC))]) [0, 1] (by decide) rfl
  have hKc := hK.sub (tys' := []) [] rfl
  have hFc := va_free (wc := [(c0, .inr (11, fs_c0)), (qC, .inr (2, fs_qC))]) hD hS hA [0, 1] rfl
  refine vx_calli (vx_runSX (As := [.ref c0, .int (xs 1), .ref qo]) (rest := []) ⟨hx, hb, hml, hown, hts⟩ (c_l_rest l hlt dC dI c0 qC qo ((xs 1)) fs_c0 fs_qC (mF.sub hF_c0 [0] rfl) (mF.sub hF_qC [0] rfl) H.size) (vx_cwSW 3 hts g_law_wv_l_rest_136 rfl rfl rfl hd_L_rest ⟨Nat.le_of_ble_eq_true rfl, Nat.le_of_ble_eq_true rfl⟩) ⟨fun a U g mk q => by obtain ⟨q0, q1, qP, qK, qD, qE0, qE1, qE2⟩ := q; exact ⟨q0, q1, qP, va_K.moved (u := U) (U := U.calling g mk a) (Vm.Alike.refl U.vm) qK, qD, w_N.same rfl qE0, w_T.same rfl rfl qE1, w_C.same rfl rfl qE2⟩, fun U hU hW => ⟨rfl, by rw [hU], by rw [hU]; exact hPc, va_K.moved hW.alike hKc, hDc.weaken (fun _ _ _ _ => trivial), w_N.warm hW hN, w_T.go hT hW hS.2.1 hFc hU, w_C.go hC hW hS.2.1 hFc hU⟩⟩ rfl rfl hl.1 rfl (lv_room (Nat.le_of_ble_eq_true rfl)) dL_law_554 ⟨(Nat.le_of_ble_eq_true rfl), (Nat.le_of_ble_eq_true rfl)⟩) hS (fun q _ h => hFc q h) hFc (fun q _ h => hFc q h) (fun E9 ce9 q9 u t H1 locs1 ht hvm hpx hBX hz1 hk1 hS1 hcell9 hv9 hcl9 => ?_) (fun r_3 u t H1 locs1 ht hvm hw hB hz1 hk1 hS1 => ?_)
  · skip
    exact (hpx : False).elim
  · skip
    obtain ⟨hP1, hK1, hD1⟩ := hB
    rw [ht] at hP1
    have hK1 := va_K.moved hvm.symm hK1
    have hJ := va_join (wr := [(qo, .inl (ko, 1, .inr (.inl fo))), (n0, .inr (15, fs_n0))]) (w1 := []) hP hD [0, 1] [2, 3] rfl rfl (by decide) (by decide) hk1 hFc hP1 hD1
    clear hP hD hPc hDc hKc hFc hz1; try clear hk1
    obtain ⟨hP, hD⟩ := hJ
    replace hK := (hK.sub (tys' := [(ko, .long)]) [0] rfl).app (hK1.sub (tys' := []) [] rfl)
    clear hP1 hK1 hD1 hvm ht hS; try clear t
    try clear H
    revert hS1
    intro hS
    generalize H1 = H at hP hS ⊢; try clear H1
    replace hP : va_P (dC, dI) vwCl [(qo, .inl (ko, 1, .inr (.inl fo))), (n0, .inr (15, fs_n0))] H := hP
    replace hD : va_D A [(qo, .inl (ko, 1, .inr (.inl fo))), (n0, .inr (15, fs_n0))] := hD
    replace hK : va_K (dC, dI) vwCl [(ko, .long)] s := hK
    have hw_4 : r_3 = 2 := hw; clear hw
    subst hw_4
    refine lv_istore (lv' := [(5, .int 2), (4, .int 0), (3, .ref qo), (2, .ref n0), (1, .ref c0), (0, .ref b)]) hx hb dL_law_557 hl (by decide) rfl (fun ls hl => ?_)
    refine lv_aload_n hx hb dL_law_559 rfl (lv_at hl 3 rfl) ?_
    refine lv_aload_n hx hb dL_law_560 rfl (lv_at hl 5 rfl) ?_
    refine lv_iload hx hb dL_law_561 (lv_at hl 1 rfl) ?_
    refine lv_iconst (v := 1) hx hb dL_law_563 (by decide) ?_
    refine lv_iadd hx hb dL_law_564 ?_
    refine lv_topi (fun v_5 ev_5 => ?_)
    have ev_5 : v_5 = 1 := ev_5.trans (by decide)
    subst ev_5
    refine va_sld hx hb hX hbl hbA hS (by exact fun h => by rcases h with h | h <;> revert h <;> decide) dL_law_565 ?_
    refine lv_topi (fun v_6 ev_6 => ?_)
    have ev_6 : v_6 = xs 1 := ev_6
    subst ev_6
    have hPc := hP.sub (ws' := [(n0, .inr (15, fs_n0))]) [1] rfl
    have hDc := hD.sub (ws' := [(n0, .inr (15, fs_n0))]) [1] (by decide) rfl
    have hKc := hK.sub (tys' := []) [] rfl
    have hFc := va_free (wc := [(n0, .inr (15, fs_n0))]) hD hS hA [1] rfl
    refine va_calli (va_runV (As := [.int (xs 1)]) (rest := []) ⟨hx, hb, hml, hown, hts⟩ (c_m_rest l dC dI n0 qfed qf qfd qs qk ((xs 1)) fs_n0 (mF.sub hF_n0 [0, 1, 2, 3, 4, 5, 6, 7, 8, 9, 10, 11, 12, 13, 14, 15, 16, 17, 18] rfl) H.size) (cwV 1 hts g_law_wv_m_rest_138 rfl rfl rfl hv_X15_rest ⟨Nat.le_of_ble_eq_true rfl, Nat.le_of_ble_eq_true rfl⟩) ⟨fun a U g mk q => by obtain ⟨q0, q1, qP, qK, qD, qE0⟩ := q; exact ⟨q0, q1, qP, va_K.moved (u := U) (U := U.calling g mk a) (Vm.Alike.refl U.vm) qK, qD, w_N.same rfl qE0⟩, va_recv hKc hPc (ci := 15) (q0 := 0) rfl rfl, fun U hU hW => ⟨rfl, by rw [hU], by rw [hU]; exact hPc, va_K.moved hW.alike hKc, hDc.weaken (fun _ _ _ _ => trivial), w_N.warm hW hN⟩⟩ rfl rfl hl.1 rfl (lv_room (Nat.le_of_ble_eq_true rfl)) dL_law_566 ⟨(Nat.le_of_ble_eq_true rfl), (Nat.le_of_ble_eq_true rfl)⟩) hS (fun q _ h => hFc q h) hFc (fun r_7 u t H1 locs1 ht hvm hw hB hz1 hk1 hS1 => ?_)
    obtain ⟨fs_8, hP1, hK1, hD1, hp_9⟩ := hB
    rw [ht] at hP1
    have hK1 := va_K.moved hvm.symm hK1
    have hJ := va_join (wr := [(qo, .inl (ko, 1, .inr (.inl fo)))]) (w1 := [(n0, .inr (15, fs_8))]) hP hD [1] [0] rfl rfl (by decide) (by decide) hk1 hFc hP1 hD1
    clear hP hD hPc hDc hKc hFc hz1; try clear hk1
    obtain ⟨hP, hD⟩ := hJ
    replace hK := (hK.sub (tys' := [(ko, .long)]) [0] rfl).app (hK1.sub (tys' := []) [] rfl)
    clear hP1 hK1 hD1 hvm ht hS; try clear t
    try clear H
    revert hS1
    intro hS
    generalize H1 = H at hP hS ⊢; try clear H1
    replace hP : va_P (dC, dI) vwCl [(qo, .inl (ko, 1, .inr (.inl fo))), (n0, .inr (15, fs_8))] H := hP
    replace hD : va_D A [(qo, .inl (ko, 1, .inr (.inl fo))), (n0, .inr (15, fs_8))] := hD
    replace hK : va_K (dC, dI) vwCl [(ko, .long)] s := hK
    have hw_10 : True := hw; clear hw
    refine lv_istore (lv' := [(6, .int r_7), (5, .int 2), (4, .int 0), (3, .ref qo), (2, .ref n0), (1, .ref c0), (0, .ref b)]) hx hb dL_law_569 hl (by decide) rfl (fun ls hl => ?_)
    refine lv_aload_n hx hb dL_law_571 rfl (lv_at hl 4 rfl) ?_
    have hPc := hP.sub (ws' := [(n0, .inr (15, fs_8))]) [1] rfl
    have hDc := hD.sub (ws' := [(n0, .inr (15, fs_8))]) [1] (by decide) rfl
    have hKc := hK.sub (tys' := []) [] rfl
    have hFc := va_free (wc := [(n0, .inr (15, fs_8))]) hD hS hA [1] rfl
    refine va_calli (va_runV (As := []) (rest := []) ⟨hx, hb, hml, hown, hts⟩ (c_m_thrown l dC dI n0 2 fs_8 (mF.sub hp_9 [0] rfl) H.size) (cwV 0 hts g_law_wv_m_thrown_117 rfl rfl rfl hv_X15_thrown ⟨Nat.le_of_ble_eq_true rfl, Nat.le_of_ble_eq_true rfl⟩) ⟨fun a U g mk q => by obtain ⟨q0, q1, qP, qK, qD, qE0⟩ := q; exact ⟨q0, q1, qP, va_K.moved (u := U) (U := U.calling g mk a) (Vm.Alike.refl U.vm) qK, qD, w_N.same rfl qE0⟩, va_recv hKc hPc (ci := 15) (q0 := 0) rfl rfl, fun U hU hW => ⟨rfl, by rw [hU], by rw [hU]; exact hPc, va_K.moved hW.alike hKc, hDc.weaken (fun _ _ _ _ => trivial), w_N.warm hW hN⟩⟩ rfl rfl hl.1 rfl (lv_room (Nat.le_of_ble_eq_true rfl)) dL_law_572 ⟨(Nat.le_of_ble_eq_true rfl), (Nat.le_of_ble_eq_true rfl)⟩) hS (fun q _ h => hFc q h) hFc (fun r_11 u t H1 locs1 ht hvm hw hB hz1 hk1 hS1 => ?_)
    obtain ⟨hP1, hK1, hD1⟩ := hB
    rw [ht] at hP1
    have hK1 := va_K.moved hvm.symm hK1
    have hJ := va_join (wr := [(qo, .inl (ko, 1, .inr (.inl fo)))]) (w1 := []) hP hD [1] [0] rfl rfl (by decide) (by decide) hk1 hFc hP1 hD1
    clear hP hD hPc hDc hKc hFc hz1; try clear hk1
    obtain ⟨hP, hD⟩ := hJ
    replace hK := (hK.sub (tys' := [(ko, .long)]) [0] rfl).app (hK1.sub (tys' := []) [] rfl)
    clear hP1 hK1 hD1 hvm ht hS; try clear t
    try clear H
    revert hS1
    intro hS
    generalize H1 = H at hP hS ⊢; try clear H1
    replace hP : va_P (dC, dI) vwCl [(qo, .inl (ko, 1, .inr (.inl fo)))] H := hP
    replace hD : va_D A [(qo, .inl (ko, 1, .inr (.inl fo)))] := hD
    replace hK : va_K (dC, dI) vwCl [(ko, .long)] s := hK
    have hw_12 : r_11 = 2 := hw; clear hw
    subst hw_12
    refine lv_iload hx hb dL_law_575 (lv_at hl 1 rfl) ?_
    refine lv_icmp_eq (tgt := 582) hx hb dL_law_577 (by decide) (fun _ => ?_) (fun hc => absurd (by decide) hc)
    refine lv_iload hx hb dL_law_582 (lv_at hl 1 rfl) ?_
    refine lv_if_ne (tgt := 599) hx hb dL_law_584 (by decide) (fun _ => ?_) (fun hc => absurd hc (by decide))
    refine lv_goto (tgt := 2018) hx hb dL_law_599 (by decide) ?_
    exact law_tail C0 hA2 hbA hS (lv_sub hl [2, 6] rfl) (Nat.le_of_ble_eq_true rfl) (Nat.le_of_ble_eq_true rfl)
set_option maxHeartbeats 4000000 in
set_option maxRecDepth 100000 in
/-- the law at a call of leaves on fresh objects -/
theorem law_case_leaves {p : Program} {l : Launch} (hlt : l.stackTraces = false) {e : Env} {s : State} {m : MethodId} {below : List Frame} {meth : Method} {c : Code} {b : Nat} {xs : Nat → Int32} (C0 : lw_At p s m meth c b 6 xs) {dC : Nat → ClassId} {dI : Nat → Nat → Nat} {A : Nat → Prop} (hA : ∀ q : Nat, s.heap.size ≤ q → A q) (hA2 : ∀ q : Nat, A q → s.heap.size ≤ q) (hbA : ¬ A b) (hN : w_N s) (hT : w_T A s s.heap) (hSt : w_S A s s.heap) (hC : w_C A s s.heap) {H : Heap} {locs : List Loc} {ls : Array Slot} {c0 : Nat} {n0 : Nat} {qC : Nat} {qo : Nat} {fs_qC : List Value} {ko : Nat} {fo : Nat → Int64} {qfed : Nat} {qf : Nat} {qfd : Nat} {qs : Nat} {qk : Nat} {fs_c0 : List Value} {fs_n0 : List Value} (hP : va_P (dC, dI) vwCl [(c0, .inr (11, fs_c0)), (qC, .inr (2, fs_qC)), (qo, .inl (ko, 1, .inr (.inl fo))), (n0, .inr (15, fs_n0))] H) (hD : va_D A [(c0, .inr (11, fs_c0)), (qC, .inr (2, fs_qC)), (qo, .inl (ko, 1, .inr (.inl fo))), (n0, .inr (15, fs_n0))]) (hK : va_K (dC, dI) vwCl [(ko, .long)] s) (hS : va_S A s.heap H locs) (hl : lv_has ls 8 [(4, .int 0), (3, .ref qo), (2, .ref n0), (1, .ref c0), (0, .ref b)]) (hF_c0 : mF 19 [(7, .ref qC)] fs_c0) (hF_qC : mF 13 [(8, .int 0)] fs_qC) (hF_n0 : mF 89 [(0, .int 0), (18, .int 0), (19, .int 0), (20, .int (-1)), (21, .int 0), (22, .int 0), (23, .int 0), (24, .int 0), (25, .int 0), (27, .int 0), (28, .int 0), (29, .int 0), (35, .int 0), (17, .int (-1)), (26, .ref qfed), (30, .ref qf), (31, .ref qfd), (33, .ref qs), (36, .ref qk)] fs_n0) : W p l e room_1 s m #[Value.ref b] below meth c H locs 15894 3343160 (lw_Z below #[Value.ref b] s) (F0 m 602 ls []) := by
  have hx := C0.1; have hb := C0.2.1; have hml := C0.2.2.2.1; have hown := C0.2.2.2.2.1; have hts := C0.2.2.2.2.2.1; have hX := C0.2.2.2.2.2.2.1; have hbl := C0.2.2.2.2.2.2.2.1; have hlocks := C0.2.2.2.2.2.2.2.2.1
  refine lv_aload_n hx hb dL_law_602 rfl (lv_at hl 3 rfl) ?_
  refine lv_aload_n hx hb dL_law_603 rfl (lv_at hl 1 rfl) ?_
  have hPc := hP.sub (ws' := [(c0, .inr (11, fs_c0)), (qC, .inr (2, fs_qC))]) [0, 1] rfl
  have hDc := hD.sub (ws' := [(c0, .inr (11, fs_c0)), (qC, .inr (2, fs_qC))]) [0, 1] (by decide) rfl
  have hKc := hK.sub (tys' := []) [] rfl
  have hFc := va_free (wc := [(c0, .inr (11, fs_c0)), (qC, .inr (2, fs_qC))]) hD hS hA [0, 1] rfl
  refine vx_calli (vx_runSX (As := [.ref c0, .ref qo]) (rest := []) ⟨hx, hb, hml, hown, hts⟩ (c_l_leaves l hlt dC dI c0 qC qo fs_c0 fs_qC (mF.sub hF_c0 [0] rfl) (mF.sub hF_qC [0] rfl) H.size) (vx_cwSW 2 hts g_law_wv_l_leaves_139 rfl rfl rfl hd_L_leaves ⟨Nat.le_of_ble_eq_true rfl, Nat.le_of_ble_eq_true rfl⟩) ⟨fun a U g mk q => by obtain ⟨q0, q1, qP, qK, qD, qE0, qE1, qE2⟩ := q; exact ⟨q0, q1, qP, va_K.moved (u := U) (U := U.calling g mk a) (Vm.Alike.refl U.vm) qK, qD, w_N.same rfl qE0, w_T.same rfl rfl qE1, w_C.same rfl rfl qE2⟩, fun U hU hW => ⟨rfl, by rw [hU], by rw [hU]; exact hPc, va_K.moved hW.alike hKc, hDc.weaken (fun _ _ _ _ => trivial), w_N.warm hW hN, w_T.go hT hW hS.2.1 hFc hU, w_C.go hC hW hS.2.1 hFc hU⟩⟩ rfl rfl hl.1 rfl (lv_room (Nat.le_of_ble_eq_true rfl)) dL_law_604 ⟨(Nat.le_of_ble_eq_true rfl), (Nat.le_of_ble_eq_true rfl)⟩) hS (fun q _ h => hFc q h) hFc (fun q _ h => hFc q h) (fun E9 ce9 q9 u t H1 locs1 ht hvm hpx hBX hz1 hk1 hS1 hcell9 hv9 hcl9 => ?_) (fun r_1 u t H1 locs1 ht hvm hw hB hz1 hk1 hS1 => ?_)
  · skip
    exact (hpx : False).elim
  · skip
    obtain ⟨hP1, hK1, hD1⟩ := hB
    rw [ht] at hP1
    have hK1 := va_K.moved hvm.symm hK1
    have hJ := va_join (wr := [(qo, .inl (ko, 1, .inr (.inl fo))), (n0, .inr (15, fs_n0))]) (w1 := []) hP hD [0, 1] [2, 3] rfl rfl (by decide) (by decide) hk1 hFc hP1 hD1
    clear hP hD hPc hDc hKc hFc hz1; try clear hk1
    obtain ⟨hP, hD⟩ := hJ
    replace hK := (hK.sub (tys' := [(ko, .long)]) [0] rfl).app (hK1.sub (tys' := []) [] rfl)
    clear hP1 hK1 hD1 hvm ht hS; try clear t
    try clear H
    revert hS1
    intro hS
    generalize H1 = H at hP hS ⊢; try clear H1
    replace hP : va_P (dC, dI) vwCl [(qo, .inl (ko, 1, .inr (.inl fo))), (n0, .inr (15, fs_n0))] H := hP
    replace hD : va_D A [(qo, .inl (ko, 1, .inr (.inl fo))), (n0, .inr (15, fs_n0))] := hD
    replace hK : va_K (dC, dI) vwCl [(ko, .long)] s := hK
    have hw_2 : r_1 = 1 := hw; clear hw
    subst hw_2
    refine lv_istore (lv' := [(5, .int 1), (4, .int 0), (3, .ref qo), (2, .ref n0), (1, .ref c0), (0, .ref b)]) hx hb dL_law_607 hl (by decide) rfl (fun ls hl => ?_)
    refine lv_aload_n hx hb dL_law_609 rfl (lv_at hl 3 rfl) ?_
    have hPc := hP.sub (ws' := [(n0, .inr (15, fs_n0))]) [1] rfl
    have hDc := hD.sub (ws' := [(n0, .inr (15, fs_n0))]) [1] (by decide) rfl
    have hKc := hK.sub (tys' := []) [] rfl
    have hFc := va_free (wc := [(n0, .inr (15, fs_n0))]) hD hS hA [1] rfl
    refine va_calli (va_runV (As := []) (rest := []) ⟨hx, hb, hml, hown, hts⟩ (c_m_leaves l dC dI n0 qfed qf qfd qs qk fs_n0 (mF.sub hF_n0 [0, 1, 2, 3, 4, 5, 6, 7, 8, 9, 10, 11, 12, 13, 14, 15, 16, 17, 18] rfl) H.size) (cwV 0 hts g_law_wv_m_leaves_142 rfl rfl rfl hv_X15_leaves ⟨Nat.le_of_ble_eq_true rfl, Nat.le_of_ble_eq_true rfl⟩) ⟨fun a U g mk q => by obtain ⟨q0, q1, qP, qK, qD, qE0⟩ := q; exact ⟨q0, q1, qP, va_K.moved (u := U) (U := U.calling g mk a) (Vm.Alike.refl U.vm) qK, qD, w_N.same rfl qE0⟩, va_recv hKc hPc (ci := 15) (q0 := 0) rfl rfl, fun U hU hW => ⟨rfl, by rw [hU], by rw [hU]; exact hPc, va_K.moved hW.alike hKc, hDc.weaken (fun _ _ _ _ => trivial), w_N.warm hW hN⟩⟩ rfl rfl hl.1 rfl (lv_room (Nat.le_of_ble_eq_true rfl)) dL_law_610 ⟨(Nat.le_of_ble_eq_true rfl), (Nat.le_of_ble_eq_true rfl)⟩) hS (fun q _ h => hFc q h) hFc (fun r_3 u t H1 locs1 ht hvm hw hB hz1 hk1 hS1 => ?_)
    obtain ⟨fs_4, hP1, hK1, hD1, hp_5⟩ := hB
    rw [ht] at hP1
    have hK1 := va_K.moved hvm.symm hK1
    have hJ := va_join (wr := [(qo, .inl (ko, 1, .inr (.inl fo)))]) (w1 := [(n0, .inr (15, fs_4))]) hP hD [1] [0] rfl rfl (by decide) (by decide) hk1 hFc hP1 hD1
    clear hP hD hPc hDc hKc hFc hz1; try clear hk1
    obtain ⟨hP, hD⟩ := hJ
    replace hK := (hK.sub (tys' := [(ko, .long)]) [0] rfl).app (hK1.sub (tys' := []) [] rfl)
    clear hP1 hK1 hD1 hvm ht hS; try clear t
    try clear H
    revert hS1
    intro hS
    generalize H1 = H at hP hS ⊢; try clear H1
    replace hP : va_P (dC, dI) vwCl [(qo, .inl (ko, 1, .inr (.inl fo))), (n0, .inr (15, fs_4))] H := hP
    replace hD : va_D A [(qo, .inl (ko, 1, .inr (.inl fo))), (n0, .inr (15, fs_4))] := hD
    replace hK : va_K (dC, dI) vwCl [(ko, .long)] s := hK
    have hw_6 : True := hw; clear hw
    refine lv_istore (lv' := [(6, .int r_3), (5, .int 1), (4, .int 0), (3, .ref qo), (2, .ref n0), (1, .ref c0), (0, .ref b)]) hx hb dL_law_613 hl (by decide) rfl (fun ls hl => ?_)
    refine lv_aload_n hx hb dL_law_615 rfl (lv_at hl 4 rfl) ?_
    have hPc := hP.sub (ws' := [(n0, .inr (15, fs_4))]) [1] rfl
    have hDc := hD.sub (ws' := [(n0, .inr (15, fs_4))]) [1] (by decide) rfl
    have hKc := hK.sub (tys' := []) [] rfl
    have hFc := va_free (wc := [(n0, .inr (15, fs_4))]) hD hS hA [1] rfl
    refine va_calli (va_runV (As := []) (rest := []) ⟨hx, hb, hml, hown, hts⟩ (c_m_thrown l dC dI n0 1 fs_4 (mF.sub hp_5 [0] rfl) H.size) (cwV 0 hts g_law_wv_m_thrown_117 rfl rfl rfl hv_X15_thrown ⟨Nat.le_of_ble_eq_true rfl, Nat.le_of_ble_eq_true rfl⟩) ⟨fun a U g mk q => by obtain ⟨q0, q1, qP, qK, qD, qE0⟩ := q; exact ⟨q0, q1, qP, va_K.moved (u := U) (U := U.calling g mk a) (Vm.Alike.refl U.vm) qK, qD, w_N.same rfl qE0⟩, va_recv hKc hPc (ci := 15) (q0 := 0) rfl rfl, fun U hU hW => ⟨rfl, by rw [hU], by rw [hU]; exact hPc, va_K.moved hW.alike hKc, hDc.weaken (fun _ _ _ _ => trivial), w_N.warm hW hN⟩⟩ rfl rfl hl.1 rfl (lv_room (Nat.le_of_ble_eq_true rfl)) dL_law_616 ⟨(Nat.le_of_ble_eq_true rfl), (Nat.le_of_ble_eq_true rfl)⟩) hS (fun q _ h => hFc q h) hFc (fun r_7 u t H1 locs1 ht hvm hw hB hz1 hk1 hS1 => ?_)
    obtain ⟨hP1, hK1, hD1⟩ := hB
    rw [ht] at hP1
    have hK1 := va_K.moved hvm.symm hK1
    have hJ := va_join (wr := [(qo, .inl (ko, 1, .inr (.inl fo)))]) (w1 := []) hP hD [1] [0] rfl rfl (by decide) (by decide) hk1 hFc hP1 hD1
    clear hP hD hPc hDc hKc hFc hz1; try clear hk1
    obtain ⟨hP, hD⟩ := hJ
    replace hK := (hK.sub (tys' := [(ko, .long)]) [0] rfl).app (hK1.sub (tys' := []) [] rfl)
    clear hP1 hK1 hD1 hvm ht hS; try clear t
    try clear H
    revert hS1
    intro hS
    generalize H1 = H at hP hS ⊢; try clear H1
    replace hP : va_P (dC, dI) vwCl [(qo, .inl (ko, 1, .inr (.inl fo)))] H := hP
    replace hD : va_D A [(qo, .inl (ko, 1, .inr (.inl fo)))] := hD
    replace hK : va_K (dC, dI) vwCl [(ko, .long)] s := hK
    have hw_8 : r_7 = 1 := hw; clear hw
    subst hw_8
    refine lv_iload hx hb dL_law_619 (lv_at hl 1 rfl) ?_
    refine lv_icmp_eq (tgt := 626) hx hb dL_law_621 (by decide) (fun _ => ?_) (fun hc => absurd (by decide) hc)
    refine lv_iload hx hb dL_law_626 (lv_at hl 1 rfl) ?_
    refine lv_if_ne (tgt := 650) hx hb dL_law_628 (by decide) (fun _ => ?_) (fun hc => absurd hc (by decide))
    refine lv_goto (tgt := 2018) hx hb dL_law_650 (by decide) ?_
    exact law_tail C0 hA2 hbA hS (lv_sub hl [2, 6] rfl) (Nat.le_of_ble_eq_true rfl) (Nat.le_of_ble_eq_true rfl)
set_option maxHeartbeats 4000000 in
set_option maxRecDepth 100000 in
/-- the law at a call of fields on fresh objects -/
theorem law_case_fields {p : Program} {l : Launch} (hlt : l.stackTraces = false) {e : Env} {s : State} {m : MethodId} {below : List Frame} {meth : Method} {c : Code} {b : Nat} {xs : Nat → Int32} (C0 : lw_At p s m meth c b 6 xs) {dC : Nat → ClassId} {dI : Nat → Nat → Nat} {A : Nat → Prop} (hA : ∀ q : Nat, s.heap.size ≤ q → A q) (hA2 : ∀ q : Nat, A q → s.heap.size ≤ q) (hbA : ¬ A b) (hN : w_N s) (hT : w_T A s s.heap) (hSt : w_S A s s.heap) (hC : w_C A s s.heap) {H : Heap} {locs : List Loc} {ls : Array Slot} {c0 : Nat} {n0 : Nat} {qC : Nat} {qo : Nat} {fs_qC : List Value} {ko : Nat} {fo : Nat → Int64} {qfed : Nat} {qf : Nat} {qfd : Nat} {qs : Nat} {qk : Nat} {fs_c0 : List Value} {fs_n0 : List Value} (hP : va_P (dC, dI) vwCl [(c0, .inr (11, fs_c0)), (qC, .inr (2, fs_qC)), (qo, .inl (ko, 1, .inr (.inl fo))), (n0, .inr (15, fs_n0))] H) (hD : va_D A [(c0, .inr (11, fs_c0)), (qC, .inr (2, fs_qC)), (qo, .inl (ko, 1, .inr (.inl fo))), (n0, .inr (15, fs_n0))]) (hK : va_K (dC, dI) vwCl [(ko, .long)] s) (hS : va_S A s.heap H locs) (hl : lv_has ls 8 [(4, .int 0), (3, .ref qo), (2, .ref n0), (1, .ref c0), (0, .ref b)]) (hF_c0 : mF 19 [(7, .ref qC)] fs_c0) (hF_qC : mF 13 [(8, .int 0)] fs_qC) (hF_n0 : mF 89 [(0, .int 0), (18, .int 0), (19, .int 0), (20, .int (-1)), (21, .int 0), (22, .int 0), (23, .int 0), (24, .int 0), (25, .int 0), (27, .int 0), (28, .int 0), (29, .int 0), (35, .int 0), (17, .int (-1)), (26, .ref qfed), (30, .ref qf), (31, .ref qfd), (33, .ref qs), (36, .ref qk)] fs_n0) : W p l e room_1 s m #[Value.ref b] below meth c H locs 15894 3343160 (lw_Z below #[Value.ref b] s) (F0 m 653 ls []) := by
  have hx := C0.1; have hb := C0.2.1; have hml := C0.2.2.2.1; have hown := C0.2.2.2.2.1; have hts := C0.2.2.2.2.2.1; have hX := C0.2.2.2.2.2.2.1; have hbl := C0.2.2.2.2.2.2.2.1; have hlocks := C0.2.2.2.2.2.2.2.2.1
  refine lv_aload_n hx hb dL_law_653 rfl (lv_at hl 3 rfl) ?_
  refine lv_aload_n hx hb dL_law_654 rfl (lv_at hl 4 rfl) ?_
  refine lv_iload hx hb dL_law_655 (lv_at hl 0 rfl) ?_
  refine lv_iconst (v := 1) hx hb dL_law_657 (by decide) ?_
  refine lv_iadd hx hb dL_law_658 ?_
  refine lv_topi (fun v_1 ev_1 => ?_)
  have ev_1 : v_1 = 1 := ev_1.trans (by decide)
  subst ev_1
  refine va_sld hx hb hX hbl hbA hS (by exact fun h => by rcases h with h | h <;> revert h <;> decide) dL_law_659 ?_
  refine lv_topi (fun v_2 ev_2 => ?_)
  have ev_2 : v_2 = xs 1 := ev_2
  subst ev_2
  refine lv_aload_n hx hb dL_law_660 rfl (lv_at hl 1 rfl) ?_
  have hPc := hP.sub (ws' := [(c0, .inr (11, fs_c0)), (qC, .inr (2, fs_qC))]) [0, 1] rfl
  have hDc := hD.sub (ws' := [(c0, .inr (11, fs_c0)), (qC, .inr (2, fs_qC))]) [0, 1] (by decide) rfl
  have hKc := hK.sub (tys' := []) [] rfl
  have hFc := va_free (wc := [(c0, .inr (11, fs_c0)), (qC, .inr (2, fs_qC))]) hD hS hA [0, 1] rfl
  refine vx_calli (vx_runSX (As := [.ref c0, .int (xs 1), .ref qo]) (rest := []) ⟨hx, hb, hml, hown, hts⟩ (c_l_fields l hlt dC dI c0 qC qo ((xs 1)) fs_c0 fs_qC (mF.sub hF_c0 [0] rfl) (mF.sub hF_qC [0] rfl) H.size) (vx_cwSW 3 hts g_law_wv_l_fields_143 rfl rfl rfl hd_L_fields ⟨Nat.le_of_ble_eq_true rfl, Nat.le_of_ble_eq_true rfl⟩) ⟨fun a U g mk q => by obtain ⟨q0, q1, qP, qK, qD, qE0, qE1, qE2⟩ := q; exact ⟨q0, q1, qP, va_K.moved (u := U) (U := U.calling g mk a) (Vm.Alike.refl U.vm) qK, qD, w_N.same rfl qE0, w_T.same rfl rfl qE1, w_C.same rfl rfl qE2⟩, fun U hU hW => ⟨rfl, by rw [hU], by rw [hU]; exact hPc, va_K.moved hW.alike hKc, hDc.weaken (fun _ _ _ _ => trivial), w_N.warm hW hN, w_T.go hT hW hS.2.1 hFc hU, w_C.go hC hW hS.2.1 hFc hU⟩⟩ rfl rfl hl.1 rfl (lv_room (Nat.le_of_ble_eq_true rfl)) dL_law_661 ⟨(Nat.le_of_ble_eq_true rfl), (Nat.le_of_ble_eq_true rfl)⟩) hS (fun q _ h => hFc q h) hFc (fun q _ h => hFc q h) (fun E9 ce9 q9 u t H1 locs1 ht hvm hpx hBX hz1 hk1 hS1 hcell9 hv9 hcl9 => ?_) (fun r_3 u t H1 locs1 ht hvm hw hB hz1 hk1 hS1 => ?_)
  · skip
    exact (hpx : False).elim
  · skip
    obtain ⟨hP1, hK1, hD1⟩ := hB
    rw [ht] at hP1
    have hK1 := va_K.moved hvm.symm hK1
    have hJ := va_join (wr := [(qo, .inl (ko, 1, .inr (.inl fo))), (n0, .inr (15, fs_n0))]) (w1 := []) hP hD [0, 1] [2, 3] rfl rfl (by decide) (by decide) hk1 hFc hP1 hD1
    clear hP hD hPc hDc hKc hFc hz1; try clear hk1
    obtain ⟨hP, hD⟩ := hJ
    replace hK := (hK.sub (tys' := [(ko, .long)]) [0] rfl).app (hK1.sub (tys' := []) [] rfl)
    clear hP1 hK1 hD1 hvm ht hS; try clear t
    try clear H
    revert hS1
    intro hS
    generalize H1 = H at hP hS ⊢; try clear H1
    replace hP : va_P (dC, dI) vwCl [(qo, .inl (ko, 1, .inr (.inl fo))), (n0, .inr (15, fs_n0))] H := hP
    replace hD : va_D A [(qo, .inl (ko, 1, .inr (.inl fo))), (n0, .inr (15, fs_n0))] := hD
    replace hK : va_K (dC, dI) vwCl [(ko, .long)] s := hK
    have hw_4 : r_3 = 2 := hw; clear hw
    subst hw_4
    refine lv_istore (lv' := [(5, .int 2), (4, .int 0), (3, .ref qo), (2, .ref n0), (1, .ref c0), (0, .ref b)]) hx hb dL_law_664 hl (by decide) rfl (fun ls hl => ?_)
    refine lv_aload_n hx hb dL_law_666 rfl (lv_at hl 3 rfl) ?_
    refine lv_aload_n hx hb dL_law_667 rfl (lv_at hl 5 rfl) ?_
    refine lv_iload hx hb dL_law_668 (lv_at hl 1 rfl) ?_
    refine lv_iconst (v := 1) hx hb dL_law_670 (by decide) ?_
    refine lv_iadd hx hb dL_law_671 ?_
    refine lv_topi (fun v_5 ev_5 => ?_)
    have ev_5 : v_5 = 1 := ev_5.trans (by decide)
    subst ev_5
    refine va_sld hx hb hX hbl hbA hS (by exact fun h => by rcases h with h | h <;> revert h <;> decide) dL_law_672 ?_
    refine lv_topi (fun v_6 ev_6 => ?_)
    have ev_6 : v_6 = xs 1 := ev_6
    subst ev_6
    have hPc := hP.sub (ws' := [(n0, .inr (15, fs_n0))]) [1] rfl
    have hDc := hD.sub (ws' := [(n0, .inr (15, fs_n0))]) [1] (by decide) rfl
    have hKc := hK.sub (tys' := []) [] rfl
    have hFc := va_free (wc := [(n0, .inr (15, fs_n0))]) hD hS hA [1] rfl
    refine va_calli (va_runV (As := [.int (xs 1)]) (rest := []) ⟨hx, hb, hml, hown, hts⟩ (c_m_fields l dC dI n0 qfed qf qfd qs qk ((xs 1)) fs_n0 (mF.sub hF_n0 [0, 1, 2, 3, 4, 5, 6, 7, 8, 9, 10, 11, 12, 13, 14, 15, 16, 17, 18] rfl) H.size) (cwV 1 hts g_law_wv_m_fields_145 rfl rfl rfl hv_X15_fields ⟨Nat.le_of_ble_eq_true rfl, Nat.le_of_ble_eq_true rfl⟩) ⟨fun a U g mk q => by obtain ⟨q0, q1, qP, qK, qD, qE0⟩ := q; exact ⟨q0, q1, qP, va_K.moved (u := U) (U := U.calling g mk a) (Vm.Alike.refl U.vm) qK, qD, w_N.same rfl qE0⟩, va_recv hKc hPc (ci := 15) (q0 := 0) rfl rfl, fun U hU hW => ⟨rfl, by rw [hU], by rw [hU]; exact hPc, va_K.moved hW.alike hKc, hDc.weaken (fun _ _ _ _ => trivial), w_N.warm hW hN⟩⟩ rfl rfl hl.1 rfl (lv_room (Nat.le_of_ble_eq_true rfl)) dL_law_673 ⟨(Nat.le_of_ble_eq_true rfl), (Nat.le_of_ble_eq_true rfl)⟩) hS (fun q _ h => hFc q h) hFc (fun r_7 u t H1 locs1 ht hvm hw hB hz1 hk1 hS1 => ?_)
    obtain ⟨fs_8, hP1, hK1, hD1, hp_9⟩ := hB
    rw [ht] at hP1
    have hK1 := va_K.moved hvm.symm hK1
    have hJ := va_join (wr := [(qo, .inl (ko, 1, .inr (.inl fo)))]) (w1 := [(n0, .inr (15, fs_8))]) hP hD [1] [0] rfl rfl (by decide) (by decide) hk1 hFc hP1 hD1
    clear hP hD hPc hDc hKc hFc hz1; try clear hk1
    obtain ⟨hP, hD⟩ := hJ
    replace hK := (hK.sub (tys' := [(ko, .long)]) [0] rfl).app (hK1.sub (tys' := []) [] rfl)
    clear hP1 hK1 hD1 hvm ht hS; try clear t
    try clear H
    revert hS1
    intro hS
    generalize H1 = H at hP hS ⊢; try clear H1
    replace hP : va_P (dC, dI) vwCl [(qo, .inl (ko, 1, .inr (.inl fo))), (n0, .inr (15, fs_8))] H := hP
    replace hD : va_D A [(qo, .inl (ko, 1, .inr (.inl fo))), (n0, .inr (15, fs_8))] := hD
    replace hK : va_K (dC, dI) vwCl [(ko, .long)] s := hK
    have hw_10 : True := hw; clear hw
    refine lv_istore (lv' := [(6, .int r_7), (5, .int 2), (4, .int 0), (3, .ref qo), (2, .ref n0), (1, .ref c0), (0, .ref b)]) hx hb dL_law_676 hl (by decide) rfl (fun ls hl => ?_)
    refine lv_aload_n hx hb dL_law_678 rfl (lv_at hl 4 rfl) ?_
    have hPc := hP.sub (ws' := [(n0, .inr (15, fs_8))]) [1] rfl
    have hDc := hD.sub (ws' := [(n0, .inr (15, fs_8))]) [1] (by decide) rfl
    have hKc := hK.sub (tys' := []) [] rfl
    have hFc := va_free (wc := [(n0, .inr (15, fs_8))]) hD hS hA [1] rfl
    refine va_calli (va_runV (As := []) (rest := []) ⟨hx, hb, hml, hown, hts⟩ (c_m_thrown l dC dI n0 2 fs_8 (mF.sub hp_9 [0] rfl) H.size) (cwV 0 hts g_law_wv_m_thrown_117 rfl rfl rfl hv_X15_thrown ⟨Nat.le_of_ble_eq_true rfl, Nat.le_of_ble_eq_true rfl⟩) ⟨fun a U g mk q => by obtain ⟨q0, q1, qP, qK, qD, qE0⟩ := q; exact ⟨q0, q1, qP, va_K.moved (u := U) (U := U.calling g mk a) (Vm.Alike.refl U.vm) qK, qD, w_N.same rfl qE0⟩, va_recv hKc hPc (ci := 15) (q0 := 0) rfl rfl, fun U hU hW => ⟨rfl, by rw [hU], by rw [hU]; exact hPc, va_K.moved hW.alike hKc, hDc.weaken (fun _ _ _ _ => trivial), w_N.warm hW hN⟩⟩ rfl rfl hl.1 rfl (lv_room (Nat.le_of_ble_eq_true rfl)) dL_law_679 ⟨(Nat.le_of_ble_eq_true rfl), (Nat.le_of_ble_eq_true rfl)⟩) hS (fun q _ h => hFc q h) hFc (fun r_11 u t H1 locs1 ht hvm hw hB hz1 hk1 hS1 => ?_)
    obtain ⟨hP1, hK1, hD1⟩ := hB
    rw [ht] at hP1
    have hK1 := va_K.moved hvm.symm hK1
    have hJ := va_join (wr := [(qo, .inl (ko, 1, .inr (.inl fo)))]) (w1 := []) hP hD [1] [0] rfl rfl (by decide) (by decide) hk1 hFc hP1 hD1
    clear hP hD hPc hDc hKc hFc hz1; try clear hk1
    obtain ⟨hP, hD⟩ := hJ
    replace hK := (hK.sub (tys' := [(ko, .long)]) [0] rfl).app (hK1.sub (tys' := []) [] rfl)
    clear hP1 hK1 hD1 hvm ht hS; try clear t
    try clear H
    revert hS1
    intro hS
    generalize H1 = H at hP hS ⊢; try clear H1
    replace hP : va_P (dC, dI) vwCl [(qo, .inl (ko, 1, .inr (.inl fo)))] H := hP
    replace hD : va_D A [(qo, .inl (ko, 1, .inr (.inl fo)))] := hD
    replace hK : va_K (dC, dI) vwCl [(ko, .long)] s := hK
    have hw_12 : r_11 = 2 := hw; clear hw
    subst hw_12
    refine lv_iload hx hb dL_law_682 (lv_at hl 1 rfl) ?_
    refine lv_icmp_eq (tgt := 689) hx hb dL_law_684 (by decide) (fun _ => ?_) (fun hc => absurd (by decide) hc)
    refine lv_iload hx hb dL_law_689 (lv_at hl 1 rfl) ?_
    refine lv_if_ne (tgt := 706) hx hb dL_law_691 (by decide) (fun _ => ?_) (fun hc => absurd hc (by decide))
    refine lv_goto (tgt := 2018) hx hb dL_law_706 (by decide) ?_
    exact law_tail C0 hA2 hbA hS (lv_sub hl [2, 6] rfl) (Nat.le_of_ble_eq_true rfl) (Nat.le_of_ble_eq_true rfl)
set_option maxHeartbeats 4000000 in
set_option maxRecDepth 100000 in
/-- the law at a call of number on fresh objects -/
theorem law_case_number {p : Program} {l : Launch} (hlt : l.stackTraces = false) {e : Env} {s : State} {m : MethodId} {below : List Frame} {meth : Method} {c : Code} {b : Nat} {xs : Nat → Int32} (C0 : lw_At p s m meth c b 6 xs) {dC : Nat → ClassId} {dI : Nat → Nat → Nat} {A : Nat → Prop} (hA : ∀ q : Nat, s.heap.size ≤ q → A q) (hA2 : ∀ q : Nat, A q → s.heap.size ≤ q) (hbA : ¬ A b) (hN : w_N s) (hT : w_T A s s.heap) (hSt : w_S A s s.heap) (hC : w_C A s s.heap) {H : Heap} {locs : List Loc} {ls : Array Slot} {c0 : Nat} {n0 : Nat} {qC : Nat} {qo : Nat} {fs_qC : List Value} {ko : Nat} {fo : Nat → Int64} {qfed : Nat} {qf : Nat} {qfd : Nat} {qs : Nat} {qk : Nat} {fs_c0 : List Value} {fs_n0 : List Value} (hP : va_P (dC, dI) vwCl [(c0, .inr (11, fs_c0)), (qC, .inr (2, fs_qC)), (qo, .inl (ko, 1, .inr (.inl fo))), (n0, .inr (15, fs_n0))] H) (hD : va_D A [(c0, .inr (11, fs_c0)), (qC, .inr (2, fs_qC)), (qo, .inl (ko, 1, .inr (.inl fo))), (n0, .inr (15, fs_n0))]) (hK : va_K (dC, dI) vwCl [(ko, .long)] s) (hS : va_S A s.heap H locs) (hl : lv_has ls 8 [(4, .int 0), (3, .ref qo), (2, .ref n0), (1, .ref c0), (0, .ref b)]) (hF_c0 : mF 19 [(7, .ref qC)] fs_c0) (hF_qC : mF 13 [(8, .int 0)] fs_qC) (hF_n0 : mF 89 [(0, .int 0), (18, .int 0), (19, .int 0), (20, .int (-1)), (21, .int 0), (22, .int 0), (23, .int 0), (24, .int 0), (25, .int 0), (27, .int 0), (28, .int 0), (29, .int 0), (35, .int 0), (17, .int (-1)), (26, .ref qfed), (30, .ref qf), (31, .ref qfd), (33, .ref qs), (36, .ref qk)] fs_n0) : W p l e room_1 s m #[Value.ref b] below meth c H locs 15894 3343160 (lw_Z below #[Value.ref b] s) (F0 m 709 ls []) := by
  have hx := C0.1; have hb := C0.2.1; have hml := C0.2.2.2.1; have hown := C0.2.2.2.2.1; have hts := C0.2.2.2.2.2.1; have hX := C0.2.2.2.2.2.2.1; have hbl := C0.2.2.2.2.2.2.2.1; have hlocks := C0.2.2.2.2.2.2.2.2.1
  refine lv_aload_n hx hb dL_law_709 rfl (lv_at hl 3 rfl) ?_
  refine lv_aload_n hx hb dL_law_710 rfl (lv_at hl 4 rfl) ?_
  refine lv_iload hx hb dL_law_711 (lv_at hl 0 rfl) ?_
  refine lv_iconst (v := 1) hx hb dL_law_713 (by decide) ?_
  refine lv_iadd hx hb dL_law_714 ?_
  refine lv_topi (fun v_1 ev_1 => ?_)
  have ev_1 : v_1 = 1 := ev_1.trans (by decide)
  subst ev_1
  refine va_sld hx hb hX hbl hbA hS (by exact fun h => by rcases h with h | h <;> revert h <;> decide) dL_law_715 ?_
  refine lv_topi (fun v_2 ev_2 => ?_)
  have ev_2 : v_2 = xs 1 := ev_2
  subst ev_2
  refine lv_aload_n hx hb dL_law_716 rfl (lv_at hl 4 rfl) ?_
  refine lv_iload hx hb dL_law_717 (lv_at hl 0 rfl) ?_
  refine lv_iconst (v := 2) hx hb dL_law_719 (by decide) ?_
  refine lv_iadd hx hb dL_law_720 ?_
  refine lv_topi (fun v_3 ev_3 => ?_)
  have ev_3 : v_3 = 2 := ev_3.trans (by decide)
  subst ev_3
  refine va_sld hx hb hX hbl hbA hS (by exact fun h => by rcases h with h | h <;> revert h <;> decide) dL_law_721 ?_
  refine lv_topi (fun v_4 ev_4 => ?_)
  have ev_4 : v_4 = xs 2 := ev_4
  subst ev_4
  refine lv_aload_n hx hb dL_law_722 rfl (lv_at hl 4 rfl) ?_
  refine lv_iload hx hb dL_law_723 (lv_at hl 0 rfl) ?_
  refine lv_iconst (v := 3) hx hb dL_law_725 (by decide) ?_
  refine lv_iadd hx hb dL_law_726 ?_
  refine lv_topi (fun v_5 ev_5 => ?_)
  have ev_5 : v_5 = 3 := ev_5.trans (by decide)
  subst ev_5
  refine va_sld hx hb hX hbl hbA hS (by exact fun h => by rcases h with h | h <;> revert h <;> decide) dL_law_727 ?_
  refine lv_topi (fun v_6 ev_6 => ?_)
  have ev_6 : v_6 = xs 3 := ev_6
  subst ev_6
  refine lv_aload_n hx hb dL_law_728 rfl (lv_at hl 4 rfl) ?_
  refine lv_iload hx hb dL_law_729 (lv_at hl 0 rfl) ?_
  refine lv_iconst (v := 4) hx hb dL_law_731 (by decide) ?_
  refine lv_iadd hx hb dL_law_732 ?_
  refine lv_topi (fun v_7 ev_7 => ?_)
  have ev_7 : v_7 = 4 := ev_7.trans (by decide)
  subst ev_7
  refine va_sld hx hb hX hbl hbA hS (by exact fun h => by rcases h with h | h <;> revert h <;> decide) dL_law_733 ?_
  refine lv_topi (fun v_8 ev_8 => ?_)
  have ev_8 : v_8 = xs 4 := ev_8
  subst ev_8
  refine lv_aload_n hx hb dL_law_734 rfl (lv_at hl 1 rfl) ?_
  have hPc := hP.sub (ws' := [(c0, .inr (11, fs_c0)), (qC, .inr (2, fs_qC))]) [0, 1] rfl
  have hDc := hD.sub (ws' := [(c0, .inr (11, fs_c0)), (qC, .inr (2, fs_qC))]) [0, 1] (by decide) rfl
  have hKc := hK.sub (tys' := []) [] rfl
  have hFc := va_free (wc := [(c0, .inr (11, fs_c0)), (qC, .inr (2, fs_qC))]) hD hS hA [0, 1] rfl
  refine vx_calli (vx_runSX (As := [.ref c0, .int (xs 1), .int (xs 2), .int (xs 3), .int (xs 4), .ref qo]) (rest := []) ⟨hx, hb, hml, hown, hts⟩ (c_l_number l hlt dC dI c0 qC qo ((xs 1)) ((xs 2)) ((xs 3)) ((xs 4)) fs_c0 fs_qC (mF.sub hF_c0 [0] rfl) (mF.sub hF_qC [0] rfl) H.size) (vx_cwSW 6 hts g_law_wv_l_number_146 rfl rfl rfl hd_L_number ⟨Nat.le_of_ble_eq_true rfl, Nat.le_of_ble_eq_true rfl⟩) ⟨fun a U g mk q => by obtain ⟨q0, q1, qP, qK, qD, qE0, qE1, qE2⟩ := q; exact ⟨q0, q1, qP, va_K.moved (u := U) (U := U.calling g mk a) (Vm.Alike.refl U.vm) qK, qD, w_N.same rfl qE0, w_T.same rfl rfl qE1, w_C.same rfl rfl qE2⟩, fun U hU hW => ⟨rfl, by rw [hU], by rw [hU]; exact hPc, va_K.moved hW.alike hKc, hDc.weaken (fun _ _ _ _ => trivial), w_N.warm hW hN, w_T.go hT hW hS.2.1 hFc hU, w_C.go hC hW hS.2.1 hFc hU⟩⟩ rfl rfl hl.1 rfl (lv_room (Nat.le_of_ble_eq_true rfl)) dL_law_735 ⟨(Nat.le_of_ble_eq_true rfl), (Nat.le_of_ble_eq_true rfl)⟩) hS (fun q _ h => hFc q h) hFc (fun q _ h => hFc q h) (fun E9 ce9 q9 u t H1 locs1 ht hvm hpx hBX hz1 hk1 hS1 hcell9 hv9 hcl9 => ?_) (fun r_9 u t H1 locs1 ht hvm hw hB hz1 hk1 hS1 => ?_)
  · skip
    exact (hpx : False).elim
  · skip
    obtain ⟨hP1, hK1, hD1⟩ := hB
    rw [ht] at hP1
    have hK1 := va_K.moved hvm.symm hK1
    have hJ := va_join (wr := [(qo, .inl (ko, 1, .inr (.inl fo))), (n0, .inr (15, fs_n0))]) (w1 := []) hP hD [0, 1] [2, 3] rfl rfl (by decide) (by decide) hk1 hFc hP1 hD1
    clear hP hD hPc hDc hKc hFc hz1; try clear hk1
    obtain ⟨hP, hD⟩ := hJ
    replace hK := (hK.sub (tys' := [(ko, .long)]) [0] rfl).app (hK1.sub (tys' := []) [] rfl)
    clear hP1 hK1 hD1 hvm ht hS; try clear t
    try clear H
    revert hS1
    intro hS
    generalize H1 = H at hP hS ⊢; try clear H1
    replace hP : va_P (dC, dI) vwCl [(qo, .inl (ko, 1, .inr (.inl fo))), (n0, .inr (15, fs_n0))] H := hP
    replace hD : va_D A [(qo, .inl (ko, 1, .inr (.inl fo))), (n0, .inr (15, fs_n0))] := hD
    replace hK : va_K (dC, dI) vwCl [(ko, .long)] s := hK
    have hw_10 : r_9 = 3 := hw; clear hw
    subst hw_10
    refine lv_istore (lv' := [(5, .int 3), (4, .int 0), (3, .ref qo), (2, .ref n0), (1, .ref c0), (0, .ref b)]) hx hb dL_law_738 hl (by decide) rfl (fun ls hl => ?_)
    refine lv_aload_n hx hb dL_law_740 rfl (lv_at hl 3 rfl) ?_
    refine lv_aload_n hx hb dL_law_741 rfl (lv_at hl 5 rfl) ?_
    refine lv_iload hx hb dL_law_742 (lv_at hl 1 rfl) ?_
    refine lv_iconst (v := 1) hx hb dL_law_744 (by decide) ?_
    refine lv_iadd hx hb dL_law_745 ?_
    refine lv_topi (fun v_11 ev_11 => ?_)
    have ev_11 : v_11 = 1 := ev_11.trans (by decide)
    subst ev_11
    refine va_sld hx hb hX hbl hbA hS (by exact fun h => by rcases h with h | h <;> revert h <;> decide) dL_law_746 ?_
    refine lv_topi (fun v_12 ev_12 => ?_)
    have ev_12 : v_12 = xs 1 := ev_12
    subst ev_12
    refine lv_aload_n hx hb dL_law_747 rfl (lv_at hl 5 rfl) ?_
    refine lv_iload hx hb dL_law_748 (lv_at hl 1 rfl) ?_
    refine lv_iconst (v := 2) hx hb dL_law_750 (by decide) ?_
    refine lv_iadd hx hb dL_law_751 ?_
    refine lv_topi (fun v_13 ev_13 => ?_)
    have ev_13 : v_13 = 2 := ev_13.trans (by decide)
    subst ev_13
    refine va_sld hx hb hX hbl hbA hS (by exact fun h => by rcases h with h | h <;> revert h <;> decide) dL_law_752 ?_
    refine lv_topi (fun v_14 ev_14 => ?_)
    have ev_14 : v_14 = xs 2 := ev_14
    subst ev_14
    refine lv_aload_n hx hb dL_law_753 rfl (lv_at hl 5 rfl) ?_
    refine lv_iload hx hb dL_law_754 (lv_at hl 1 rfl) ?_
    refine lv_iconst (v := 3) hx hb dL_law_756 (by decide) ?_
    refine lv_iadd hx hb dL_law_757 ?_
    refine lv_topi (fun v_15 ev_15 => ?_)
    have ev_15 : v_15 = 3 := ev_15.trans (by decide)
    subst ev_15
    refine va_sld hx hb hX hbl hbA hS (by exact fun h => by rcases h with h | h <;> revert h <;> decide) dL_law_758 ?_
    refine lv_topi (fun v_16 ev_16 => ?_)
    have ev_16 : v_16 = xs 3 := ev_16
    subst ev_16
    refine lv_aload_n hx hb dL_law_759 rfl (lv_at hl 5 rfl) ?_
    refine lv_iload hx hb dL_law_760 (lv_at hl 1 rfl) ?_
    refine lv_iconst (v := 4) hx hb dL_law_762 (by decide) ?_
    refine lv_iadd hx hb dL_law_763 ?_
    refine lv_topi (fun v_17 ev_17 => ?_)
    have ev_17 : v_17 = 4 := ev_17.trans (by decide)
    subst ev_17
    refine va_sld hx hb hX hbl hbA hS (by exact fun h => by rcases h with h | h <;> revert h <;> decide) dL_law_764 ?_
    refine lv_topi (fun v_18 ev_18 => ?_)
    have ev_18 : v_18 = xs 4 := ev_18
    subst ev_18
    have hPc := hP.sub (ws' := [(n0, .inr (15, fs_n0))]) [1] rfl
    have hDc := hD.sub (ws' := [(n0, .inr (15, fs_n0))]) [1] (by decide) rfl
    have hKc := hK.sub (tys' := []) [] rfl
    have hFc := va_free (wc := [(n0, .inr (15, fs_n0))]) hD hS hA [1] rfl
    refine va_calll (va_runV (As := [.int (xs 1), .int (xs 2), .int (xs 3), .int (xs 4)]) (rest := []) ⟨hx, hb, hml, hown, hts⟩ (c_m_number l dC dI n0 qfed qf qfd qs qk ((xs 1)) ((xs 2)) ((xs 3)) ((xs 4)) fs_n0 (mF.sub hF_n0 [0, 1, 2, 3, 4, 5, 6, 7, 8, 9, 10, 11, 12, 13, 14, 15, 16, 17, 18] rfl) H.size) (cwV 4 hts g_law_wv_m_number_149 rfl rfl rfl hv_X15_number ⟨Nat.le_of_ble_eq_true rfl, Nat.le_of_ble_eq_true rfl⟩) ⟨fun a U g mk q => by obtain ⟨q0, q1, qP, qK, qD, qE0⟩ := q; exact ⟨q0, q1, qP, va_K.moved (u := U) (U := U.calling g mk a) (Vm.Alike.refl U.vm) qK, qD, w_N.same rfl qE0⟩, va_recv hKc hPc (ci := 15) (q0 := 0) rfl rfl, fun U hU hW => ⟨rfl, by rw [hU], by rw [hU]; exact hPc, va_K.moved hW.alike hKc, hDc.weaken (fun _ _ _ _ => trivial), w_N.warm hW hN⟩⟩ rfl rfl hl.1 rfl (lv_room (Nat.le_of_ble_eq_true rfl)) dL_law_765 ⟨(Nat.le_of_ble_eq_true rfl), (Nat.le_of_ble_eq_true rfl)⟩) hS (fun q _ h => hFc q h) hFc (fun r_19 u t H1 locs1 ht hvm hw hB hz1 hk1 hS1 => ?_)
    obtain ⟨fs_20, hP1, hK1, hD1, hp_21⟩ := hB
    rw [ht] at hP1
    have hK1 := va_K.moved hvm.symm hK1
    have hJ := va_join (wr := [(qo, .inl (ko, 1, .inr (.inl fo)))]) (w1 := [(n0, .inr (15, fs_20))]) hP hD [1] [0] rfl rfl (by decide) (by decide) hk1 hFc hP1 hD1
    clear hP hD hPc hDc hKc hFc hz1; try clear hk1
    obtain ⟨hP, hD⟩ := hJ
    replace hK := (hK.sub (tys' := [(ko, .long)]) [0] rfl).app (hK1.sub (tys' := []) [] rfl)
    clear hP1 hK1 hD1 hvm ht hS; try clear t
    try clear H
    revert hS1
    intro hS
    generalize H1 = H at hP hS ⊢; try clear H1
    replace hP : va_P (dC, dI) vwCl [(qo, .inl (ko, 1, .inr (.inl fo))), (n0, .inr (15, fs_20))] H := hP
    replace hD : va_D A [(qo, .inl (ko, 1, .inr (.inl fo))), (n0, .inr (15, fs_20))] := hD
    replace hK : va_K (dC, dI) vwCl [(ko, .long)] s := hK
    have hw_22 : True := hw; clear hw
    refine lv_lstore (lv' := [(6, .long r_19), (5, .int 3), (4, .int 0), (3, .ref qo), (2, .ref n0), (1, .ref c0), (0, .ref b)]) hx hb dL_law_768 hl (by decide) rfl (fun ls hl => ?_)
    refine lv_aload_n hx hb dL_law_770 rfl (lv_at hl 4 rfl) ?_
    have hPc := hP.sub (ws' := [(n0, .inr (15, fs_20))]) [1] rfl
    have hDc := hD.sub (ws' := [(n0, .inr (15, fs_20))]) [1] (by decide) rfl
    have hKc := hK.sub (tys' := []) [] rfl
    have hFc := va_free (wc := [(n0, .inr (15, fs_20))]) hD hS hA [1] rfl
    refine va_calli (va_runV (As := []) (rest := []) ⟨hx, hb, hml, hown, hts⟩ (c_m_thrown l dC dI n0 3 fs_20 (mF.sub hp_21 [0] rfl) H.size) (cwV 0 hts g_law_wv_m_thrown_117 rfl rfl rfl hv_X15_thrown ⟨Nat.le_of_ble_eq_true rfl, Nat.le_of_ble_eq_true rfl⟩) ⟨fun a U g mk q => by obtain ⟨q0, q1, qP, qK, qD, qE0⟩ := q; exact ⟨q0, q1, qP, va_K.moved (u := U) (U := U.calling g mk a) (Vm.Alike.refl U.vm) qK, qD, w_N.same rfl qE0⟩, va_recv hKc hPc (ci := 15) (q0 := 0) rfl rfl, fun U hU hW => ⟨rfl, by rw [hU], by rw [hU]; exact hPc, va_K.moved hW.alike hKc, hDc.weaken (fun _ _ _ _ => trivial), w_N.warm hW hN⟩⟩ rfl rfl hl.1 rfl (lv_room (Nat.le_of_ble_eq_true rfl)) dL_law_771 ⟨(Nat.le_of_ble_eq_true rfl), (Nat.le_of_ble_eq_true rfl)⟩) hS (fun q _ h => hFc q h) hFc (fun r_23 u t H1 locs1 ht hvm hw hB hz1 hk1 hS1 => ?_)
    obtain ⟨hP1, hK1, hD1⟩ := hB
    rw [ht] at hP1
    have hK1 := va_K.moved hvm.symm hK1
    have hJ := va_join (wr := [(qo, .inl (ko, 1, .inr (.inl fo)))]) (w1 := []) hP hD [1] [0] rfl rfl (by decide) (by decide) hk1 hFc hP1 hD1
    clear hP hD hPc hDc hKc hFc hz1; try clear hk1
    obtain ⟨hP, hD⟩ := hJ
    replace hK := (hK.sub (tys' := [(ko, .long)]) [0] rfl).app (hK1.sub (tys' := []) [] rfl)
    clear hP1 hK1 hD1 hvm ht hS; try clear t
    try clear H
    revert hS1
    intro hS
    generalize H1 = H at hP hS ⊢; try clear H1
    replace hP : va_P (dC, dI) vwCl [(qo, .inl (ko, 1, .inr (.inl fo)))] H := hP
    replace hD : va_D A [(qo, .inl (ko, 1, .inr (.inl fo)))] := hD
    replace hK : va_K (dC, dI) vwCl [(ko, .long)] s := hK
    have hw_24 : r_23 = 3 := hw; clear hw
    subst hw_24
    refine lv_iload hx hb dL_law_774 (lv_at hl 1 rfl) ?_
    refine lv_icmp_eq (tgt := 781) hx hb dL_law_776 (by decide) (fun _ => ?_) (fun hc => absurd (by decide) hc)
    refine lv_iload hx hb dL_law_781 (lv_at hl 1 rfl) ?_
    refine lv_if_ne (tgt := 797) hx hb dL_law_783 (by decide) (fun _ => ?_) (fun hc => absurd hc (by decide))
    refine lv_goto (tgt := 2018) hx hb dL_law_797 (by decide) ?_
    exact law_tail C0 hA2 hbA hS (lv_sub hl [2, 6] rfl) (Nat.le_of_ble_eq_true rfl) (Nat.le_of_ble_eq_true rfl)

/-! THE CLAIM OUT OF ONE WALK OF THE LAW'S BODY. Your part is whole_start (and what it stands on); all else here is the same for every law, but numbers. -/
def R_law : String := "KeepOurPlaceLaw"
def lw_P (b : Addr) (xs : List Int32) (args : Array Value) (s : State) : Prop := args = #[.ref b] ∧ s.IntsAt b xs ∧ xs.length ≤ 3072 ∧ (Jvm.Cond.and given_1 narrow_1).before args s = true
def lw_Q (_ : Array Value) (s : State) (o : Outcome) (t : State) : Prop := o = .returned (some (.int 1)) ∧ Framed s o t [] 600000 7302250
def lw_Z (below : List Frame) (a : Array Value) (s : State) : State → Prop := fun t => ∃ o, t.status = .running ∧ Ended t below o ∧ lw_Q a s o t
/-- the law's own end, with 1 on the stack, nothing written that was there before, its room as the claim has it -/
theorem lw_ret {p : Program} {l : Launch} {e : Env} {s : State} {m : MethodId} {below : List Frame} {meth : Method} {c : Code} {b : Nat} (hx : p.tables.exec = Jvm.exec) (hb : c.code = code) (hr : meth.sig.returnType = ret) (hlocks : meth.locks = false) {pc : Nat} {H : Heap} {ls : Array Slot} (hdg : decode code pc = .ok (.ireturn, 1)) : W p l e room_1 s m #[Value.ref b] below meth c H [] 600000 7302250 (lw_Z below #[Value.ref b] s) (F0 m pc ls [.int 1]) := by
  intro T hT X
  obtain ⟨fs, hret, hrun, hended, hW, hframe⟩ := X.leave (v := some (.int 1)) (hlocks := hlocks) (fun h => by rw [hr] at h; cases h)
  have hmeth' : T.vm.method? m = some meth := X.method'
  refine ⟨T.setFrames fs, ?_, .returned (some (.int 1)), hrun, hended, rfl, ⟨_, rfl⟩, hW, hframe⟩
  jvm_step X.here [X.here.top, hx, hb, hdg, hmeth', hr, ret, narrow_b1]
  (try refine ⟨rfl, ?_⟩); (try refine ⟨rfl, ?_⟩)
  first | (intro acts; rw [hret _ acts rfl rfl rfl]) | rw [hret _ _ rfl rfl rfl]
  exact Steps.refl _
/-- what holds at the law's entry: the machine, the code, the tables' words (any of lw_tbl by 'hts w (by decide +kernel)'), the script of L ints xs at the cell b, what the Statement gives of the start (any of its parts by flat_of_before) -/
def lw_At (p : Program) (s : State) (m : MethodId) (meth : Method) (c : Code) (b L : Nat) (xs : Nat → Int32) : Prop :=
  p.tables.exec = Jvm.exec ∧ c.code = code ∧ meth.sig.returnType = ret ∧ c.maxLocals = 4 ∧ s.vm.findClass R_law = some m.cls ∧ (∀ w ∈ lw_tbl, w.before #[Value.ref b] s = true) ∧ va_X b L xs s s.heap ∧ b < s.heap.size ∧ meth.locks = false ∧ (Jvm.Cond.and given_1 narrow_1).before #[Value.ref b] s = true
theorem d_law_0 : decode code 0 = .ok (.new 7, 3) := by decide +kernel
theorem d_law_3 : decode code 3 = .ok (.dup, 1) := by decide +kernel
theorem d_law_4 : decode code 4 = .ok (.invokespecial 9, 3) := by decide +kernel
theorem d_law_7 : decode code 7 = .ok (.astore_n 1, 1) := by decide +kernel
theorem d_law_8 : decode code 8 = .ok (.new 10, 3) := by decide +kernel
theorem d_law_11 : decode code 11 = .ok (.dup, 1) := by decide +kernel
theorem d_law_12 : decode code 12 = .ok (.invokespecial 12, 3) := by decide +kernel
theorem d_law_15 : decode code 15 = .ok (.astore_n 2, 1) := by decide +kernel
theorem d_law_16 : decode code 16 = .ok (.iconst 0, 1) := by decide +kernel
theorem d_law_17 : decode code 17 = .ok (.istore_n 3, 1) := by decide +kernel
theorem d_law_18 : decode code 18 = .ok (.iload_n 3, 1) := by decide +kernel
theorem d_law_19 : decode code 19 = .ok (.aload_n 0, 1) := by decide +kernel
theorem d_law_20 : decode code 20 = .ok (.arraylength, 1) := by decide +kernel
theorem d_law_21 : decode code 21 = .ok (.bipush 6, 2) := by decide +kernel
theorem d_law_23 : decode code 23 = .ok (.isub, 1) := by decide +kernel
theorem d_law_24 : decode code 24 = .ok (.if_icmp .gt 1076, 3) := by decide +kernel
theorem d_law_27 : decode code 27 = .ok (.aload_n 0, 1) := by decide +kernel
theorem d_law_28 : decode code 28 = .ok (.iload_n 3, 1) := by decide +kernel
theorem d_law_29 : decode code 29 = .ok (.iaload, 1) := by decide +kernel
theorem d_law_30 : decode code 30 = .ok (.bipush 31, 2) := by decide +kernel
theorem d_law_32 : decode code 32 = .ok (.iand, 1) := by decide +kernel
theorem d_law_33 : decode code 33 = .ok (.tableswitch 1061 0 31 #[143, 176, 209, 252, 285, 298, 321, 334, 357, 370, 403, 426, 449, 482, 495, 518, 541, 564, 587, 611, 644, 677, 710, 733, 777, 790, 803, 826, 869, 912, 975, 1028], 143) := by decide +kernel
theorem d_law_176 : decode code 176 = .ok (.aload_n 1, 1) := by decide +kernel
theorem d_law_177 : decode code 177 = .ok (.aload_n 0, 1) := by decide +kernel
theorem d_law_178 : decode code 178 = .ok (.iload_n 3, 1) := by decide +kernel
theorem d_law_179 : decode code 179 = .ok (.iconst 1, 1) := by decide +kernel
theorem d_law_180 : decode code 180 = .ok (.iadd, 1) := by decide +kernel
theorem d_law_181 : decode code 181 = .ok (.iaload, 1) := by decide +kernel
theorem d_law_182 : decode code 182 = .ok (.aload_n 0, 1) := by decide +kernel
theorem d_law_183 : decode code 183 = .ok (.iload_n 3, 1) := by decide +kernel
theorem d_law_184 : decode code 184 = .ok (.iconst 2, 1) := by decide +kernel
theorem d_law_185 : decode code 185 = .ok (.iadd, 1) := by decide +kernel
theorem d_law_186 : decode code 186 = .ok (.iaload, 1) := by decide +kernel
theorem d_law_187 : decode code 187 = .ok (.invokevirtual 13, 3) := by decide +kernel
theorem d_law_190 : decode code 190 = .ok (.aload_n 2, 1) := by decide +kernel
theorem d_law_191 : decode code 191 = .ok (.aload_n 0, 1) := by decide +kernel
theorem d_law_192 : decode code 192 = .ok (.iload_n 3, 1) := by decide +kernel
theorem d_law_193 : decode code 193 = .ok (.iconst 1, 1) := by decide +kernel
theorem d_law_194 : decode code 194 = .ok (.iadd, 1) := by decide +kernel
theorem d_law_195 : decode code 195 = .ok (.iaload, 1) := by decide +kernel
theorem d_law_196 : decode code 196 = .ok (.aload_n 0, 1) := by decide +kernel
theorem d_law_197 : decode code 197 = .ok (.iload_n 3, 1) := by decide +kernel
theorem d_law_198 : decode code 198 = .ok (.iconst 2, 1) := by decide +kernel
theorem d_law_199 : decode code 199 = .ok (.iadd, 1) := by decide +kernel
theorem d_law_200 : decode code 200 = .ok (.iaload, 1) := by decide +kernel
theorem d_law_201 : decode code 201 = .ok (.invokevirtual 17, 3) := by decide +kernel
theorem d_law_204 : decode code 204 = .ok (.if_icmp .eq 890, 3) := by decide +kernel
theorem d_law_207 : decode code 207 = .ok (.iconst 0, 1) := by decide +kernel
theorem d_law_208 : decode code 208 = .ok (.ireturn, 1) := by decide +kernel
theorem d_law_209 : decode code 209 = .ok (.aload_n 1, 1) := by decide +kernel
theorem d_law_210 : decode code 210 = .ok (.aload_n 0, 1) := by decide +kernel
theorem d_law_211 : decode code 211 = .ok (.iload_n 3, 1) := by decide +kernel
theorem d_law_212 : decode code 212 = .ok (.iconst 1, 1) := by decide +kernel
theorem d_law_213 : decode code 213 = .ok (.iadd, 1) := by decide +kernel
theorem d_law_214 : decode code 214 = .ok (.iaload, 1) := by decide +kernel
theorem d_law_215 : decode code 215 = .ok (.aload_n 0, 1) := by decide +kernel
theorem d_law_216 : decode code 216 = .ok (.iload_n 3, 1) := by decide +kernel
theorem d_law_217 : decode code 217 = .ok (.iconst 2, 1) := by decide +kernel
theorem d_law_218 : decode code 218 = .ok (.iadd, 1) := by decide +kernel
theorem d_law_219 : decode code 219 = .ok (.iaload, 1) := by decide +kernel
theorem d_law_220 : decode code 220 = .ok (.invokevirtual 18, 3) := by decide +kernel
theorem d_law_223 : decode code 223 = .ok (.aload_n 2, 1) := by decide +kernel
theorem d_law_224 : decode code 224 = .ok (.aload_n 0, 1) := by decide +kernel
theorem d_law_225 : decode code 225 = .ok (.iload_n 3, 1) := by decide +kernel
theorem d_law_226 : decode code 226 = .ok (.iconst 1, 1) := by decide +kernel
theorem d_law_227 : decode code 227 = .ok (.iadd, 1) := by decide +kernel
theorem d_law_228 : decode code 228 = .ok (.iaload, 1) := by decide +kernel
theorem d_law_229 : decode code 229 = .ok (.aload_n 0, 1) := by decide +kernel
theorem d_law_230 : decode code 230 = .ok (.iload_n 3, 1) := by decide +kernel
theorem d_law_231 : decode code 231 = .ok (.iconst 2, 1) := by decide +kernel
theorem d_law_232 : decode code 232 = .ok (.iadd, 1) := by decide +kernel
theorem d_law_233 : decode code 233 = .ok (.iaload, 1) := by decide +kernel
theorem d_law_234 : decode code 234 = .ok (.invokevirtual 21, 3) := by decide +kernel
theorem d_law_237 : decode code 237 = .ok (.if_icmp .eq 857, 3) := by decide +kernel
theorem d_law_240 : decode code 240 = .ok (.iconst 0, 1) := by decide +kernel
theorem d_law_241 : decode code 241 = .ok (.ireturn, 1) := by decide +kernel
theorem d_law_242 : decode code 242 = .ok (.aload_n 1, 1) := by decide +kernel
theorem d_law_243 : decode code 243 = .ok (.aload_n 0, 1) := by decide +kernel
theorem d_law_244 : decode code 244 = .ok (.iload_n 3, 1) := by decide +kernel
theorem d_law_245 : decode code 245 = .ok (.iconst 1, 1) := by decide +kernel
theorem d_law_246 : decode code 246 = .ok (.iadd, 1) := by decide +kernel
theorem d_law_247 : decode code 247 = .ok (.iaload, 1) := by decide +kernel
theorem d_law_248 : decode code 248 = .ok (.aload_n 0, 1) := by decide +kernel
theorem d_law_249 : decode code 249 = .ok (.iload_n 3, 1) := by decide +kernel
theorem d_law_250 : decode code 250 = .ok (.iconst 2, 1) := by decide +kernel
theorem d_law_251 : decode code 251 = .ok (.iadd, 1) := by decide +kernel
theorem d_law_252 : decode code 252 = .ok (.iaload, 1) := by decide +kernel
theorem d_law_253 : decode code 253 = .ok (.aload_n 0, 1) := by decide +kernel
theorem d_law_254 : decode code 254 = .ok (.iload_n 3, 1) := by decide +kernel
theorem d_law_255 : decode code 255 = .ok (.iconst 3, 1) := by decide +kernel
theorem d_law_256 : decode code 256 = .ok (.iadd, 1) := by decide +kernel
theorem d_law_257 : decode code 257 = .ok (.iaload, 1) := by decide +kernel
theorem d_law_258 : decode code 258 = .ok (.invokevirtual 22, 3) := by decide +kernel
theorem d_law_261 : decode code 261 = .ok (.aload_n 2, 1) := by decide +kernel
theorem d_law_262 : decode code 262 = .ok (.aload_n 0, 1) := by decide +kernel
theorem d_law_263 : decode code 263 = .ok (.iload_n 3, 1) := by decide +kernel
theorem d_law_264 : decode code 264 = .ok (.iconst 1, 1) := by decide +kernel
theorem d_law_265 : decode code 265 = .ok (.iadd, 1) := by decide +kernel
theorem d_law_266 : decode code 266 = .ok (.iaload, 1) := by decide +kernel
theorem d_law_267 : decode code 267 = .ok (.aload_n 0, 1) := by decide +kernel
theorem d_law_268 : decode code 268 = .ok (.iload_n 3, 1) := by decide +kernel
theorem d_law_269 : decode code 269 = .ok (.iconst 2, 1) := by decide +kernel
theorem d_law_270 : decode code 270 = .ok (.iadd, 1) := by decide +kernel
theorem d_law_271 : decode code 271 = .ok (.iaload, 1) := by decide +kernel
theorem d_law_272 : decode code 272 = .ok (.aload_n 0, 1) := by decide +kernel
theorem d_law_273 : decode code 273 = .ok (.iload_n 3, 1) := by decide +kernel
theorem d_law_274 : decode code 274 = .ok (.iconst 3, 1) := by decide +kernel
theorem d_law_275 : decode code 275 = .ok (.iadd, 1) := by decide +kernel
theorem d_law_276 : decode code 276 = .ok (.iaload, 1) := by decide +kernel
theorem d_law_277 : decode code 277 = .ok (.invokevirtual 26, 3) := by decide +kernel
theorem d_law_280 : decode code 280 = .ok (.if_icmp .eq 814, 3) := by decide +kernel
theorem d_law_283 : decode code 283 = .ok (.iconst 0, 1) := by decide +kernel
theorem d_law_284 : decode code 284 = .ok (.ireturn, 1) := by decide +kernel
theorem d_law_285 : decode code 285 = .ok (.aload_n 1, 1) := by decide +kernel
theorem d_law_286 : decode code 286 = .ok (.aload_n 0, 1) := by decide +kernel
theorem d_law_287 : decode code 287 = .ok (.iload_n 3, 1) := by decide +kernel
theorem d_law_288 : decode code 288 = .ok (.iconst 1, 1) := by decide +kernel
theorem d_law_289 : decode code 289 = .ok (.iadd, 1) := by decide +kernel
theorem d_law_290 : decode code 290 = .ok (.iaload, 1) := by decide +kernel
theorem d_law_291 : decode code 291 = .ok (.aload_n 0, 1) := by decide +kernel
theorem d_law_292 : decode code 292 = .ok (.iload_n 3, 1) := by decide +kernel
theorem d_law_293 : decode code 293 = .ok (.iconst 2, 1) := by decide +kernel
theorem d_law_294 : decode code 294 = .ok (.iadd, 1) := by decide +kernel
theorem d_law_295 : decode code 295 = .ok (.iaload, 1) := by decide +kernel
theorem d_law_296 : decode code 296 = .ok (.invokevirtual 27, 3) := by decide +kernel
theorem d_law_299 : decode code 299 = .ok (.aload_n 2, 1) := by decide +kernel
theorem d_law_300 : decode code 300 = .ok (.aload_n 0, 1) := by decide +kernel
theorem d_law_301 : decode code 301 = .ok (.iload_n 3, 1) := by decide +kernel
theorem d_law_302 : decode code 302 = .ok (.iconst 1, 1) := by decide +kernel
theorem d_law_303 : decode code 303 = .ok (.iadd, 1) := by decide +kernel
theorem d_law_304 : decode code 304 = .ok (.iaload, 1) := by decide +kernel
theorem d_law_305 : decode code 305 = .ok (.aload_n 0, 1) := by decide +kernel
theorem d_law_306 : decode code 306 = .ok (.iload_n 3, 1) := by decide +kernel
theorem d_law_307 : decode code 307 = .ok (.iconst 2, 1) := by decide +kernel
theorem d_law_308 : decode code 308 = .ok (.iadd, 1) := by decide +kernel
theorem d_law_309 : decode code 309 = .ok (.iaload, 1) := by decide +kernel
theorem d_law_310 : decode code 310 = .ok (.invokevirtual 30, 3) := by decide +kernel
theorem d_law_313 : decode code 313 = .ok (.if_icmp .eq 781, 3) := by decide +kernel
theorem d_law_316 : decode code 316 = .ok (.iconst 0, 1) := by decide +kernel
theorem d_law_317 : decode code 317 = .ok (.ireturn, 1) := by decide +kernel
theorem d_law_318 : decode code 318 = .ok (.aload_n 1, 1) := by decide +kernel
theorem d_law_319 : decode code 319 = .ok (.invokevirtual 31, 3) := by decide +kernel
theorem d_law_322 : decode code 322 = .ok (.aload_n 2, 1) := by decide +kernel
theorem d_law_323 : decode code 323 = .ok (.invokevirtual 35, 3) := by decide +kernel
theorem d_law_326 : decode code 326 = .ok (.if_icmp .eq 768, 3) := by decide +kernel
theorem d_law_329 : decode code 329 = .ok (.iconst 0, 1) := by decide +kernel
theorem d_law_330 : decode code 330 = .ok (.ireturn, 1) := by decide +kernel
theorem d_law_331 : decode code 331 = .ok (.aload_n 1, 1) := by decide +kernel
theorem d_law_332 : decode code 332 = .ok (.aload_n 0, 1) := by decide +kernel
theorem d_law_333 : decode code 333 = .ok (.iload_n 3, 1) := by decide +kernel
theorem d_law_334 : decode code 334 = .ok (.iconst 1, 1) := by decide +kernel
theorem d_law_335 : decode code 335 = .ok (.iadd, 1) := by decide +kernel
theorem d_law_336 : decode code 336 = .ok (.iaload, 1) := by decide +kernel
theorem d_law_337 : decode code 337 = .ok (.invokevirtual 36, 3) := by decide +kernel
theorem d_law_340 : decode code 340 = .ok (.aload_n 2, 1) := by decide +kernel
theorem d_law_341 : decode code 341 = .ok (.aload_n 0, 1) := by decide +kernel
theorem d_law_342 : decode code 342 = .ok (.iload_n 3, 1) := by decide +kernel
theorem d_law_343 : decode code 343 = .ok (.iconst 1, 1) := by decide +kernel
theorem d_law_344 : decode code 344 = .ok (.iadd, 1) := by decide +kernel
theorem d_law_345 : decode code 345 = .ok (.iaload, 1) := by decide +kernel
theorem d_law_346 : decode code 346 = .ok (.invokevirtual 40, 3) := by decide +kernel
theorem d_law_349 : decode code 349 = .ok (.if_icmp .eq 745, 3) := by decide +kernel
theorem d_law_352 : decode code 352 = .ok (.iconst 0, 1) := by decide +kernel
theorem d_law_353 : decode code 353 = .ok (.ireturn, 1) := by decide +kernel
theorem d_law_354 : decode code 354 = .ok (.aload_n 1, 1) := by decide +kernel
theorem d_law_355 : decode code 355 = .ok (.invokevirtual 41, 3) := by decide +kernel
theorem d_law_358 : decode code 358 = .ok (.aload_n 2, 1) := by decide +kernel
theorem d_law_359 : decode code 359 = .ok (.invokevirtual 44, 3) := by decide +kernel
theorem d_law_362 : decode code 362 = .ok (.if_icmp .eq 732, 3) := by decide +kernel
theorem d_law_365 : decode code 365 = .ok (.iconst 0, 1) := by decide +kernel
theorem d_law_366 : decode code 366 = .ok (.ireturn, 1) := by decide +kernel
theorem d_law_367 : decode code 367 = .ok (.aload_n 1, 1) := by decide +kernel
theorem d_law_368 : decode code 368 = .ok (.aload_n 0, 1) := by decide +kernel
theorem d_law_369 : decode code 369 = .ok (.iload_n 3, 1) := by decide +kernel
theorem d_law_370 : decode code 370 = .ok (.iconst 1, 1) := by decide +kernel
theorem d_law_371 : decode code 371 = .ok (.iadd, 1) := by decide +kernel
theorem d_law_372 : decode code 372 = .ok (.iaload, 1) := by decide +kernel
theorem d_law_373 : decode code 373 = .ok (.invokevirtual 45, 3) := by decide +kernel
theorem d_law_376 : decode code 376 = .ok (.aload_n 2, 1) := by decide +kernel
theorem d_law_377 : decode code 377 = .ok (.aload_n 0, 1) := by decide +kernel
theorem d_law_378 : decode code 378 = .ok (.iload_n 3, 1) := by decide +kernel
theorem d_law_379 : decode code 379 = .ok (.iconst 1, 1) := by decide +kernel
theorem d_law_380 : decode code 380 = .ok (.iadd, 1) := by decide +kernel
theorem d_law_381 : decode code 381 = .ok (.iaload, 1) := by decide +kernel
theorem d_law_382 : decode code 382 = .ok (.invokevirtual 48, 3) := by decide +kernel
theorem d_law_385 : decode code 385 = .ok (.if_icmp .eq 709, 3) := by decide +kernel
theorem d_law_388 : decode code 388 = .ok (.iconst 0, 1) := by decide +kernel
theorem d_law_389 : decode code 389 = .ok (.ireturn, 1) := by decide +kernel
theorem d_law_390 : decode code 390 = .ok (.aload_n 1, 1) := by decide +kernel
theorem d_law_391 : decode code 391 = .ok (.invokevirtual 49, 3) := by decide +kernel
theorem d_law_394 : decode code 394 = .ok (.aload_n 2, 1) := by decide +kernel
theorem d_law_395 : decode code 395 = .ok (.invokevirtual 52, 3) := by decide +kernel
theorem d_law_398 : decode code 398 = .ok (.if_icmp .eq 696, 3) := by decide +kernel
theorem d_law_401 : decode code 401 = .ok (.iconst 0, 1) := by decide +kernel
theorem d_law_402 : decode code 402 = .ok (.ireturn, 1) := by decide +kernel
theorem d_law_403 : decode code 403 = .ok (.aload_n 1, 1) := by decide +kernel
theorem d_law_404 : decode code 404 = .ok (.aload_n 0, 1) := by decide +kernel
theorem d_law_405 : decode code 405 = .ok (.iload_n 3, 1) := by decide +kernel
theorem d_law_406 : decode code 406 = .ok (.iconst 1, 1) := by decide +kernel
theorem d_law_407 : decode code 407 = .ok (.iadd, 1) := by decide +kernel
theorem d_law_408 : decode code 408 = .ok (.iaload, 1) := by decide +kernel
theorem d_law_409 : decode code 409 = .ok (.aload_n 0, 1) := by decide +kernel
theorem d_law_410 : decode code 410 = .ok (.iload_n 3, 1) := by decide +kernel
theorem d_law_411 : decode code 411 = .ok (.iconst 2, 1) := by decide +kernel
theorem d_law_412 : decode code 412 = .ok (.iadd, 1) := by decide +kernel
theorem d_law_413 : decode code 413 = .ok (.iaload, 1) := by decide +kernel
theorem d_law_414 : decode code 414 = .ok (.invokevirtual 53, 3) := by decide +kernel
theorem d_law_417 : decode code 417 = .ok (.aload_n 2, 1) := by decide +kernel
theorem d_law_418 : decode code 418 = .ok (.aload_n 0, 1) := by decide +kernel
theorem d_law_419 : decode code 419 = .ok (.iload_n 3, 1) := by decide +kernel
theorem d_law_420 : decode code 420 = .ok (.iconst 1, 1) := by decide +kernel
theorem d_law_421 : decode code 421 = .ok (.iadd, 1) := by decide +kernel
theorem d_law_422 : decode code 422 = .ok (.iaload, 1) := by decide +kernel
theorem d_law_423 : decode code 423 = .ok (.aload_n 0, 1) := by decide +kernel
theorem d_law_424 : decode code 424 = .ok (.iload_n 3, 1) := by decide +kernel
theorem d_law_425 : decode code 425 = .ok (.iconst 2, 1) := by decide +kernel
theorem d_law_426 : decode code 426 = .ok (.iadd, 1) := by decide +kernel
theorem d_law_427 : decode code 427 = .ok (.iaload, 1) := by decide +kernel
theorem d_law_428 : decode code 428 = .ok (.invokevirtual 56, 3) := by decide +kernel
theorem d_law_431 : decode code 431 = .ok (.if_icmp .eq 663, 3) := by decide +kernel
theorem d_law_434 : decode code 434 = .ok (.iconst 0, 1) := by decide +kernel
theorem d_law_435 : decode code 435 = .ok (.ireturn, 1) := by decide +kernel
theorem d_law_436 : decode code 436 = .ok (.aload_n 1, 1) := by decide +kernel
theorem d_law_437 : decode code 437 = .ok (.aload_n 0, 1) := by decide +kernel
theorem d_law_438 : decode code 438 = .ok (.iload_n 3, 1) := by decide +kernel
theorem d_law_439 : decode code 439 = .ok (.iconst 1, 1) := by decide +kernel
theorem d_law_440 : decode code 440 = .ok (.iadd, 1) := by decide +kernel
theorem d_law_441 : decode code 441 = .ok (.iaload, 1) := by decide +kernel
theorem d_law_442 : decode code 442 = .ok (.invokevirtual 57, 3) := by decide +kernel
theorem d_law_445 : decode code 445 = .ok (.aload_n 2, 1) := by decide +kernel
theorem d_law_446 : decode code 446 = .ok (.aload_n 0, 1) := by decide +kernel
theorem d_law_447 : decode code 447 = .ok (.iload_n 3, 1) := by decide +kernel
theorem d_law_448 : decode code 448 = .ok (.iconst 1, 1) := by decide +kernel
theorem d_law_449 : decode code 449 = .ok (.iadd, 1) := by decide +kernel
theorem d_law_450 : decode code 450 = .ok (.iaload, 1) := by decide +kernel
theorem d_law_451 : decode code 451 = .ok (.invokevirtual 60, 3) := by decide +kernel
theorem d_law_454 : decode code 454 = .ok (.if_icmp .eq 640, 3) := by decide +kernel
theorem d_law_457 : decode code 457 = .ok (.iconst 0, 1) := by decide +kernel
theorem d_law_458 : decode code 458 = .ok (.ireturn, 1) := by decide +kernel
theorem d_law_459 : decode code 459 = .ok (.aload_n 1, 1) := by decide +kernel
theorem d_law_460 : decode code 460 = .ok (.aload_n 0, 1) := by decide +kernel
theorem d_law_461 : decode code 461 = .ok (.iload_n 3, 1) := by decide +kernel
theorem d_law_462 : decode code 462 = .ok (.iconst 1, 1) := by decide +kernel
theorem d_law_463 : decode code 463 = .ok (.iadd, 1) := by decide +kernel
theorem d_law_464 : decode code 464 = .ok (.iaload, 1) := by decide +kernel
theorem d_law_465 : decode code 465 = .ok (.invokevirtual 61, 3) := by decide +kernel
theorem d_law_468 : decode code 468 = .ok (.aload_n 2, 1) := by decide +kernel
theorem d_law_469 : decode code 469 = .ok (.aload_n 0, 1) := by decide +kernel
theorem d_law_470 : decode code 470 = .ok (.iload_n 3, 1) := by decide +kernel
theorem d_law_471 : decode code 471 = .ok (.iconst 1, 1) := by decide +kernel
theorem d_law_472 : decode code 472 = .ok (.iadd, 1) := by decide +kernel
theorem d_law_473 : decode code 473 = .ok (.iaload, 1) := by decide +kernel
theorem d_law_474 : decode code 474 = .ok (.invokevirtual 64, 3) := by decide +kernel
theorem d_law_477 : decode code 477 = .ok (.if_icmp .eq 617, 3) := by decide +kernel
theorem d_law_480 : decode code 480 = .ok (.iconst 0, 1) := by decide +kernel
theorem d_law_481 : decode code 481 = .ok (.ireturn, 1) := by decide +kernel
theorem d_law_482 : decode code 482 = .ok (.aload_n 1, 1) := by decide +kernel
theorem d_law_483 : decode code 483 = .ok (.aload_n 0, 1) := by decide +kernel
theorem d_law_484 : decode code 484 = .ok (.iload_n 3, 1) := by decide +kernel
theorem d_law_485 : decode code 485 = .ok (.iconst 1, 1) := by decide +kernel
theorem d_law_486 : decode code 486 = .ok (.iadd, 1) := by decide +kernel
theorem d_law_487 : decode code 487 = .ok (.iaload, 1) := by decide +kernel
theorem d_law_488 : decode code 488 = .ok (.aload_n 0, 1) := by decide +kernel
theorem d_law_489 : decode code 489 = .ok (.iload_n 3, 1) := by decide +kernel
theorem d_law_490 : decode code 490 = .ok (.iconst 2, 1) := by decide +kernel
theorem d_law_491 : decode code 491 = .ok (.iadd, 1) := by decide +kernel
theorem d_law_492 : decode code 492 = .ok (.iaload, 1) := by decide +kernel
theorem d_law_493 : decode code 493 = .ok (.invokevirtual 65, 3) := by decide +kernel
theorem d_law_496 : decode code 496 = .ok (.aload_n 2, 1) := by decide +kernel
theorem d_law_497 : decode code 497 = .ok (.aload_n 0, 1) := by decide +kernel
theorem d_law_498 : decode code 498 = .ok (.iload_n 3, 1) := by decide +kernel
theorem d_law_499 : decode code 499 = .ok (.iconst 1, 1) := by decide +kernel
theorem d_law_500 : decode code 500 = .ok (.iadd, 1) := by decide +kernel
theorem d_law_501 : decode code 501 = .ok (.iaload, 1) := by decide +kernel
theorem d_law_502 : decode code 502 = .ok (.aload_n 0, 1) := by decide +kernel
theorem d_law_503 : decode code 503 = .ok (.iload_n 3, 1) := by decide +kernel
theorem d_law_504 : decode code 504 = .ok (.iconst 2, 1) := by decide +kernel
theorem d_law_505 : decode code 505 = .ok (.iadd, 1) := by decide +kernel
theorem d_law_506 : decode code 506 = .ok (.iaload, 1) := by decide +kernel
theorem d_law_507 : decode code 507 = .ok (.invokevirtual 68, 3) := by decide +kernel
theorem d_law_510 : decode code 510 = .ok (.if_icmp .eq 584, 3) := by decide +kernel
theorem d_law_513 : decode code 513 = .ok (.iconst 0, 1) := by decide +kernel
theorem d_law_514 : decode code 514 = .ok (.ireturn, 1) := by decide +kernel
theorem d_law_515 : decode code 515 = .ok (.aload_n 1, 1) := by decide +kernel
theorem d_law_516 : decode code 516 = .ok (.invokevirtual 69, 3) := by decide +kernel
theorem d_law_519 : decode code 519 = .ok (.aload_n 2, 1) := by decide +kernel
theorem d_law_520 : decode code 520 = .ok (.invokevirtual 72, 3) := by decide +kernel
theorem d_law_523 : decode code 523 = .ok (.if_icmp .eq 571, 3) := by decide +kernel
theorem d_law_526 : decode code 526 = .ok (.iconst 0, 1) := by decide +kernel
theorem d_law_527 : decode code 527 = .ok (.ireturn, 1) := by decide +kernel
theorem d_law_528 : decode code 528 = .ok (.aload_n 1, 1) := by decide +kernel
theorem d_law_529 : decode code 529 = .ok (.aload_n 0, 1) := by decide +kernel
theorem d_law_530 : decode code 530 = .ok (.iload_n 3, 1) := by decide +kernel
theorem d_law_531 : decode code 531 = .ok (.iconst 1, 1) := by decide +kernel
theorem d_law_532 : decode code 532 = .ok (.iadd, 1) := by decide +kernel
theorem d_law_533 : decode code 533 = .ok (.iaload, 1) := by decide +kernel
theorem d_law_534 : decode code 534 = .ok (.invokevirtual 73, 3) := by decide +kernel
theorem d_law_537 : decode code 537 = .ok (.aload_n 2, 1) := by decide +kernel
theorem d_law_538 : decode code 538 = .ok (.aload_n 0, 1) := by decide +kernel
theorem d_law_539 : decode code 539 = .ok (.iload_n 3, 1) := by decide +kernel
theorem d_law_540 : decode code 540 = .ok (.iconst 1, 1) := by decide +kernel
theorem d_law_541 : decode code 541 = .ok (.iadd, 1) := by decide +kernel
theorem d_law_542 : decode code 542 = .ok (.iaload, 1) := by decide +kernel
theorem d_law_543 : decode code 543 = .ok (.invokevirtual 76, 3) := by decide +kernel
theorem d_law_546 : decode code 546 = .ok (.if_icmp .eq 548, 3) := by decide +kernel
theorem d_law_549 : decode code 549 = .ok (.iconst 0, 1) := by decide +kernel
theorem d_law_550 : decode code 550 = .ok (.ireturn, 1) := by decide +kernel
theorem d_law_551 : decode code 551 = .ok (.aload_n 1, 1) := by decide +kernel
theorem d_law_552 : decode code 552 = .ok (.aload_n 0, 1) := by decide +kernel
theorem d_law_553 : decode code 553 = .ok (.iload_n 3, 1) := by decide +kernel
theorem d_law_554 : decode code 554 = .ok (.iconst 1, 1) := by decide +kernel
theorem d_law_555 : decode code 555 = .ok (.iadd, 1) := by decide +kernel
theorem d_law_556 : decode code 556 = .ok (.iaload, 1) := by decide +kernel
theorem d_law_557 : decode code 557 = .ok (.invokevirtual 77, 3) := by decide +kernel
theorem d_law_560 : decode code 560 = .ok (.aload_n 2, 1) := by decide +kernel
theorem d_law_561 : decode code 561 = .ok (.aload_n 0, 1) := by decide +kernel
theorem d_law_562 : decode code 562 = .ok (.iload_n 3, 1) := by decide +kernel
theorem d_law_563 : decode code 563 = .ok (.iconst 1, 1) := by decide +kernel
theorem d_law_564 : decode code 564 = .ok (.iadd, 1) := by decide +kernel
theorem d_law_565 : decode code 565 = .ok (.iaload, 1) := by decide +kernel
theorem d_law_566 : decode code 566 = .ok (.invokevirtual 80, 3) := by decide +kernel
theorem d_law_569 : decode code 569 = .ok (.if_icmp .eq 525, 3) := by decide +kernel
theorem d_law_572 : decode code 572 = .ok (.iconst 0, 1) := by decide +kernel
theorem d_law_573 : decode code 573 = .ok (.ireturn, 1) := by decide +kernel
theorem d_law_574 : decode code 574 = .ok (.aload_n 1, 1) := by decide +kernel
theorem d_law_575 : decode code 575 = .ok (.aload_n 0, 1) := by decide +kernel
theorem d_law_576 : decode code 576 = .ok (.iload_n 3, 1) := by decide +kernel
theorem d_law_577 : decode code 577 = .ok (.iconst 1, 1) := by decide +kernel
theorem d_law_578 : decode code 578 = .ok (.iadd, 1) := by decide +kernel
theorem d_law_579 : decode code 579 = .ok (.iaload, 1) := by decide +kernel
theorem d_law_580 : decode code 580 = .ok (.invokevirtual 81, 3) := by decide +kernel
theorem d_law_583 : decode code 583 = .ok (.aload_n 2, 1) := by decide +kernel
theorem d_law_584 : decode code 584 = .ok (.aload_n 0, 1) := by decide +kernel
theorem d_law_585 : decode code 585 = .ok (.iload_n 3, 1) := by decide +kernel
theorem d_law_586 : decode code 586 = .ok (.iconst 1, 1) := by decide +kernel
theorem d_law_587 : decode code 587 = .ok (.iadd, 1) := by decide +kernel
theorem d_law_588 : decode code 588 = .ok (.iaload, 1) := by decide +kernel
theorem d_law_589 : decode code 589 = .ok (.invokevirtual 84, 3) := by decide +kernel
theorem d_law_592 : decode code 592 = .ok (.if_icmp .eq 502, 3) := by decide +kernel
theorem d_law_595 : decode code 595 = .ok (.iconst 0, 1) := by decide +kernel
theorem d_law_596 : decode code 596 = .ok (.ireturn, 1) := by decide +kernel
theorem d_law_597 : decode code 597 = .ok (.aload_n 1, 1) := by decide +kernel
theorem d_law_598 : decode code 598 = .ok (.aload_n 0, 1) := by decide +kernel
theorem d_law_599 : decode code 599 = .ok (.iload_n 3, 1) := by decide +kernel
theorem d_law_600 : decode code 600 = .ok (.iconst 1, 1) := by decide +kernel
theorem d_law_601 : decode code 601 = .ok (.iadd, 1) := by decide +kernel
theorem d_law_602 : decode code 602 = .ok (.iaload, 1) := by decide +kernel
theorem d_law_603 : decode code 603 = .ok (.invokevirtual 85, 3) := by decide +kernel
theorem d_law_606 : decode code 606 = .ok (.aload_n 2, 1) := by decide +kernel
theorem d_law_607 : decode code 607 = .ok (.aload_n 0, 1) := by decide +kernel
theorem d_law_608 : decode code 608 = .ok (.iload_n 3, 1) := by decide +kernel
theorem d_law_609 : decode code 609 = .ok (.iconst 1, 1) := by decide +kernel
theorem d_law_610 : decode code 610 = .ok (.iadd, 1) := by decide +kernel
theorem d_law_611 : decode code 611 = .ok (.iaload, 1) := by decide +kernel
theorem d_law_612 : decode code 612 = .ok (.invokevirtual 88, 3) := by decide +kernel
theorem d_law_615 : decode code 615 = .ok (.if_icmp .eq 479, 3) := by decide +kernel
theorem d_law_618 : decode code 618 = .ok (.iconst 0, 1) := by decide +kernel
theorem d_law_619 : decode code 619 = .ok (.ireturn, 1) := by decide +kernel
theorem d_law_620 : decode code 620 = .ok (.aload_n 1, 1) := by decide +kernel
theorem d_law_621 : decode code 621 = .ok (.aload_n 0, 1) := by decide +kernel
theorem d_law_622 : decode code 622 = .ok (.iload_n 3, 1) := by decide +kernel
theorem d_law_623 : decode code 623 = .ok (.iconst 1, 1) := by decide +kernel
theorem d_law_624 : decode code 624 = .ok (.iadd, 1) := by decide +kernel
theorem d_law_625 : decode code 625 = .ok (.iaload, 1) := by decide +kernel
theorem d_law_626 : decode code 626 = .ok (.invokevirtual 89, 3) := by decide +kernel
theorem d_law_629 : decode code 629 = .ok (.aload_n 2, 1) := by decide +kernel
theorem d_law_630 : decode code 630 = .ok (.aload_n 0, 1) := by decide +kernel
theorem d_law_631 : decode code 631 = .ok (.iload_n 3, 1) := by decide +kernel
theorem d_law_632 : decode code 632 = .ok (.iconst 1, 1) := by decide +kernel
theorem d_law_633 : decode code 633 = .ok (.iadd, 1) := by decide +kernel
theorem d_law_634 : decode code 634 = .ok (.iaload, 1) := by decide +kernel
theorem d_law_635 : decode code 635 = .ok (.invokevirtual 93, 3) := by decide +kernel
theorem d_law_638 : decode code 638 = .ok (.lcmp, 1) := by decide +kernel
theorem d_law_639 : decode code 639 = .ok (.ifCond .eq 455, 3) := by decide +kernel
theorem d_law_642 : decode code 642 = .ok (.iconst 0, 1) := by decide +kernel
theorem d_law_643 : decode code 643 = .ok (.ireturn, 1) := by decide +kernel
theorem d_law_644 : decode code 644 = .ok (.aload_n 1, 1) := by decide +kernel
theorem d_law_645 : decode code 645 = .ok (.aload_n 0, 1) := by decide +kernel
theorem d_law_646 : decode code 646 = .ok (.iload_n 3, 1) := by decide +kernel
theorem d_law_647 : decode code 647 = .ok (.iconst 1, 1) := by decide +kernel
theorem d_law_648 : decode code 648 = .ok (.iadd, 1) := by decide +kernel
theorem d_law_649 : decode code 649 = .ok (.iaload, 1) := by decide +kernel
theorem d_law_650 : decode code 650 = .ok (.aload_n 0, 1) := by decide +kernel
theorem d_law_651 : decode code 651 = .ok (.iload_n 3, 1) := by decide +kernel
theorem d_law_652 : decode code 652 = .ok (.iconst 2, 1) := by decide +kernel
theorem d_law_653 : decode code 653 = .ok (.iadd, 1) := by decide +kernel
theorem d_law_654 : decode code 654 = .ok (.iaload, 1) := by decide +kernel
theorem d_law_655 : decode code 655 = .ok (.invokevirtual 94, 3) := by decide +kernel
theorem d_law_658 : decode code 658 = .ok (.aload_n 2, 1) := by decide +kernel
theorem d_law_659 : decode code 659 = .ok (.aload_n 0, 1) := by decide +kernel
theorem d_law_660 : decode code 660 = .ok (.iload_n 3, 1) := by decide +kernel
theorem d_law_661 : decode code 661 = .ok (.iconst 1, 1) := by decide +kernel
theorem d_law_662 : decode code 662 = .ok (.iadd, 1) := by decide +kernel
theorem d_law_663 : decode code 663 = .ok (.iaload, 1) := by decide +kernel
theorem d_law_664 : decode code 664 = .ok (.aload_n 0, 1) := by decide +kernel
theorem d_law_665 : decode code 665 = .ok (.iload_n 3, 1) := by decide +kernel
theorem d_law_666 : decode code 666 = .ok (.iconst 2, 1) := by decide +kernel
theorem d_law_667 : decode code 667 = .ok (.iadd, 1) := by decide +kernel
theorem d_law_668 : decode code 668 = .ok (.iaload, 1) := by decide +kernel
theorem d_law_669 : decode code 669 = .ok (.invokevirtual 97, 3) := by decide +kernel
theorem d_law_672 : decode code 672 = .ok (.if_icmp .eq 422, 3) := by decide +kernel
theorem d_law_675 : decode code 675 = .ok (.iconst 0, 1) := by decide +kernel
theorem d_law_676 : decode code 676 = .ok (.ireturn, 1) := by decide +kernel
theorem d_law_677 : decode code 677 = .ok (.aload_n 1, 1) := by decide +kernel
theorem d_law_678 : decode code 678 = .ok (.aload_n 0, 1) := by decide +kernel
theorem d_law_679 : decode code 679 = .ok (.iload_n 3, 1) := by decide +kernel
theorem d_law_680 : decode code 680 = .ok (.iconst 1, 1) := by decide +kernel
theorem d_law_681 : decode code 681 = .ok (.iadd, 1) := by decide +kernel
theorem d_law_682 : decode code 682 = .ok (.iaload, 1) := by decide +kernel
theorem d_law_683 : decode code 683 = .ok (.aload_n 0, 1) := by decide +kernel
theorem d_law_684 : decode code 684 = .ok (.iload_n 3, 1) := by decide +kernel
theorem d_law_685 : decode code 685 = .ok (.iconst 2, 1) := by decide +kernel
theorem d_law_686 : decode code 686 = .ok (.iadd, 1) := by decide +kernel
theorem d_law_687 : decode code 687 = .ok (.iaload, 1) := by decide +kernel
theorem d_law_688 : decode code 688 = .ok (.invokevirtual 98, 3) := by decide +kernel
theorem d_law_691 : decode code 691 = .ok (.aload_n 2, 1) := by decide +kernel
theorem d_law_692 : decode code 692 = .ok (.aload_n 0, 1) := by decide +kernel
theorem d_law_693 : decode code 693 = .ok (.iload_n 3, 1) := by decide +kernel
theorem d_law_694 : decode code 694 = .ok (.iconst 1, 1) := by decide +kernel
theorem d_law_695 : decode code 695 = .ok (.iadd, 1) := by decide +kernel
theorem d_law_696 : decode code 696 = .ok (.iaload, 1) := by decide +kernel
theorem d_law_697 : decode code 697 = .ok (.aload_n 0, 1) := by decide +kernel
theorem d_law_698 : decode code 698 = .ok (.iload_n 3, 1) := by decide +kernel
theorem d_law_699 : decode code 699 = .ok (.iconst 2, 1) := by decide +kernel
theorem d_law_700 : decode code 700 = .ok (.iadd, 1) := by decide +kernel
theorem d_law_701 : decode code 701 = .ok (.iaload, 1) := by decide +kernel
theorem d_law_702 : decode code 702 = .ok (.invokevirtual 101, 3) := by decide +kernel
theorem d_law_705 : decode code 705 = .ok (.if_icmp .eq 389, 3) := by decide +kernel
theorem d_law_708 : decode code 708 = .ok (.iconst 0, 1) := by decide +kernel
theorem d_law_709 : decode code 709 = .ok (.ireturn, 1) := by decide +kernel
theorem d_law_710 : decode code 710 = .ok (.aload_n 1, 1) := by decide +kernel
theorem d_law_711 : decode code 711 = .ok (.aload_n 0, 1) := by decide +kernel
theorem d_law_712 : decode code 712 = .ok (.iload_n 3, 1) := by decide +kernel
theorem d_law_713 : decode code 713 = .ok (.iconst 1, 1) := by decide +kernel
theorem d_law_714 : decode code 714 = .ok (.iadd, 1) := by decide +kernel
theorem d_law_715 : decode code 715 = .ok (.iaload, 1) := by decide +kernel
theorem d_law_716 : decode code 716 = .ok (.aload_n 0, 1) := by decide +kernel
theorem d_law_717 : decode code 717 = .ok (.iload_n 3, 1) := by decide +kernel
theorem d_law_718 : decode code 718 = .ok (.iconst 2, 1) := by decide +kernel
theorem d_law_719 : decode code 719 = .ok (.iadd, 1) := by decide +kernel
theorem d_law_720 : decode code 720 = .ok (.iaload, 1) := by decide +kernel
theorem d_law_721 : decode code 721 = .ok (.invokevirtual 102, 3) := by decide +kernel
theorem d_law_724 : decode code 724 = .ok (.aload_n 2, 1) := by decide +kernel
theorem d_law_725 : decode code 725 = .ok (.aload_n 0, 1) := by decide +kernel
theorem d_law_726 : decode code 726 = .ok (.iload_n 3, 1) := by decide +kernel
theorem d_law_727 : decode code 727 = .ok (.iconst 1, 1) := by decide +kernel
theorem d_law_728 : decode code 728 = .ok (.iadd, 1) := by decide +kernel
theorem d_law_729 : decode code 729 = .ok (.iaload, 1) := by decide +kernel
theorem d_law_730 : decode code 730 = .ok (.aload_n 0, 1) := by decide +kernel
theorem d_law_731 : decode code 731 = .ok (.iload_n 3, 1) := by decide +kernel
theorem d_law_732 : decode code 732 = .ok (.iconst 2, 1) := by decide +kernel
theorem d_law_733 : decode code 733 = .ok (.iadd, 1) := by decide +kernel
theorem d_law_734 : decode code 734 = .ok (.iaload, 1) := by decide +kernel
theorem d_law_735 : decode code 735 = .ok (.invokevirtual 105, 3) := by decide +kernel
theorem d_law_738 : decode code 738 = .ok (.if_icmp .eq 356, 3) := by decide +kernel
theorem d_law_741 : decode code 741 = .ok (.iconst 0, 1) := by decide +kernel
theorem d_law_742 : decode code 742 = .ok (.ireturn, 1) := by decide +kernel
theorem d_law_743 : decode code 743 = .ok (.aload_n 1, 1) := by decide +kernel
theorem d_law_744 : decode code 744 = .ok (.aload_n 0, 1) := by decide +kernel
theorem d_law_745 : decode code 745 = .ok (.iload_n 3, 1) := by decide +kernel
theorem d_law_746 : decode code 746 = .ok (.iconst 1, 1) := by decide +kernel
theorem d_law_747 : decode code 747 = .ok (.iadd, 1) := by decide +kernel
theorem d_law_748 : decode code 748 = .ok (.iaload, 1) := by decide +kernel
theorem d_law_749 : decode code 749 = .ok (.invokevirtual 106, 3) := by decide +kernel
theorem d_law_752 : decode code 752 = .ok (.aload_n 2, 1) := by decide +kernel
theorem d_law_753 : decode code 753 = .ok (.aload_n 0, 1) := by decide +kernel
theorem d_law_754 : decode code 754 = .ok (.iload_n 3, 1) := by decide +kernel
theorem d_law_755 : decode code 755 = .ok (.iconst 1, 1) := by decide +kernel
theorem d_law_756 : decode code 756 = .ok (.iadd, 1) := by decide +kernel
theorem d_law_757 : decode code 757 = .ok (.iaload, 1) := by decide +kernel
theorem d_law_758 : decode code 758 = .ok (.invokevirtual 109, 3) := by decide +kernel
theorem d_law_761 : decode code 761 = .ok (.if_icmp .eq 333, 3) := by decide +kernel
theorem d_law_764 : decode code 764 = .ok (.iconst 0, 1) := by decide +kernel
theorem d_law_765 : decode code 765 = .ok (.ireturn, 1) := by decide +kernel
theorem d_law_766 : decode code 766 = .ok (.aload_n 1, 1) := by decide +kernel
theorem d_law_767 : decode code 767 = .ok (.aload_n 0, 1) := by decide +kernel
theorem d_law_768 : decode code 768 = .ok (.iload_n 3, 1) := by decide +kernel
theorem d_law_769 : decode code 769 = .ok (.iconst 1, 1) := by decide +kernel
theorem d_law_770 : decode code 770 = .ok (.iadd, 1) := by decide +kernel
theorem d_law_771 : decode code 771 = .ok (.iaload, 1) := by decide +kernel
theorem d_law_772 : decode code 772 = .ok (.aload_n 0, 1) := by decide +kernel
theorem d_law_773 : decode code 773 = .ok (.iload_n 3, 1) := by decide +kernel
theorem d_law_774 : decode code 774 = .ok (.iconst 2, 1) := by decide +kernel
theorem d_law_775 : decode code 775 = .ok (.iadd, 1) := by decide +kernel
theorem d_law_776 : decode code 776 = .ok (.iaload, 1) := by decide +kernel
theorem d_law_777 : decode code 777 = .ok (.aload_n 0, 1) := by decide +kernel
theorem d_law_778 : decode code 778 = .ok (.iload_n 3, 1) := by decide +kernel
theorem d_law_779 : decode code 779 = .ok (.iconst 3, 1) := by decide +kernel
theorem d_law_780 : decode code 780 = .ok (.iadd, 1) := by decide +kernel
theorem d_law_781 : decode code 781 = .ok (.iaload, 1) := by decide +kernel
theorem d_law_782 : decode code 782 = .ok (.invokevirtual 110, 3) := by decide +kernel
theorem d_law_785 : decode code 785 = .ok (.aload_n 2, 1) := by decide +kernel
theorem d_law_786 : decode code 786 = .ok (.aload_n 0, 1) := by decide +kernel
theorem d_law_787 : decode code 787 = .ok (.iload_n 3, 1) := by decide +kernel
theorem d_law_788 : decode code 788 = .ok (.iconst 1, 1) := by decide +kernel
theorem d_law_789 : decode code 789 = .ok (.iadd, 1) := by decide +kernel
theorem d_law_790 : decode code 790 = .ok (.iaload, 1) := by decide +kernel
theorem d_law_791 : decode code 791 = .ok (.aload_n 0, 1) := by decide +kernel
theorem d_law_792 : decode code 792 = .ok (.iload_n 3, 1) := by decide +kernel
theorem d_law_793 : decode code 793 = .ok (.iconst 2, 1) := by decide +kernel
theorem d_law_794 : decode code 794 = .ok (.iadd, 1) := by decide +kernel
theorem d_law_795 : decode code 795 = .ok (.iaload, 1) := by decide +kernel
theorem d_law_796 : decode code 796 = .ok (.aload_n 0, 1) := by decide +kernel
theorem d_law_797 : decode code 797 = .ok (.iload_n 3, 1) := by decide +kernel
theorem d_law_798 : decode code 798 = .ok (.iconst 3, 1) := by decide +kernel
theorem d_law_799 : decode code 799 = .ok (.iadd, 1) := by decide +kernel
theorem d_law_800 : decode code 800 = .ok (.iaload, 1) := by decide +kernel
theorem d_law_801 : decode code 801 = .ok (.invokevirtual 114, 3) := by decide +kernel
theorem d_law_804 : decode code 804 = .ok (.lcmp, 1) := by decide +kernel
theorem d_law_805 : decode code 805 = .ok (.ifCond .eq 289, 3) := by decide +kernel
theorem d_law_808 : decode code 808 = .ok (.iconst 0, 1) := by decide +kernel
theorem d_law_809 : decode code 809 = .ok (.ireturn, 1) := by decide +kernel
theorem d_law_810 : decode code 810 = .ok (.aload_n 1, 1) := by decide +kernel
theorem d_law_811 : decode code 811 = .ok (.invokevirtual 115, 3) := by decide +kernel
theorem d_law_814 : decode code 814 = .ok (.aload_n 2, 1) := by decide +kernel
theorem d_law_815 : decode code 815 = .ok (.invokevirtual 118, 3) := by decide +kernel
theorem d_law_818 : decode code 818 = .ok (.if_icmp .eq 276, 3) := by decide +kernel
theorem d_law_821 : decode code 821 = .ok (.iconst 0, 1) := by decide +kernel
theorem d_law_822 : decode code 822 = .ok (.ireturn, 1) := by decide +kernel
theorem d_law_823 : decode code 823 = .ok (.aload_n 1, 1) := by decide +kernel
theorem d_law_824 : decode code 824 = .ok (.invokevirtual 119, 3) := by decide +kernel
theorem d_law_827 : decode code 827 = .ok (.aload_n 2, 1) := by decide +kernel
theorem d_law_828 : decode code 828 = .ok (.invokevirtual 122, 3) := by decide +kernel
theorem d_law_831 : decode code 831 = .ok (.if_icmp .eq 263, 3) := by decide +kernel
theorem d_law_834 : decode code 834 = .ok (.iconst 0, 1) := by decide +kernel
theorem d_law_835 : decode code 835 = .ok (.ireturn, 1) := by decide +kernel
theorem d_law_836 : decode code 836 = .ok (.aload_n 1, 1) := by decide +kernel
theorem d_law_837 : decode code 837 = .ok (.aload_n 0, 1) := by decide +kernel
theorem d_law_838 : decode code 838 = .ok (.iload_n 3, 1) := by decide +kernel
theorem d_law_839 : decode code 839 = .ok (.iconst 1, 1) := by decide +kernel
theorem d_law_840 : decode code 840 = .ok (.iadd, 1) := by decide +kernel
theorem d_law_841 : decode code 841 = .ok (.iaload, 1) := by decide +kernel
theorem d_law_842 : decode code 842 = .ok (.invokevirtual 123, 3) := by decide +kernel
theorem d_law_845 : decode code 845 = .ok (.aload_n 2, 1) := by decide +kernel
theorem d_law_846 : decode code 846 = .ok (.aload_n 0, 1) := by decide +kernel
theorem d_law_847 : decode code 847 = .ok (.iload_n 3, 1) := by decide +kernel
theorem d_law_848 : decode code 848 = .ok (.iconst 1, 1) := by decide +kernel
theorem d_law_849 : decode code 849 = .ok (.iadd, 1) := by decide +kernel
theorem d_law_850 : decode code 850 = .ok (.iaload, 1) := by decide +kernel
theorem d_law_851 : decode code 851 = .ok (.invokevirtual 126, 3) := by decide +kernel
theorem d_law_854 : decode code 854 = .ok (.if_icmp .eq 240, 3) := by decide +kernel
theorem d_law_857 : decode code 857 = .ok (.iconst 0, 1) := by decide +kernel
theorem d_law_858 : decode code 858 = .ok (.ireturn, 1) := by decide +kernel
theorem d_law_859 : decode code 859 = .ok (.aload_n 1, 1) := by decide +kernel
theorem d_law_860 : decode code 860 = .ok (.aload_n 0, 1) := by decide +kernel
theorem d_law_861 : decode code 861 = .ok (.iload_n 3, 1) := by decide +kernel
theorem d_law_862 : decode code 862 = .ok (.iconst 1, 1) := by decide +kernel
theorem d_law_863 : decode code 863 = .ok (.iadd, 1) := by decide +kernel
theorem d_law_864 : decode code 864 = .ok (.iaload, 1) := by decide +kernel
theorem d_law_865 : decode code 865 = .ok (.aload_n 0, 1) := by decide +kernel
theorem d_law_866 : decode code 866 = .ok (.iload_n 3, 1) := by decide +kernel
theorem d_law_867 : decode code 867 = .ok (.iconst 2, 1) := by decide +kernel
theorem d_law_868 : decode code 868 = .ok (.iadd, 1) := by decide +kernel
theorem d_law_869 : decode code 869 = .ok (.iaload, 1) := by decide +kernel
theorem d_law_870 : decode code 870 = .ok (.aload_n 0, 1) := by decide +kernel
theorem d_law_871 : decode code 871 = .ok (.iload_n 3, 1) := by decide +kernel
theorem d_law_872 : decode code 872 = .ok (.iconst 3, 1) := by decide +kernel
theorem d_law_873 : decode code 873 = .ok (.iadd, 1) := by decide +kernel
theorem d_law_874 : decode code 874 = .ok (.iaload, 1) := by decide +kernel
theorem d_law_875 : decode code 875 = .ok (.invokevirtual 127, 3) := by decide +kernel
theorem d_law_878 : decode code 878 = .ok (.aload_n 2, 1) := by decide +kernel
theorem d_law_879 : decode code 879 = .ok (.aload_n 0, 1) := by decide +kernel
theorem d_law_880 : decode code 880 = .ok (.iload_n 3, 1) := by decide +kernel
theorem d_law_881 : decode code 881 = .ok (.iconst 1, 1) := by decide +kernel
theorem d_law_882 : decode code 882 = .ok (.iadd, 1) := by decide +kernel
theorem d_law_883 : decode code 883 = .ok (.iaload, 1) := by decide +kernel
theorem d_law_884 : decode code 884 = .ok (.aload_n 0, 1) := by decide +kernel
theorem d_law_885 : decode code 885 = .ok (.iload_n 3, 1) := by decide +kernel
theorem d_law_886 : decode code 886 = .ok (.iconst 2, 1) := by decide +kernel
theorem d_law_887 : decode code 887 = .ok (.iadd, 1) := by decide +kernel
theorem d_law_888 : decode code 888 = .ok (.iaload, 1) := by decide +kernel
theorem d_law_889 : decode code 889 = .ok (.aload_n 0, 1) := by decide +kernel
theorem d_law_890 : decode code 890 = .ok (.iload_n 3, 1) := by decide +kernel
theorem d_law_891 : decode code 891 = .ok (.iconst 3, 1) := by decide +kernel
theorem d_law_892 : decode code 892 = .ok (.iadd, 1) := by decide +kernel
theorem d_law_893 : decode code 893 = .ok (.iaload, 1) := by decide +kernel
theorem d_law_894 : decode code 894 = .ok (.invokevirtual 130, 3) := by decide +kernel
theorem d_law_897 : decode code 897 = .ok (.if_icmp .eq 197, 3) := by decide +kernel
theorem d_law_900 : decode code 900 = .ok (.iconst 0, 1) := by decide +kernel
theorem d_law_901 : decode code 901 = .ok (.ireturn, 1) := by decide +kernel
theorem d_law_902 : decode code 902 = .ok (.aload_n 1, 1) := by decide +kernel
theorem d_law_903 : decode code 903 = .ok (.aload_n 0, 1) := by decide +kernel
theorem d_law_904 : decode code 904 = .ok (.iload_n 3, 1) := by decide +kernel
theorem d_law_905 : decode code 905 = .ok (.iconst 1, 1) := by decide +kernel
theorem d_law_906 : decode code 906 = .ok (.iadd, 1) := by decide +kernel
theorem d_law_907 : decode code 907 = .ok (.iaload, 1) := by decide +kernel
theorem d_law_908 : decode code 908 = .ok (.aload_n 0, 1) := by decide +kernel
theorem d_law_909 : decode code 909 = .ok (.iload_n 3, 1) := by decide +kernel
theorem d_law_910 : decode code 910 = .ok (.iconst 2, 1) := by decide +kernel
theorem d_law_911 : decode code 911 = .ok (.iadd, 1) := by decide +kernel
theorem d_law_912 : decode code 912 = .ok (.iaload, 1) := by decide +kernel
theorem d_law_913 : decode code 913 = .ok (.aload_n 0, 1) := by decide +kernel
theorem d_law_914 : decode code 914 = .ok (.iload_n 3, 1) := by decide +kernel
theorem d_law_915 : decode code 915 = .ok (.iconst 3, 1) := by decide +kernel
theorem d_law_916 : decode code 916 = .ok (.iadd, 1) := by decide +kernel
theorem d_law_917 : decode code 917 = .ok (.iaload, 1) := by decide +kernel
theorem d_law_918 : decode code 918 = .ok (.invokevirtual 131, 3) := by decide +kernel
theorem d_law_921 : decode code 921 = .ok (.aload_n 2, 1) := by decide +kernel
theorem d_law_922 : decode code 922 = .ok (.aload_n 0, 1) := by decide +kernel
theorem d_law_923 : decode code 923 = .ok (.iload_n 3, 1) := by decide +kernel
theorem d_law_924 : decode code 924 = .ok (.iconst 1, 1) := by decide +kernel
theorem d_law_925 : decode code 925 = .ok (.iadd, 1) := by decide +kernel
theorem d_law_926 : decode code 926 = .ok (.iaload, 1) := by decide +kernel
theorem d_law_927 : decode code 927 = .ok (.aload_n 0, 1) := by decide +kernel
theorem d_law_928 : decode code 928 = .ok (.iload_n 3, 1) := by decide +kernel
theorem d_law_929 : decode code 929 = .ok (.iconst 2, 1) := by decide +kernel
theorem d_law_930 : decode code 930 = .ok (.iadd, 1) := by decide +kernel
theorem d_law_931 : decode code 931 = .ok (.iaload, 1) := by decide +kernel
theorem d_law_932 : decode code 932 = .ok (.aload_n 0, 1) := by decide +kernel
theorem d_law_933 : decode code 933 = .ok (.iload_n 3, 1) := by decide +kernel
theorem d_law_934 : decode code 934 = .ok (.iconst 3, 1) := by decide +kernel
theorem d_law_935 : decode code 935 = .ok (.iadd, 1) := by decide +kernel
theorem d_law_936 : decode code 936 = .ok (.iaload, 1) := by decide +kernel
theorem d_law_937 : decode code 937 = .ok (.invokevirtual 134, 3) := by decide +kernel
theorem d_law_940 : decode code 940 = .ok (.if_icmp .eq 154, 3) := by decide +kernel
theorem d_law_943 : decode code 943 = .ok (.iconst 0, 1) := by decide +kernel
theorem d_law_944 : decode code 944 = .ok (.ireturn, 1) := by decide +kernel
theorem d_law_945 : decode code 945 = .ok (.aload_n 1, 1) := by decide +kernel
theorem d_law_946 : decode code 946 = .ok (.aload_n 0, 1) := by decide +kernel
theorem d_law_947 : decode code 947 = .ok (.iload_n 3, 1) := by decide +kernel
theorem d_law_948 : decode code 948 = .ok (.iconst 1, 1) := by decide +kernel
theorem d_law_949 : decode code 949 = .ok (.iadd, 1) := by decide +kernel
theorem d_law_950 : decode code 950 = .ok (.iaload, 1) := by decide +kernel
theorem d_law_951 : decode code 951 = .ok (.aload_n 0, 1) := by decide +kernel
theorem d_law_952 : decode code 952 = .ok (.iload_n 3, 1) := by decide +kernel
theorem d_law_953 : decode code 953 = .ok (.iconst 2, 1) := by decide +kernel
theorem d_law_954 : decode code 954 = .ok (.iadd, 1) := by decide +kernel
theorem d_law_955 : decode code 955 = .ok (.iaload, 1) := by decide +kernel
theorem d_law_956 : decode code 956 = .ok (.aload_n 0, 1) := by decide +kernel
theorem d_law_957 : decode code 957 = .ok (.iload_n 3, 1) := by decide +kernel
theorem d_law_958 : decode code 958 = .ok (.iconst 3, 1) := by decide +kernel
theorem d_law_959 : decode code 959 = .ok (.iadd, 1) := by decide +kernel
theorem d_law_960 : decode code 960 = .ok (.iaload, 1) := by decide +kernel
theorem d_law_961 : decode code 961 = .ok (.aload_n 0, 1) := by decide +kernel
theorem d_law_962 : decode code 962 = .ok (.iload_n 3, 1) := by decide +kernel
theorem d_law_963 : decode code 963 = .ok (.iconst 4, 1) := by decide +kernel
theorem d_law_964 : decode code 964 = .ok (.iadd, 1) := by decide +kernel
theorem d_law_965 : decode code 965 = .ok (.iaload, 1) := by decide +kernel
theorem d_law_966 : decode code 966 = .ok (.aload_n 0, 1) := by decide +kernel
theorem d_law_967 : decode code 967 = .ok (.iload_n 3, 1) := by decide +kernel
theorem d_law_968 : decode code 968 = .ok (.iconst 5, 1) := by decide +kernel
theorem d_law_969 : decode code 969 = .ok (.iadd, 1) := by decide +kernel
theorem d_law_970 : decode code 970 = .ok (.iaload, 1) := by decide +kernel
theorem d_law_971 : decode code 971 = .ok (.invokevirtual 135, 3) := by decide +kernel
theorem d_law_974 : decode code 974 = .ok (.aload_n 2, 1) := by decide +kernel
theorem d_law_975 : decode code 975 = .ok (.aload_n 0, 1) := by decide +kernel
theorem d_law_976 : decode code 976 = .ok (.iload_n 3, 1) := by decide +kernel
theorem d_law_977 : decode code 977 = .ok (.iconst 1, 1) := by decide +kernel
theorem d_law_978 : decode code 978 = .ok (.iadd, 1) := by decide +kernel
theorem d_law_979 : decode code 979 = .ok (.iaload, 1) := by decide +kernel
theorem d_law_980 : decode code 980 = .ok (.aload_n 0, 1) := by decide +kernel
theorem d_law_981 : decode code 981 = .ok (.iload_n 3, 1) := by decide +kernel
theorem d_law_982 : decode code 982 = .ok (.iconst 2, 1) := by decide +kernel
theorem d_law_983 : decode code 983 = .ok (.iadd, 1) := by decide +kernel
theorem d_law_984 : decode code 984 = .ok (.iaload, 1) := by decide +kernel
theorem d_law_985 : decode code 985 = .ok (.aload_n 0, 1) := by decide +kernel
theorem d_law_986 : decode code 986 = .ok (.iload_n 3, 1) := by decide +kernel
theorem d_law_987 : decode code 987 = .ok (.iconst 3, 1) := by decide +kernel
theorem d_law_988 : decode code 988 = .ok (.iadd, 1) := by decide +kernel
theorem d_law_989 : decode code 989 = .ok (.iaload, 1) := by decide +kernel
theorem d_law_990 : decode code 990 = .ok (.aload_n 0, 1) := by decide +kernel
theorem d_law_991 : decode code 991 = .ok (.iload_n 3, 1) := by decide +kernel
theorem d_law_992 : decode code 992 = .ok (.iconst 4, 1) := by decide +kernel
theorem d_law_993 : decode code 993 = .ok (.iadd, 1) := by decide +kernel
theorem d_law_994 : decode code 994 = .ok (.iaload, 1) := by decide +kernel
theorem d_law_995 : decode code 995 = .ok (.aload_n 0, 1) := by decide +kernel
theorem d_law_996 : decode code 996 = .ok (.iload_n 3, 1) := by decide +kernel
theorem d_law_997 : decode code 997 = .ok (.iconst 5, 1) := by decide +kernel
theorem d_law_998 : decode code 998 = .ok (.iadd, 1) := by decide +kernel
theorem d_law_999 : decode code 999 = .ok (.iaload, 1) := by decide +kernel
theorem d_law_1000 : decode code 1000 = .ok (.invokevirtual 139, 3) := by decide +kernel
theorem d_law_1003 : decode code 1003 = .ok (.if_icmp .eq 91, 3) := by decide +kernel
theorem d_law_1006 : decode code 1006 = .ok (.iconst 0, 1) := by decide +kernel
theorem d_law_1007 : decode code 1007 = .ok (.ireturn, 1) := by decide +kernel
theorem d_law_1008 : decode code 1008 = .ok (.aload_n 1, 1) := by decide +kernel
theorem d_law_1009 : decode code 1009 = .ok (.aload_n 0, 1) := by decide +kernel
theorem d_law_1010 : decode code 1010 = .ok (.iload_n 3, 1) := by decide +kernel
theorem d_law_1011 : decode code 1011 = .ok (.iconst 1, 1) := by decide +kernel
theorem d_law_1012 : decode code 1012 = .ok (.iadd, 1) := by decide +kernel
theorem d_law_1013 : decode code 1013 = .ok (.iaload, 1) := by decide +kernel
theorem d_law_1014 : decode code 1014 = .ok (.aload_n 0, 1) := by decide +kernel
theorem d_law_1015 : decode code 1015 = .ok (.iload_n 3, 1) := by decide +kernel
theorem d_law_1016 : decode code 1016 = .ok (.iconst 2, 1) := by decide +kernel
theorem d_law_1017 : decode code 1017 = .ok (.iadd, 1) := by decide +kernel
theorem d_law_1018 : decode code 1018 = .ok (.iaload, 1) := by decide +kernel
theorem d_law_1019 : decode code 1019 = .ok (.aload_n 0, 1) := by decide +kernel
theorem d_law_1020 : decode code 1020 = .ok (.iload_n 3, 1) := by decide +kernel
theorem d_law_1021 : decode code 1021 = .ok (.iconst 3, 1) := by decide +kernel
theorem d_law_1022 : decode code 1022 = .ok (.iadd, 1) := by decide +kernel
theorem d_law_1023 : decode code 1023 = .ok (.iaload, 1) := by decide +kernel
theorem d_law_1024 : decode code 1024 = .ok (.aload_n 0, 1) := by decide +kernel
theorem d_law_1025 : decode code 1025 = .ok (.iload_n 3, 1) := by decide +kernel
theorem d_law_1026 : decode code 1026 = .ok (.iconst 4, 1) := by decide +kernel
theorem d_law_1027 : decode code 1027 = .ok (.iadd, 1) := by decide +kernel
theorem d_law_1028 : decode code 1028 = .ok (.iaload, 1) := by decide +kernel
theorem d_law_1029 : decode code 1029 = .ok (.invokevirtual 140, 3) := by decide +kernel
theorem d_law_1032 : decode code 1032 = .ok (.aload_n 2, 1) := by decide +kernel
theorem d_law_1033 : decode code 1033 = .ok (.aload_n 0, 1) := by decide +kernel
theorem d_law_1034 : decode code 1034 = .ok (.iload_n 3, 1) := by decide +kernel
theorem d_law_1035 : decode code 1035 = .ok (.iconst 1, 1) := by decide +kernel
theorem d_law_1036 : decode code 1036 = .ok (.iadd, 1) := by decide +kernel
theorem d_law_1037 : decode code 1037 = .ok (.iaload, 1) := by decide +kernel
theorem d_law_1038 : decode code 1038 = .ok (.aload_n 0, 1) := by decide +kernel
theorem d_law_1039 : decode code 1039 = .ok (.iload_n 3, 1) := by decide +kernel
theorem d_law_1040 : decode code 1040 = .ok (.iconst 2, 1) := by decide +kernel
theorem d_law_1041 : decode code 1041 = .ok (.iadd, 1) := by decide +kernel
theorem d_law_1042 : decode code 1042 = .ok (.iaload, 1) := by decide +kernel
theorem d_law_1043 : decode code 1043 = .ok (.aload_n 0, 1) := by decide +kernel
theorem d_law_1044 : decode code 1044 = .ok (.iload_n 3, 1) := by decide +kernel
theorem d_law_1045 : decode code 1045 = .ok (.iconst 3, 1) := by decide +kernel
theorem d_law_1046 : decode code 1046 = .ok (.iadd, 1) := by decide +kernel
theorem d_law_1047 : decode code 1047 = .ok (.iaload, 1) := by decide +kernel
theorem d_law_1048 : decode code 1048 = .ok (.aload_n 0, 1) := by decide +kernel
theorem d_law_1049 : decode code 1049 = .ok (.iload_n 3, 1) := by decide +kernel
theorem d_law_1050 : decode code 1050 = .ok (.iconst 4, 1) := by decide +kernel
theorem d_law_1051 : decode code 1051 = .ok (.iadd, 1) := by decide +kernel
theorem d_law_1052 : decode code 1052 = .ok (.iaload, 1) := by decide +kernel
theorem d_law_1053 : decode code 1053 = .ok (.invokevirtual 144, 3) := by decide +kernel
theorem d_law_1056 : decode code 1056 = .ok (.if_icmp .eq 38, 3) := by decide +kernel
theorem d_law_1059 : decode code 1059 = .ok (.iconst 0, 1) := by decide +kernel
theorem d_law_1060 : decode code 1060 = .ok (.ireturn, 1) := by decide +kernel
theorem d_law_1061 : decode code 1061 = .ok (.aload_n 1, 1) := by decide +kernel
theorem d_law_1062 : decode code 1062 = .ok (.aload_n 0, 1) := by decide +kernel
theorem d_law_1063 : decode code 1063 = .ok (.iload_n 3, 1) := by decide +kernel
theorem d_law_1064 : decode code 1064 = .ok (.iconst 1, 1) := by decide +kernel
theorem d_law_1065 : decode code 1065 = .ok (.iadd, 1) := by decide +kernel
theorem d_law_1066 : decode code 1066 = .ok (.iaload, 1) := by decide +kernel
theorem d_law_1067 : decode code 1067 = .ok (.aload_n 0, 1) := by decide +kernel
theorem d_law_1068 : decode code 1068 = .ok (.iload_n 3, 1) := by decide +kernel
theorem d_law_1069 : decode code 1069 = .ok (.iconst 2, 1) := by decide +kernel
theorem d_law_1070 : decode code 1070 = .ok (.iadd, 1) := by decide +kernel
theorem d_law_1071 : decode code 1071 = .ok (.iaload, 1) := by decide +kernel
theorem d_law_1072 : decode code 1072 = .ok (.invokevirtual 145, 3) := by decide +kernel
theorem d_law_1075 : decode code 1075 = .ok (.aload_n 2, 1) := by decide +kernel
theorem d_law_1076 : decode code 1076 = .ok (.aload_n 0, 1) := by decide +kernel
theorem d_law_1077 : decode code 1077 = .ok (.iload_n 3, 1) := by decide +kernel
theorem d_law_1078 : decode code 1078 = .ok (.iconst 1, 1) := by decide +kernel
theorem d_law_1079 : decode code 1079 = .ok (.iadd, 1) := by decide +kernel
theorem d_law_1080 : decode code 1080 = .ok (.iaload, 1) := by decide +kernel
theorem d_law_1081 : decode code 1081 = .ok (.aload_n 0, 1) := by decide +kernel
theorem d_law_1082 : decode code 1082 = .ok (.iload_n 3, 1) := by decide +kernel
theorem d_law_1083 : decode code 1083 = .ok (.iconst 2, 1) := by decide +kernel
theorem d_law_1084 : decode code 1084 = .ok (.iadd, 1) := by decide +kernel
theorem d_law_1085 : decode code 1085 = .ok (.iaload, 1) := by decide +kernel
theorem d_law_1086 : decode code 1086 = .ok (.invokevirtual 148, 3) := by decide +kernel
theorem d_law_1089 : decode code 1089 = .ok (.if_icmp .eq 5, 3) := by decide +kernel
theorem d_law_1092 : decode code 1092 = .ok (.iconst 0, 1) := by decide +kernel
theorem d_law_1093 : decode code 1093 = .ok (.ireturn, 1) := by decide +kernel
theorem d_law_1094 : decode code 1094 = .ok (.iinc 3 6, 3) := by decide +kernel
theorem d_law_1097 : decode code 1097 = .ok (.goto (-1079), 3) := by decide +kernel
theorem d_law_1100 : decode code 1100 = .ok (.iconst 1, 1) := by decide +kernel
theorem d_law_1101 : decode code 1101 = .ok (.ireturn, 1) := by decide +kernel
theorem feX8_back : CLE yX8_back 0 cX8_back 1 (some .int) := ⟨tmem 1 (by decide +kernel) rfl, tmem 882 (by decide +kernel) rfl, by decide +kernel, by decide +kernel⟩
theorem feX8_best : CLE yX8_best 1 cX8_best 4 (some .int) := ⟨tmem 1 (by decide +kernel) rfl, tmem 751 (by decide +kernel) rfl, by decide +kernel, by decide +kernel⟩
theorem feX8_cell : CLE yX8_cell 3 cX8_cell 4 (some .int) := ⟨tmem 1 (by decide +kernel) rfl, tmem 898 (by decide +kernel) rfl, by decide +kernel, by decide +kernel⟩
theorem feX8_chance : CLE yX8_chance 3 cX8_chance 7 (some .long) := ⟨tmem 1 (by decide +kernel) rfl, tmem 865 (by decide +kernel) rfl, by decide +kernel, by decide +kernel⟩
theorem feX8_change : CLE yX8_change 1 cX8_change 7 (some .int) := ⟨tmem 1 (by decide +kernel) rfl, tmem 806 (by decide +kernel) rfl, by decide +kernel, by decide +kernel⟩
theorem feX8_copy : CLE yX8_copy 5 cX8_copy 6 (some .int) := ⟨tmem 1 (by decide +kernel) rfl, tmem 902 (by decide +kernel) rfl, by decide +kernel, by decide +kernel⟩
theorem feX8_count : CLE yX8_count 1 cX8_count 2 (some .int) := ⟨tmem 1 (by decide +kernel) rfl, tmem 890 (by decide +kernel) rfl, by decide +kernel, by decide +kernel⟩
theorem feX8_customer : CLE yX8_customer 2 cX8_customer 3 (some .int) := ⟨tmem 1 (by decide +kernel) rfl, tmem 561 (by decide +kernel) rfl, by decide +kernel, by decide +kernel⟩
theorem feX8_customers : CLE yX8_customers 4 cX8_customers 10 (some .int) := ⟨tmem 1 (by decide +kernel) rfl, tmem 911 (by decide +kernel) rfl, by decide +kernel, by decide +kernel⟩
theorem feX8_drawn : CLE yX8_drawn 1 cX8_drawn 2 (some .int) := ⟨tmem 1 (by decide +kernel) rfl, tmem 856 (by decide +kernel) rfl, by decide +kernel, by decide +kernel⟩
theorem feX8_errand : CLE yX8_errand 2 cX8_errand 4 (some .int) := ⟨tmem 1 (by decide +kernel) rfl, tmem 649 (by decide +kernel) rfl, by decide +kernel, by decide +kernel⟩
theorem feX8_feed : CLE yX8_feed 1 cX8_feed 2 (some .int) := ⟨tmem 1 (by decide +kernel) rfl, tmem 628 (by decide +kernel) rfl, by decide +kernel, by decide +kernel⟩
theorem feX8_film : CLE yX8_film 2 cX8_film 5 (some .int) := ⟨tmem 1 (by decide +kernel) rfl, tmem 841 (by decide +kernel) rfl, by decide +kernel, by decide +kernel⟩
theorem feX8_force : CLE yX8_force 1 cX8_force 3 (some .int) := ⟨tmem 1 (by decide +kernel) rfl, tmem 636 (by decide +kernel) rfl, by decide +kernel, by decide +kernel⟩
theorem feX8_image : CLE yX8_image 0 cX8_image 1 (some .int) := ⟨tmem 1 (by decide +kernel) rfl, tmem 873 (by decide +kernel) rfl, by decide +kernel, by decide +kernel⟩
theorem feX8_init : CLE yX8_init 0 cX8_init 2 none := ⟨tmem 1 (by decide +kernel) rfl, tmem 22 (by decide +kernel) rfl, by decide +kernel, by decide +kernel⟩
theorem feX8_latest : CLE yX8_latest 2 cX8_latest 4 (some .int) := ⟨tmem 1 (by decide +kernel) rfl, tmem 779 (by decide +kernel) rfl, by decide +kernel, by decide +kernel⟩
theorem feX8_leave : CLE yX8_leave 0 cX8_leave 6 (some .int) := ⟨tmem 1 (by decide +kernel) rfl, tmem 785 (by decide +kernel) rfl, by decide +kernel, by decide +kernel⟩
theorem feX8_likely : CLE yX8_likely 1 cX8_likely 6 (some .long) := ⟨tmem 1 (by decide +kernel) rfl, tmem 814 (by decide +kernel) rfl, by decide +kernel, by decide +kernel⟩
theorem feX8_lines : CLE yX8_lines 1 cX8_lines 6 (some .int) := ⟨tmem 1 (by decide +kernel) rfl, tmem 810 (by decide +kernel) rfl, by decide +kernel, by decide +kernel⟩
theorem feX8_more : CLE yX8_more 1 cX8_more 3 (some .int) := ⟨tmem 1 (by decide +kernel) rfl, tmem 793 (by decide +kernel) rfl, by decide +kernel, by decide +kernel⟩
theorem feX8_nearest : CLE yX8_nearest 1 cX8_nearest 2 (some .int) := ⟨tmem 1 (by decide +kernel) rfl, tmem 735 (by decide +kernel) rfl, by decide +kernel, by decide +kernel⟩
theorem feX8_serve : CLE yX8_serve 0 cX8_serve 2 (some .int) := ⟨tmem 1 (by decide +kernel) rfl, tmem 620 (by decide +kernel) rfl, by decide +kernel, by decide +kernel⟩
theorem feX8_served : CLE yX8_served 2 cX8_served 5 (some .int) := ⟨tmem 1 (by decide +kernel) rfl, tmem 829 (by decide +kernel) rfl, by decide +kernel, by decide +kernel⟩
theorem feX8_set : CLE yX8_set 3 cX8_set 4 (some .int) := ⟨tmem 1 (by decide +kernel) rfl, tmem 577 (by decide +kernel) rfl, by decide +kernel, by decide +kernel⟩
theorem feX8_sheet : CLE yX8_sheet 3 cX8_sheet 4 (some .int) := ⟨tmem 1 (by decide +kernel) rfl, tmem 894 (by decide +kernel) rfl, by decide +kernel, by decide +kernel⟩
theorem feX8_slip : CLE yX8_slip 2 cX8_slip 4 (some .int) := ⟨tmem 1 (by decide +kernel) rfl, tmem 820 (by decide +kernel) rfl, by decide +kernel, by decide +kernel⟩
theorem feX8_stand : CLE yX8_stand 1 cX8_stand 8 (some .int) := ⟨tmem 1 (by decide +kernel) rfl, tmem 802 (by decide +kernel) rfl, by decide +kernel, by decide +kernel⟩
theorem feX8_taken : CLE yX8_taken 2 cX8_taken 3 (some .int) := ⟨tmem 1 (by decide +kernel) rfl, tmem 916 (by decide +kernel) rfl, by decide +kernel, by decide +kernel⟩
theorem feX8_text : CLE yX8_text 0 cX8_text 2 (some .int) := ⟨tmem 1 (by decide +kernel) rfl, tmem 632 (by decide +kernel) rfl, by decide +kernel, by decide +kernel⟩
theorem feX8_thing : CLE yX8_thing 2 cX8_thing 3 (some .int) := ⟨tmem 1 (by decide +kernel) rfl, tmem 569 (by decide +kernel) rfl, by decide +kernel, by decide +kernel⟩
theorem feX8_told : CLE yX8_told 2 cX8_told 3 (some .int) := ⟨tmem 1 (by decide +kernel) rfl, tmem 596 (by decide +kernel) rfl, by decide +kernel, by decide +kernel⟩
theorem feX8_turn : CLE yX8_turn 0 cX8_turn 1 (some .int) := ⟨tmem 1 (by decide +kernel) rfl, tmem 640 (by decide +kernel) rfl, by decide +kernel, by decide +kernel⟩
theorem feX9_back : CLE yX9_back 0 cX9_back 2 (some .int) := ⟨tmem 17 (by decide +kernel) rfl, tmem 1385 (by decide +kernel) rfl, by decide +kernel, by decide +kernel⟩
theorem feX9_best : CLE yX9_best 1 cX9_best 4 (some .int) := ⟨tmem 17 (by decide +kernel) rfl, tmem 1287 (by decide +kernel) rfl, by decide +kernel, by decide +kernel⟩
theorem feX9_cell : CLE yX9_cell 3 cX9_cell 4 (some .int) := ⟨tmem 17 (by decide +kernel) rfl, tmem 1394 (by decide +kernel) rfl, by decide +kernel, by decide +kernel⟩
theorem feX9_chance : CLE yX9_chance 3 cX9_chance 12 (some .long) := ⟨tmem 17 (by decide +kernel) rfl, tmem 1376 (by decide +kernel) rfl, by decide +kernel, by decide +kernel⟩
theorem feX9_change : CLE yX9_change 1 cX9_change 7 (some .int) := ⟨tmem 17 (by decide +kernel) rfl, tmem 1320 (by decide +kernel) rfl, by decide +kernel, by decide +kernel⟩
theorem feX9_copy : CLE yX9_copy 5 cX9_copy 9 (some .int) := ⟨tmem 17 (by decide +kernel) rfl, tmem 1398 (by decide +kernel) rfl, by decide +kernel, by decide +kernel⟩
theorem feX9_count : CLE yX9_count 1 cX9_count 2 (some .int) := ⟨tmem 17 (by decide +kernel) rfl, tmem 1389 (by decide +kernel) rfl, by decide +kernel, by decide +kernel⟩
theorem feX9_customers : CLE yX9_customers 4 cX9_customers 8 (some .int) := ⟨tmem 17 (by decide +kernel) rfl, tmem 1402 (by decide +kernel) rfl, by decide +kernel, by decide +kernel⟩
theorem feX9_drawn : CLE yX9_drawn 1 cX9_drawn 2 (some .int) := ⟨tmem 17 (by decide +kernel) rfl, tmem 1367 (by decide +kernel) rfl, by decide +kernel, by decide +kernel⟩
theorem feX9_errand : CLE yX9_errand 2 cX9_errand 5 (some .int) := ⟨tmem 17 (by decide +kernel) rfl, tmem 1252 (by decide +kernel) rfl, by decide +kernel, by decide +kernel⟩
theorem feX9_feed : CLE yX9_feed 1 cX9_feed 2 (some .int) := ⟨tmem 17 (by decide +kernel) rfl, tmem 1231 (by decide +kernel) rfl, by decide +kernel, by decide +kernel⟩
theorem feX9_film : CLE yX9_film 2 cX9_film 5 (some .int) := ⟨tmem 17 (by decide +kernel) rfl, tmem 1358 (by decide +kernel) rfl, by decide +kernel, by decide +kernel⟩
theorem feX9_force : CLE yX9_force 1 cX9_force 3 (some .int) := ⟨tmem 17 (by decide +kernel) rfl, tmem 1240 (by decide +kernel) rfl, by decide +kernel, by decide +kernel⟩
theorem feX9_image : CLE yX9_image 0 cX9_image 2 (some .int) := ⟨tmem 17 (by decide +kernel) rfl, tmem 1381 (by decide +kernel) rfl, by decide +kernel, by decide +kernel⟩
theorem feX9_init : CLE yX9_init 0 cX9_init 1 none := ⟨tmem 17 (by decide +kernel) rfl, tmem 926 (by decide +kernel) rfl, by decide +kernel, by decide +kernel⟩
theorem feX9_latest : CLE yX9_latest 2 cX9_latest 4 (some .int) := ⟨tmem 17 (by decide +kernel) rfl, tmem 1303 (by decide +kernel) rfl, by decide +kernel, by decide +kernel⟩
theorem feX9_leave : CLE yX9_leave 0 cX9_leave 5 (some .int) := ⟨tmem 17 (by decide +kernel) rfl, tmem 1308 (by decide +kernel) rfl, by decide +kernel, by decide +kernel⟩
theorem feX9_likely : CLE yX9_likely 1 cX9_likely 5 (some .long) := ⟨tmem 17 (by decide +kernel) rfl, tmem 1337 (by decide +kernel) rfl, by decide +kernel, by decide +kernel⟩
theorem feX9_lines : CLE yX9_lines 1 cX9_lines 2 (some .int) := ⟨tmem 17 (by decide +kernel) rfl, tmem 1329 (by decide +kernel) rfl, by decide +kernel, by decide +kernel⟩
theorem feX9_more : CLE yX9_more 1 cX9_more 3 (some .int) := ⟨tmem 17 (by decide +kernel) rfl, tmem 1312 (by decide +kernel) rfl, by decide +kernel, by decide +kernel⟩
theorem feX9_nearest : CLE yX9_nearest 1 cX9_nearest 7 (some .int) := ⟨tmem 17 (by decide +kernel) rfl, tmem 1279 (by decide +kernel) rfl, by decide +kernel, by decide +kernel⟩
theorem feX9_serve : CLE yX9_serve 0 cX9_serve 3 (some .int) := ⟨tmem 17 (by decide +kernel) rfl, tmem 1227 (by decide +kernel) rfl, by decide +kernel, by decide +kernel⟩
theorem feX9_served : CLE yX9_served 2 cX9_served 6 (some .int) := ⟨tmem 17 (by decide +kernel) rfl, tmem 1350 (by decide +kernel) rfl, by decide +kernel, by decide +kernel⟩
theorem feX9_set : CLE yX9_set 3 cX9_set 5 (some .int) := ⟨tmem 17 (by decide +kernel) rfl, tmem 1119 (by decide +kernel) rfl, by decide +kernel, by decide +kernel⟩
theorem feX9_slip : CLE yX9_slip 2 cX9_slip 5 (some .int) := ⟨tmem 17 (by decide +kernel) rfl, tmem 1342 (by decide +kernel) rfl, by decide +kernel, by decide +kernel⟩
theorem feX9_stand : CLE yX9_stand 1 cX9_stand 7 (some .int) := ⟨tmem 17 (by decide +kernel) rfl, tmem 1316 (by decide +kernel) rfl, by decide +kernel, by decide +kernel⟩
theorem feX9_taken : CLE yX9_taken 2 cX9_taken 4 (some .int) := ⟨tmem 17 (by decide +kernel) rfl, tmem 1408 (by decide +kernel) rfl, by decide +kernel, by decide +kernel⟩
theorem feX9_text : CLE yX9_text 0 cX9_text 2 (some .int) := ⟨tmem 17 (by decide +kernel) rfl, tmem 1236 (by decide +kernel) rfl, by decide +kernel, by decide +kernel⟩
theorem feX9_thing : CLE yX9_thing 2 cX9_thing 3 (some .int) := ⟨tmem 17 (by decide +kernel) rfl, tmem 1113 (by decide +kernel) rfl, by decide +kernel, by decide +kernel⟩
theorem feX9_told : CLE yX9_told 2 cX9_told 3 (some .int) := ⟨tmem 17 (by decide +kernel) rfl, tmem 1135 (by decide +kernel) rfl, by decide +kernel, by decide +kernel⟩
theorem fkR_law_101 : LNK R_law 101 yX9_served := Or.inl (tmem 1347 (by decide +kernel) rfl)
theorem fkR_law_102 : LNK R_law 102 yX8_film := Or.inl (tmem 838 (by decide +kernel) rfl)
theorem fkR_law_105 : LNK R_law 105 yX9_film := Or.inl (tmem 1355 (by decide +kernel) rfl)
theorem fkR_law_106 : LNK R_law 106 yX8_drawn := Or.inl (tmem 853 (by decide +kernel) rfl)
theorem fkR_law_109 : LNK R_law 109 yX9_drawn := Or.inl (tmem 1364 (by decide +kernel) rfl)
theorem fkR_law_110 : LNK R_law 110 yX8_chance := Or.inl (tmem 862 (by decide +kernel) rfl)
theorem fkR_law_114 : LNK R_law 114 yX9_chance := Or.inl (tmem 1373 (by decide +kernel) rfl)
theorem fkR_law_115 : LNK R_law 115 yX8_image := Or.inl (tmem 870 (by decide +kernel) rfl)
theorem fkR_law_118 : LNK R_law 118 yX9_image := Or.inl (tmem 1378 (by decide +kernel) rfl)
theorem fkR_law_119 : LNK R_law 119 yX8_back := Or.inl (tmem 879 (by decide +kernel) rfl)
theorem fkR_law_12 : LNK R_law 12 yX9_init := Or.inl (tmem 924 (by decide +kernel) rfl)
theorem fkR_law_122 : LNK R_law 122 yX9_back := Or.inl (tmem 1382 (by decide +kernel) rfl)
theorem fkR_law_123 : LNK R_law 123 yX8_count := Or.inl (tmem 887 (by decide +kernel) rfl)
theorem fkR_law_126 : LNK R_law 126 yX9_count := Or.inl (tmem 1386 (by decide +kernel) rfl)
theorem fkR_law_127 : LNK R_law 127 yX8_sheet := Or.inl (tmem 891 (by decide +kernel) rfl)
theorem fkR_law_13 : LNK R_law 13 yX8_customer := Or.inl (tmem 558 (by decide +kernel) rfl)
theorem fkR_law_130 : LNK R_law 130 yX9_sheet := Or.inl (tmem 1390 (by decide +kernel) rfl)
theorem fkR_law_131 : LNK R_law 131 yX8_cell := Or.inl (tmem 895 (by decide +kernel) rfl)
theorem fkR_law_134 : LNK R_law 134 yX9_cell := Or.inl (tmem 1391 (by decide +kernel) rfl)
theorem fkR_law_135 : LNK R_law 135 yX8_copy := Or.inl (tmem 899 (by decide +kernel) rfl)
theorem fkR_law_139 : LNK R_law 139 yX9_copy := Or.inl (tmem 1395 (by decide +kernel) rfl)
theorem fkR_law_140 : LNK R_law 140 yX8_customers := Or.inl (tmem 908 (by decide +kernel) rfl)
theorem fkR_law_144 : LNK R_law 144 yX9_customers := Or.inl (tmem 1399 (by decide +kernel) rfl)
theorem fkR_law_145 : LNK R_law 145 yX8_taken := Or.inl (tmem 913 (by decide +kernel) rfl)
theorem fkR_law_148 : LNK R_law 148 yX9_taken := Or.inl (tmem 1405 (by decide +kernel) rfl)
theorem fkR_law_17 : LNK R_law 17 yX9_customer := Or.inl (tmem 1101 (by decide +kernel) rfl)
theorem fkR_law_18 : LNK R_law 18 yX8_thing := Or.inl (tmem 566 (by decide +kernel) rfl)
theorem fkR_law_21 : LNK R_law 21 yX9_thing := Or.inl (tmem 1110 (by decide +kernel) rfl)
theorem fkR_law_22 : LNK R_law 22 yX8_set := Or.inl (tmem 574 (by decide +kernel) rfl)
theorem fkR_law_26 : LNK R_law 26 yX9_set := Or.inl (tmem 1116 (by decide +kernel) rfl)
theorem fkR_law_27 : LNK R_law 27 yX8_told := Or.inl (tmem 593 (by decide +kernel) rfl)
theorem fkR_law_30 : LNK R_law 30 yX9_told := Or.inl (tmem 1132 (by decide +kernel) rfl)
theorem fkR_law_31 : LNK R_law 31 yX8_serve := Or.inl (tmem 617 (by decide +kernel) rfl)
theorem fkR_law_35 : LNK R_law 35 yX9_serve := Or.inl (tmem 1224 (by decide +kernel) rfl)
theorem fkR_law_36 : LNK R_law 36 yX8_feed := Or.inl (tmem 625 (by decide +kernel) rfl)
theorem fkR_law_40 : LNK R_law 40 yX9_feed := Or.inl (tmem 1228 (by decide +kernel) rfl)
theorem fkR_law_41 : LNK R_law 41 yX8_text := Or.inl (tmem 629 (by decide +kernel) rfl)
theorem fkR_law_44 : LNK R_law 44 yX9_text := Or.inl (tmem 1233 (by decide +kernel) rfl)
theorem fkR_law_45 : LNK R_law 45 yX8_force := Or.inl (tmem 633 (by decide +kernel) rfl)
theorem fkR_law_48 : LNK R_law 48 yX9_force := Or.inl (tmem 1237 (by decide +kernel) rfl)
theorem fkR_law_49 : LNK R_law 49 yX8_turn := Or.inl (tmem 637 (by decide +kernel) rfl)
theorem fkR_law_52 : LNK R_law 52 yX9_turn := Or.inl (tmem 1241 (by decide +kernel) rfl)
theorem fkR_law_53 : LNK R_law 53 yX8_errand := Or.inl (tmem 646 (by decide +kernel) rfl)
theorem fkR_law_56 : LNK R_law 56 yX9_errand := Or.inl (tmem 1249 (by decide +kernel) rfl)
theorem fkR_law_57 : LNK R_law 57 yX8_nearest := Or.inl (tmem 732 (by decide +kernel) rfl)
theorem fkR_law_60 : LNK R_law 60 yX9_nearest := Or.inl (tmem 1276 (by decide +kernel) rfl)
theorem fkR_law_61 : LNK R_law 61 yX8_best := Or.inl (tmem 748 (by decide +kernel) rfl)
theorem fkR_law_64 : LNK R_law 64 yX9_best := Or.inl (tmem 1284 (by decide +kernel) rfl)
theorem fkR_law_65 : LNK R_law 65 yX8_latest := Or.inl (tmem 776 (by decide +kernel) rfl)
theorem fkR_law_68 : LNK R_law 68 yX9_latest := Or.inl (tmem 1300 (by decide +kernel) rfl)
theorem fkR_law_69 : LNK R_law 69 yX8_leave := Or.inl (tmem 782 (by decide +kernel) rfl)
theorem fkR_law_72 : LNK R_law 72 yX9_leave := Or.inl (tmem 1305 (by decide +kernel) rfl)
theorem fkR_law_73 : LNK R_law 73 yX8_more := Or.inl (tmem 790 (by decide +kernel) rfl)
theorem fkR_law_76 : LNK R_law 76 yX9_more := Or.inl (tmem 1309 (by decide +kernel) rfl)
theorem fkR_law_77 : LNK R_law 77 yX8_stand := Or.inl (tmem 799 (by decide +kernel) rfl)
theorem fkR_law_80 : LNK R_law 80 yX9_stand := Or.inl (tmem 1313 (by decide +kernel) rfl)
theorem fkR_law_81 : LNK R_law 81 yX8_change := Or.inl (tmem 803 (by decide +kernel) rfl)
theorem fkR_law_84 : LNK R_law 84 yX9_change := Or.inl (tmem 1317 (by decide +kernel) rfl)
theorem fkR_law_85 : LNK R_law 85 yX8_lines := Or.inl (tmem 807 (by decide +kernel) rfl)
theorem fkR_law_88 : LNK R_law 88 yX9_lines := Or.inl (tmem 1326 (by decide +kernel) rfl)
theorem fkR_law_89 : LNK R_law 89 yX8_likely := Or.inl (tmem 811 (by decide +kernel) rfl)
theorem fkR_law_9 : LNK R_law 9 yX8_init := Or.inl (tmem 20 (by decide +kernel) rfl)
theorem fkR_law_93 : LNK R_law 93 yX9_likely := Or.inl (tmem 1334 (by decide +kernel) rfl)
theorem fkR_law_94 : LNK R_law 94 yX8_slip := Or.inl (tmem 817 (by decide +kernel) rfl)
theorem fkR_law_97 : LNK R_law 97 yX9_slip := Or.inl (tmem 1339 (by decide +kernel) rfl)
theorem fkR_law_98 : LNK R_law 98 yX8_served := Or.inl (tmem 826 (by decide +kernel) rfl)
theorem fvX8_back : CLV yX8_back := ⟨tmem 880 (by decide +kernel) rfl, tmem 881 (by decide +kernel) rfl⟩
theorem fvX8_best : CLV yX8_best := ⟨tmem 749 (by decide +kernel) rfl, tmem 750 (by decide +kernel) rfl⟩
theorem fvX8_cell : CLV yX8_cell := ⟨tmem 896 (by decide +kernel) rfl, tmem 897 (by decide +kernel) rfl⟩
theorem fvX8_chance : CLV yX8_chance := ⟨tmem 863 (by decide +kernel) rfl, tmem 864 (by decide +kernel) rfl⟩
theorem fvX8_change : CLV yX8_change := ⟨tmem 804 (by decide +kernel) rfl, tmem 805 (by decide +kernel) rfl⟩
theorem fvX8_copy : CLV yX8_copy := ⟨tmem 900 (by decide +kernel) rfl, tmem 901 (by decide +kernel) rfl⟩
theorem fvX8_count : CLV yX8_count := ⟨tmem 888 (by decide +kernel) rfl, tmem 889 (by decide +kernel) rfl⟩
theorem fvX8_customer : CLV yX8_customer := ⟨tmem 559 (by decide +kernel) rfl, tmem 560 (by decide +kernel) rfl⟩
theorem fvX8_customers : CLV yX8_customers := ⟨tmem 909 (by decide +kernel) rfl, tmem 910 (by decide +kernel) rfl⟩
theorem fvX8_drawn : CLV yX8_drawn := ⟨tmem 854 (by decide +kernel) rfl, tmem 855 (by decide +kernel) rfl⟩
theorem fvX8_errand : CLV yX8_errand := ⟨tmem 647 (by decide +kernel) rfl, tmem 648 (by decide +kernel) rfl⟩
theorem fvX8_feed : CLV yX8_feed := ⟨tmem 626 (by decide +kernel) rfl, tmem 627 (by decide +kernel) rfl⟩
theorem fvX8_film : CLV yX8_film := ⟨tmem 839 (by decide +kernel) rfl, tmem 840 (by decide +kernel) rfl⟩
theorem fvX8_force : CLV yX8_force := ⟨tmem 634 (by decide +kernel) rfl, tmem 635 (by decide +kernel) rfl⟩
theorem fvX8_image : CLV yX8_image := ⟨tmem 871 (by decide +kernel) rfl, tmem 872 (by decide +kernel) rfl⟩
theorem fvX8_latest : CLV yX8_latest := ⟨tmem 777 (by decide +kernel) rfl, tmem 778 (by decide +kernel) rfl⟩
theorem fvX8_leave : CLV yX8_leave := ⟨tmem 783 (by decide +kernel) rfl, tmem 784 (by decide +kernel) rfl⟩
theorem fvX8_likely : CLV yX8_likely := ⟨tmem 812 (by decide +kernel) rfl, tmem 813 (by decide +kernel) rfl⟩
theorem fvX8_lines : CLV yX8_lines := ⟨tmem 808 (by decide +kernel) rfl, tmem 809 (by decide +kernel) rfl⟩
theorem fvX8_more : CLV yX8_more := ⟨tmem 791 (by decide +kernel) rfl, tmem 792 (by decide +kernel) rfl⟩
theorem fvX8_nearest : CLV yX8_nearest := ⟨tmem 733 (by decide +kernel) rfl, tmem 734 (by decide +kernel) rfl⟩
theorem fvX8_serve : CLV yX8_serve := ⟨tmem 618 (by decide +kernel) rfl, tmem 619 (by decide +kernel) rfl⟩
theorem fvX8_served : CLV yX8_served := ⟨tmem 827 (by decide +kernel) rfl, tmem 828 (by decide +kernel) rfl⟩
theorem fvX8_set : CLV yX8_set := ⟨tmem 575 (by decide +kernel) rfl, tmem 576 (by decide +kernel) rfl⟩
theorem fvX8_sheet : CLV yX8_sheet := ⟨tmem 892 (by decide +kernel) rfl, tmem 893 (by decide +kernel) rfl⟩
theorem fvX8_slip : CLV yX8_slip := ⟨tmem 818 (by decide +kernel) rfl, tmem 819 (by decide +kernel) rfl⟩
theorem fvX8_stand : CLV yX8_stand := ⟨tmem 800 (by decide +kernel) rfl, tmem 801 (by decide +kernel) rfl⟩
theorem fvX8_taken : CLV yX8_taken := ⟨tmem 914 (by decide +kernel) rfl, tmem 915 (by decide +kernel) rfl⟩
theorem fvX8_text : CLV yX8_text := ⟨tmem 630 (by decide +kernel) rfl, tmem 631 (by decide +kernel) rfl⟩
theorem fvX8_thing : CLV yX8_thing := ⟨tmem 567 (by decide +kernel) rfl, tmem 568 (by decide +kernel) rfl⟩
theorem fvX8_told : CLV yX8_told := ⟨tmem 594 (by decide +kernel) rfl, tmem 595 (by decide +kernel) rfl⟩
theorem fvX8_turn : CLV yX8_turn := ⟨tmem 638 (by decide +kernel) rfl, tmem 639 (by decide +kernel) rfl⟩
theorem fvX9_back : CLV yX9_back := ⟨tmem 1383 (by decide +kernel) rfl, tmem 1384 (by decide +kernel) rfl⟩
theorem fvX9_best : CLV yX9_best := ⟨tmem 1285 (by decide +kernel) rfl, tmem 1286 (by decide +kernel) rfl⟩
theorem fvX9_cell : CLV yX9_cell := ⟨tmem 1392 (by decide +kernel) rfl, tmem 1393 (by decide +kernel) rfl⟩
theorem fvX9_chance : CLV yX9_chance := ⟨tmem 1374 (by decide +kernel) rfl, tmem 1375 (by decide +kernel) rfl⟩
theorem fvX9_change : CLV yX9_change := ⟨tmem 1318 (by decide +kernel) rfl, tmem 1319 (by decide +kernel) rfl⟩
theorem fvX9_copy : CLV yX9_copy := ⟨tmem 1396 (by decide +kernel) rfl, tmem 1397 (by decide +kernel) rfl⟩
theorem fvX9_count : CLV yX9_count := ⟨tmem 1387 (by decide +kernel) rfl, tmem 1388 (by decide +kernel) rfl⟩
theorem fvX9_customers : CLV yX9_customers := ⟨tmem 1400 (by decide +kernel) rfl, tmem 1401 (by decide +kernel) rfl⟩
theorem fvX9_drawn : CLV yX9_drawn := ⟨tmem 1365 (by decide +kernel) rfl, tmem 1366 (by decide +kernel) rfl⟩
theorem fvX9_errand : CLV yX9_errand := ⟨tmem 1250 (by decide +kernel) rfl, tmem 1251 (by decide +kernel) rfl⟩
theorem fvX9_feed : CLV yX9_feed := ⟨tmem 1229 (by decide +kernel) rfl, tmem 1230 (by decide +kernel) rfl⟩
theorem fvX9_film : CLV yX9_film := ⟨tmem 1356 (by decide +kernel) rfl, tmem 1357 (by decide +kernel) rfl⟩
theorem fvX9_force : CLV yX9_force := ⟨tmem 1238 (by decide +kernel) rfl, tmem 1239 (by decide +kernel) rfl⟩
theorem fvX9_image : CLV yX9_image := ⟨tmem 1379 (by decide +kernel) rfl, tmem 1380 (by decide +kernel) rfl⟩
theorem fvX9_latest : CLV yX9_latest := ⟨tmem 1301 (by decide +kernel) rfl, tmem 1302 (by decide +kernel) rfl⟩
theorem fvX9_leave : CLV yX9_leave := ⟨tmem 1306 (by decide +kernel) rfl, tmem 1307 (by decide +kernel) rfl⟩
theorem fvX9_likely : CLV yX9_likely := ⟨tmem 1335 (by decide +kernel) rfl, tmem 1336 (by decide +kernel) rfl⟩
theorem fvX9_lines : CLV yX9_lines := ⟨tmem 1327 (by decide +kernel) rfl, tmem 1328 (by decide +kernel) rfl⟩
theorem fvX9_more : CLV yX9_more := ⟨tmem 1310 (by decide +kernel) rfl, tmem 1311 (by decide +kernel) rfl⟩
theorem fvX9_nearest : CLV yX9_nearest := ⟨tmem 1277 (by decide +kernel) rfl, tmem 1278 (by decide +kernel) rfl⟩
theorem fvX9_serve : CLV yX9_serve := ⟨tmem 1225 (by decide +kernel) rfl, tmem 1226 (by decide +kernel) rfl⟩
theorem fvX9_served : CLV yX9_served := ⟨tmem 1348 (by decide +kernel) rfl, tmem 1349 (by decide +kernel) rfl⟩
theorem fvX9_set : CLV yX9_set := ⟨tmem 1117 (by decide +kernel) rfl, tmem 1118 (by decide +kernel) rfl⟩
theorem fvX9_slip : CLV yX9_slip := ⟨tmem 1340 (by decide +kernel) rfl, tmem 1341 (by decide +kernel) rfl⟩
theorem fvX9_stand : CLV yX9_stand := ⟨tmem 1314 (by decide +kernel) rfl, tmem 1315 (by decide +kernel) rfl⟩
theorem fvX9_taken : CLV yX9_taken := ⟨tmem 1406 (by decide +kernel) rfl, tmem 1407 (by decide +kernel) rfl⟩
theorem fvX9_text : CLV yX9_text := ⟨tmem 1234 (by decide +kernel) rfl, tmem 1235 (by decide +kernel) rfl⟩
theorem fvX9_thing : CLV yX9_thing := ⟨tmem 1111 (by decide +kernel) rfl, tmem 1112 (by decide +kernel) rfl⟩
theorem fvX9_told : CLV yX9_told := ⟨tmem 1133 (by decide +kernel) rfl, tmem 1134 (by decide +kernel) rfl⟩

/-! THE CLAIM OUT OF ONE WALK OF THE LAW'S BODY. Your part is whole_start (and what it stands on); all else here is the same for every law, but numbers. -/
def R_law : String := "BlowOwedLaw"
def lw_P (b : Addr) (xs : List Int32) (args : Array Value) (s : State) : Prop := args = #[.ref b] ∧ s.IntsAt b xs ∧ xs.length ≤ 3072 ∧ (Jvm.Cond.and given_1 narrow_1).before args s = true
def lw_Q (_ : Array Value) (s : State) (o : Outcome) (t : State) : Prop := o = .returned (some (.int 1)) ∧ Framed s o t [] 600000 7302250
def lw_Z (below : List Frame) (a : Array Value) (s : State) : State → Prop := fun t => ∃ o, t.status = .running ∧ Ended t below o ∧ lw_Q a s o t
/-- the law's own end, with 1 on the stack, nothing written that was there before, its room as the claim has it -/
theorem lw_ret {p : Program} {l : Launch} {e : Env} {s : State} {m : MethodId} {below : List Frame} {meth : Method} {c : Code} {b : Nat} (hx : p.tables.exec = Jvm.exec) (hb : c.code = code) (hr : meth.sig.returnType = ret) (hlocks : meth.locks = false) {pc : Nat} {H : Heap} {ls : Array Slot} (hdg : decode code pc = .ok (.ireturn, 1)) : W p l e room_1 s m #[Value.ref b] below meth c H [] 600000 7302250 (lw_Z below #[Value.ref b] s) (F0 m pc ls [.int 1]) := by
  intro T hT X
  obtain ⟨fs, hret, hrun, hended, hW, hframe⟩ := X.leave (v := some (.int 1)) (hlocks := hlocks) (fun h => by rw [hr] at h; cases h)
  have hmeth' : T.vm.method? m = some meth := X.method'
  refine ⟨T.setFrames fs, ?_, .returned (some (.int 1)), hrun, hended, rfl, ⟨_, rfl⟩, hW, hframe⟩
  jvm_step X.here [X.here.top, hx, hb, hdg, hmeth', hr, ret, narrow_b1]
  (try refine ⟨rfl, ?_⟩); (try refine ⟨rfl, ?_⟩)
  first | (intro acts; rw [hret _ acts rfl rfl rfl]) | rw [hret _ _ rfl rfl rfl]
  exact Steps.refl _
/-- what holds at the law's entry: the machine, the code, the tables' words (any of lw_tbl by 'hts w (by decide +kernel)'), the script of L ints xs at the cell b, what the Statement gives of the start (any of its parts by flat_of_before) -/
def lw_At (p : Program) (s : State) (m : MethodId) (meth : Method) (c : Code) (b L : Nat) (xs : Nat → Int32) : Prop :=
  p.tables.exec = Jvm.exec ∧ c.code = code ∧ meth.sig.returnType = ret ∧ c.maxLocals = 4 ∧ s.vm.findClass R_law = some m.cls ∧ (∀ w ∈ lw_tbl, w.before #[Value.ref b] s = true) ∧ va_X b L xs s s.heap ∧ b < s.heap.size ∧ meth.locks = false ∧ (Jvm.Cond.and given_1 narrow_1).before #[Value.ref b] s = true
theorem dL_law_0 : decode code 0 = .ok (.new 7, 3) := by decide +kernel
theorem dL_law_3 : decode code 3 = .ok (.dup, 1) := by decide +kernel
theorem dL_law_4 : decode code 4 = .ok (.invokespecial 9, 3) := by decide +kernel
theorem dL_law_7 : decode code 7 = .ok (.astore_n 1, 1) := by decide +kernel
theorem dL_law_8 : decode code 8 = .ok (.new 10, 3) := by decide +kernel
theorem dL_law_11 : decode code 11 = .ok (.dup, 1) := by decide +kernel
theorem dL_law_12 : decode code 12 = .ok (.invokespecial 12, 3) := by decide +kernel
theorem dL_law_15 : decode code 15 = .ok (.astore_n 2, 1) := by decide +kernel
theorem dL_law_16 : decode code 16 = .ok (.iconst 0, 1) := by decide +kernel
theorem dL_law_17 : decode code 17 = .ok (.istore_n 3, 1) := by decide +kernel
theorem dL_law_18 : decode code 18 = .ok (.iload_n 3, 1) := by decide +kernel
theorem dL_law_19 : decode code 19 = .ok (.aload_n 0, 1) := by decide +kernel
theorem dL_law_20 : decode code 20 = .ok (.arraylength, 1) := by decide +kernel
theorem dL_law_21 : decode code 21 = .ok (.bipush 6, 2) := by decide +kernel
theorem dL_law_23 : decode code 23 = .ok (.isub, 1) := by decide +kernel
theorem dL_law_24 : decode code 24 = .ok (.if_icmp .gt 1072, 3) := by decide +kernel
theorem dL_law_27 : decode code 27 = .ok (.aload_n 0, 1) := by decide +kernel
theorem dL_law_28 : decode code 28 = .ok (.iload_n 3, 1) := by decide +kernel
theorem dL_law_29 : decode code 29 = .ok (.iaload, 1) := by decide +kernel
theorem dL_law_30 : decode code 30 = .ok (.bipush 31, 2) := by decide +kernel
theorem dL_law_32 : decode code 32 = .ok (.iand, 1) := by decide +kernel
theorem dL_law_33 : decode code 33 = .ok (.tableswitch 1057 0 29 #[135, 158, 201, 224, 287, 320, 343, 356, 369, 392, 405, 438, 471, 504, 537, 560, 593, 656, 669, 682, 725, 779, 822, 855, 868, 891, 945, 988, 1011, 1034], 135) := by decide +kernel
theorem dL_law_168 : decode code 168 = .ok (.aload_n 1, 1) := by decide +kernel
theorem dL_law_169 : decode code 169 = .ok (.aload_n 0, 1) := by decide +kernel
theorem dL_law_170 : decode code 170 = .ok (.iload_n 3, 1) := by decide +kernel
theorem dL_law_171 : decode code 171 = .ok (.iconst 1, 1) := by decide +kernel
theorem dL_law_172 : decode code 172 = .ok (.iadd, 1) := by decide +kernel
theorem dL_law_173 : decode code 173 = .ok (.iaload, 1) := by decide +kernel
theorem dL_law_174 : decode code 174 = .ok (.invokevirtual 13, 3) := by decide +kernel
theorem dL_law_177 : decode code 177 = .ok (.aload_n 2, 1) := by decide +kernel
theorem dL_law_178 : decode code 178 = .ok (.aload_n 0, 1) := by decide +kernel
theorem dL_law_179 : decode code 179 = .ok (.iload_n 3, 1) := by decide +kernel
theorem dL_law_180 : decode code 180 = .ok (.iconst 1, 1) := by decide +kernel
theorem dL_law_181 : decode code 181 = .ok (.iadd, 1) := by decide +kernel
theorem dL_law_182 : decode code 182 = .ok (.iaload, 1) := by decide +kernel
theorem dL_law_183 : decode code 183 = .ok (.invokevirtual 17, 3) := by decide +kernel
theorem dL_law_186 : decode code 186 = .ok (.if_icmp .eq 904, 3) := by decide +kernel
theorem dL_law_189 : decode code 189 = .ok (.iconst 0, 1) := by decide +kernel
theorem dL_law_190 : decode code 190 = .ok (.ireturn, 1) := by decide +kernel
theorem dL_law_191 : decode code 191 = .ok (.aload_n 1, 1) := by decide +kernel
theorem dL_law_192 : decode code 192 = .ok (.aload_n 0, 1) := by decide +kernel
theorem dL_law_193 : decode code 193 = .ok (.iload_n 3, 1) := by decide +kernel
theorem dL_law_194 : decode code 194 = .ok (.iconst 1, 1) := by decide +kernel
theorem dL_law_195 : decode code 195 = .ok (.iadd, 1) := by decide +kernel
theorem dL_law_196 : decode code 196 = .ok (.iaload, 1) := by decide +kernel
theorem dL_law_197 : decode code 197 = .ok (.aload_n 0, 1) := by decide +kernel
theorem dL_law_198 : decode code 198 = .ok (.iload_n 3, 1) := by decide +kernel
theorem dL_law_199 : decode code 199 = .ok (.iconst 2, 1) := by decide +kernel
theorem dL_law_200 : decode code 200 = .ok (.iadd, 1) := by decide +kernel
theorem dL_law_201 : decode code 201 = .ok (.iaload, 1) := by decide +kernel
theorem dL_law_202 : decode code 202 = .ok (.aload_n 0, 1) := by decide +kernel
theorem dL_law_203 : decode code 203 = .ok (.iload_n 3, 1) := by decide +kernel
theorem dL_law_204 : decode code 204 = .ok (.iconst 3, 1) := by decide +kernel
theorem dL_law_205 : decode code 205 = .ok (.iadd, 1) := by decide +kernel
theorem dL_law_206 : decode code 206 = .ok (.iaload, 1) := by decide +kernel
theorem dL_law_207 : decode code 207 = .ok (.invokevirtual 18, 3) := by decide +kernel
theorem dL_law_210 : decode code 210 = .ok (.aload_n 2, 1) := by decide +kernel
theorem dL_law_211 : decode code 211 = .ok (.aload_n 0, 1) := by decide +kernel
theorem dL_law_212 : decode code 212 = .ok (.iload_n 3, 1) := by decide +kernel
theorem dL_law_213 : decode code 213 = .ok (.iconst 1, 1) := by decide +kernel
theorem dL_law_214 : decode code 214 = .ok (.iadd, 1) := by decide +kernel
theorem dL_law_215 : decode code 215 = .ok (.iaload, 1) := by decide +kernel
theorem dL_law_216 : decode code 216 = .ok (.aload_n 0, 1) := by decide +kernel
theorem dL_law_217 : decode code 217 = .ok (.iload_n 3, 1) := by decide +kernel
theorem dL_law_218 : decode code 218 = .ok (.iconst 2, 1) := by decide +kernel
theorem dL_law_219 : decode code 219 = .ok (.iadd, 1) := by decide +kernel
theorem dL_law_220 : decode code 220 = .ok (.iaload, 1) := by decide +kernel
theorem dL_law_221 : decode code 221 = .ok (.aload_n 0, 1) := by decide +kernel
theorem dL_law_222 : decode code 222 = .ok (.iload_n 3, 1) := by decide +kernel
theorem dL_law_223 : decode code 223 = .ok (.iconst 3, 1) := by decide +kernel
theorem dL_law_224 : decode code 224 = .ok (.iadd, 1) := by decide +kernel
theorem dL_law_225 : decode code 225 = .ok (.iaload, 1) := by decide +kernel
theorem dL_law_226 : decode code 226 = .ok (.invokevirtual 22, 3) := by decide +kernel
theorem dL_law_229 : decode code 229 = .ok (.if_icmp .eq 861, 3) := by decide +kernel
theorem dL_law_232 : decode code 232 = .ok (.iconst 0, 1) := by decide +kernel
theorem dL_law_233 : decode code 233 = .ok (.ireturn, 1) := by decide +kernel
theorem dL_law_234 : decode code 234 = .ok (.aload_n 1, 1) := by decide +kernel
theorem dL_law_235 : decode code 235 = .ok (.aload_n 0, 1) := by decide +kernel
theorem dL_law_236 : decode code 236 = .ok (.iload_n 3, 1) := by decide +kernel
theorem dL_law_237 : decode code 237 = .ok (.iconst 1, 1) := by decide +kernel
theorem dL_law_238 : decode code 238 = .ok (.iadd, 1) := by decide +kernel
theorem dL_law_239 : decode code 239 = .ok (.iaload, 1) := by decide +kernel
theorem dL_law_240 : decode code 240 = .ok (.invokevirtual 23, 3) := by decide +kernel
theorem dL_law_243 : decode code 243 = .ok (.aload_n 2, 1) := by decide +kernel
theorem dL_law_244 : decode code 244 = .ok (.aload_n 0, 1) := by decide +kernel
theorem dL_law_245 : decode code 245 = .ok (.iload_n 3, 1) := by decide +kernel
theorem dL_law_246 : decode code 246 = .ok (.iconst 1, 1) := by decide +kernel
theorem dL_law_247 : decode code 247 = .ok (.iadd, 1) := by decide +kernel
theorem dL_law_248 : decode code 248 = .ok (.iaload, 1) := by decide +kernel
theorem dL_law_249 : decode code 249 = .ok (.invokevirtual 26, 3) := by decide +kernel
theorem dL_law_252 : decode code 252 = .ok (.if_icmp .eq 838, 3) := by decide +kernel
theorem dL_law_255 : decode code 255 = .ok (.iconst 0, 1) := by decide +kernel
theorem dL_law_256 : decode code 256 = .ok (.ireturn, 1) := by decide +kernel
theorem dL_law_257 : decode code 257 = .ok (.aload_n 1, 1) := by decide +kernel
theorem dL_law_258 : decode code 258 = .ok (.aload_n 0, 1) := by decide +kernel
theorem dL_law_259 : decode code 259 = .ok (.iload_n 3, 1) := by decide +kernel
theorem dL_law_260 : decode code 260 = .ok (.iconst 1, 1) := by decide +kernel
theorem dL_law_261 : decode code 261 = .ok (.iadd, 1) := by decide +kernel
theorem dL_law_262 : decode code 262 = .ok (.iaload, 1) := by decide +kernel
theorem dL_law_263 : decode code 263 = .ok (.aload_n 0, 1) := by decide +kernel
theorem dL_law_264 : decode code 264 = .ok (.iload_n 3, 1) := by decide +kernel
theorem dL_law_265 : decode code 265 = .ok (.iconst 2, 1) := by decide +kernel
theorem dL_law_266 : decode code 266 = .ok (.iadd, 1) := by decide +kernel
theorem dL_law_267 : decode code 267 = .ok (.iaload, 1) := by decide +kernel
theorem dL_law_268 : decode code 268 = .ok (.aload_n 0, 1) := by decide +kernel
theorem dL_law_269 : decode code 269 = .ok (.iload_n 3, 1) := by decide +kernel
theorem dL_law_270 : decode code 270 = .ok (.iconst 3, 1) := by decide +kernel
theorem dL_law_271 : decode code 271 = .ok (.iadd, 1) := by decide +kernel
theorem dL_law_272 : decode code 272 = .ok (.iaload, 1) := by decide +kernel
theorem dL_law_273 : decode code 273 = .ok (.aload_n 0, 1) := by decide +kernel
theorem dL_law_274 : decode code 274 = .ok (.iload_n 3, 1) := by decide +kernel
theorem dL_law_275 : decode code 275 = .ok (.iconst 4, 1) := by decide +kernel
theorem dL_law_276 : decode code 276 = .ok (.iadd, 1) := by decide +kernel
theorem dL_law_277 : decode code 277 = .ok (.iaload, 1) := by decide +kernel
theorem dL_law_278 : decode code 278 = .ok (.aload_n 0, 1) := by decide +kernel
theorem dL_law_279 : decode code 279 = .ok (.iload_n 3, 1) := by decide +kernel
theorem dL_law_280 : decode code 280 = .ok (.iconst 5, 1) := by decide +kernel
theorem dL_law_281 : decode code 281 = .ok (.iadd, 1) := by decide +kernel
theorem dL_law_282 : decode code 282 = .ok (.iaload, 1) := by decide +kernel
theorem dL_law_283 : decode code 283 = .ok (.invokevirtual 27, 3) := by decide +kernel
theorem dL_law_286 : decode code 286 = .ok (.aload_n 2, 1) := by decide +kernel
theorem dL_law_287 : decode code 287 = .ok (.aload_n 0, 1) := by decide +kernel
theorem dL_law_288 : decode code 288 = .ok (.iload_n 3, 1) := by decide +kernel
theorem dL_law_289 : decode code 289 = .ok (.iconst 1, 1) := by decide +kernel
theorem dL_law_290 : decode code 290 = .ok (.iadd, 1) := by decide +kernel
theorem dL_law_291 : decode code 291 = .ok (.iaload, 1) := by decide +kernel
theorem dL_law_292 : decode code 292 = .ok (.aload_n 0, 1) := by decide +kernel
theorem dL_law_293 : decode code 293 = .ok (.iload_n 3, 1) := by decide +kernel
theorem dL_law_294 : decode code 294 = .ok (.iconst 2, 1) := by decide +kernel
theorem dL_law_295 : decode code 295 = .ok (.iadd, 1) := by decide +kernel
theorem dL_law_296 : decode code 296 = .ok (.iaload, 1) := by decide +kernel
theorem dL_law_297 : decode code 297 = .ok (.aload_n 0, 1) := by decide +kernel
theorem dL_law_298 : decode code 298 = .ok (.iload_n 3, 1) := by decide +kernel
theorem dL_law_299 : decode code 299 = .ok (.iconst 3, 1) := by decide +kernel
theorem dL_law_300 : decode code 300 = .ok (.iadd, 1) := by decide +kernel
theorem dL_law_301 : decode code 301 = .ok (.iaload, 1) := by decide +kernel
theorem dL_law_302 : decode code 302 = .ok (.aload_n 0, 1) := by decide +kernel
theorem dL_law_303 : decode code 303 = .ok (.iload_n 3, 1) := by decide +kernel
theorem dL_law_304 : decode code 304 = .ok (.iconst 4, 1) := by decide +kernel
theorem dL_law_305 : decode code 305 = .ok (.iadd, 1) := by decide +kernel
theorem dL_law_306 : decode code 306 = .ok (.iaload, 1) := by decide +kernel
theorem dL_law_307 : decode code 307 = .ok (.aload_n 0, 1) := by decide +kernel
theorem dL_law_308 : decode code 308 = .ok (.iload_n 3, 1) := by decide +kernel
theorem dL_law_309 : decode code 309 = .ok (.iconst 5, 1) := by decide +kernel
theorem dL_law_310 : decode code 310 = .ok (.iadd, 1) := by decide +kernel
theorem dL_law_311 : decode code 311 = .ok (.iaload, 1) := by decide +kernel
theorem dL_law_312 : decode code 312 = .ok (.invokevirtual 31, 3) := by decide +kernel
theorem dL_law_315 : decode code 315 = .ok (.if_icmp .eq 775, 3) := by decide +kernel
theorem dL_law_318 : decode code 318 = .ok (.iconst 0, 1) := by decide +kernel
theorem dL_law_319 : decode code 319 = .ok (.ireturn, 1) := by decide +kernel
theorem dL_law_320 : decode code 320 = .ok (.aload_n 1, 1) := by decide +kernel
theorem dL_law_321 : decode code 321 = .ok (.aload_n 0, 1) := by decide +kernel
theorem dL_law_322 : decode code 322 = .ok (.iload_n 3, 1) := by decide +kernel
theorem dL_law_323 : decode code 323 = .ok (.iconst 1, 1) := by decide +kernel
theorem dL_law_324 : decode code 324 = .ok (.iadd, 1) := by decide +kernel
theorem dL_law_325 : decode code 325 = .ok (.iaload, 1) := by decide +kernel
theorem dL_law_326 : decode code 326 = .ok (.aload_n 0, 1) := by decide +kernel
theorem dL_law_327 : decode code 327 = .ok (.iload_n 3, 1) := by decide +kernel
theorem dL_law_328 : decode code 328 = .ok (.iconst 2, 1) := by decide +kernel
theorem dL_law_329 : decode code 329 = .ok (.iadd, 1) := by decide +kernel
theorem dL_law_330 : decode code 330 = .ok (.iaload, 1) := by decide +kernel
theorem dL_law_331 : decode code 331 = .ok (.invokevirtual 32, 3) := by decide +kernel
theorem dL_law_334 : decode code 334 = .ok (.aload_n 2, 1) := by decide +kernel
theorem dL_law_335 : decode code 335 = .ok (.aload_n 0, 1) := by decide +kernel
theorem dL_law_336 : decode code 336 = .ok (.iload_n 3, 1) := by decide +kernel
theorem dL_law_337 : decode code 337 = .ok (.iconst 1, 1) := by decide +kernel
theorem dL_law_338 : decode code 338 = .ok (.iadd, 1) := by decide +kernel
theorem dL_law_339 : decode code 339 = .ok (.iaload, 1) := by decide +kernel
theorem dL_law_340 : decode code 340 = .ok (.aload_n 0, 1) := by decide +kernel
theorem dL_law_341 : decode code 341 = .ok (.iload_n 3, 1) := by decide +kernel
theorem dL_law_342 : decode code 342 = .ok (.iconst 2, 1) := by decide +kernel
theorem dL_law_343 : decode code 343 = .ok (.iadd, 1) := by decide +kernel
theorem dL_law_344 : decode code 344 = .ok (.iaload, 1) := by decide +kernel
theorem dL_law_345 : decode code 345 = .ok (.invokevirtual 36, 3) := by decide +kernel
theorem dL_law_348 : decode code 348 = .ok (.if_icmp .eq 742, 3) := by decide +kernel
theorem dL_law_351 : decode code 351 = .ok (.iconst 0, 1) := by decide +kernel
theorem dL_law_352 : decode code 352 = .ok (.ireturn, 1) := by decide +kernel
theorem dL_law_353 : decode code 353 = .ok (.aload_n 1, 1) := by decide +kernel
theorem dL_law_354 : decode code 354 = .ok (.aload_n 0, 1) := by decide +kernel
theorem dL_law_355 : decode code 355 = .ok (.iload_n 3, 1) := by decide +kernel
theorem dL_law_356 : decode code 356 = .ok (.iconst 1, 1) := by decide +kernel
theorem dL_law_357 : decode code 357 = .ok (.iadd, 1) := by decide +kernel
theorem dL_law_358 : decode code 358 = .ok (.iaload, 1) := by decide +kernel
theorem dL_law_359 : decode code 359 = .ok (.invokevirtual 37, 3) := by decide +kernel
theorem dL_law_362 : decode code 362 = .ok (.aload_n 2, 1) := by decide +kernel
theorem dL_law_363 : decode code 363 = .ok (.aload_n 0, 1) := by decide +kernel
theorem dL_law_364 : decode code 364 = .ok (.iload_n 3, 1) := by decide +kernel
theorem dL_law_365 : decode code 365 = .ok (.iconst 1, 1) := by decide +kernel
theorem dL_law_366 : decode code 366 = .ok (.iadd, 1) := by decide +kernel
theorem dL_law_367 : decode code 367 = .ok (.iaload, 1) := by decide +kernel
theorem dL_law_368 : decode code 368 = .ok (.invokevirtual 40, 3) := by decide +kernel
theorem dL_law_371 : decode code 371 = .ok (.if_icmp .eq 719, 3) := by decide +kernel
theorem dL_law_374 : decode code 374 = .ok (.iconst 0, 1) := by decide +kernel
theorem dL_law_375 : decode code 375 = .ok (.ireturn, 1) := by decide +kernel
theorem dL_law_376 : decode code 376 = .ok (.aload_n 1, 1) := by decide +kernel
theorem dL_law_377 : decode code 377 = .ok (.invokevirtual 41, 3) := by decide +kernel
theorem dL_law_380 : decode code 380 = .ok (.aload_n 2, 1) := by decide +kernel
theorem dL_law_381 : decode code 381 = .ok (.invokevirtual 45, 3) := by decide +kernel
theorem dL_law_384 : decode code 384 = .ok (.if_icmp .eq 706, 3) := by decide +kernel
theorem dL_law_387 : decode code 387 = .ok (.iconst 0, 1) := by decide +kernel
theorem dL_law_388 : decode code 388 = .ok (.ireturn, 1) := by decide +kernel
theorem dL_law_389 : decode code 389 = .ok (.aload_n 1, 1) := by decide +kernel
theorem dL_law_390 : decode code 390 = .ok (.invokevirtual 46, 3) := by decide +kernel
theorem dL_law_393 : decode code 393 = .ok (.aload_n 2, 1) := by decide +kernel
theorem dL_law_394 : decode code 394 = .ok (.invokevirtual 49, 3) := by decide +kernel
theorem dL_law_397 : decode code 397 = .ok (.if_icmp .eq 693, 3) := by decide +kernel
theorem dL_law_400 : decode code 400 = .ok (.iconst 0, 1) := by decide +kernel
theorem dL_law_401 : decode code 401 = .ok (.ireturn, 1) := by decide +kernel
theorem dL_law_402 : decode code 402 = .ok (.aload_n 1, 1) := by decide +kernel
theorem dL_law_403 : decode code 403 = .ok (.aload_n 0, 1) := by decide +kernel
theorem dL_law_404 : decode code 404 = .ok (.iload_n 3, 1) := by decide +kernel
theorem dL_law_405 : decode code 405 = .ok (.iconst 1, 1) := by decide +kernel
theorem dL_law_406 : decode code 406 = .ok (.iadd, 1) := by decide +kernel
theorem dL_law_407 : decode code 407 = .ok (.iaload, 1) := by decide +kernel
theorem dL_law_408 : decode code 408 = .ok (.invokevirtual 50, 3) := by decide +kernel
theorem dL_law_411 : decode code 411 = .ok (.aload_n 2, 1) := by decide +kernel
theorem dL_law_412 : decode code 412 = .ok (.aload_n 0, 1) := by decide +kernel
theorem dL_law_413 : decode code 413 = .ok (.iload_n 3, 1) := by decide +kernel
theorem dL_law_414 : decode code 414 = .ok (.iconst 1, 1) := by decide +kernel
theorem dL_law_415 : decode code 415 = .ok (.iadd, 1) := by decide +kernel
theorem dL_law_416 : decode code 416 = .ok (.iaload, 1) := by decide +kernel
theorem dL_law_417 : decode code 417 = .ok (.invokevirtual 53, 3) := by decide +kernel
theorem dL_law_420 : decode code 420 = .ok (.if_icmp .eq 670, 3) := by decide +kernel
theorem dL_law_423 : decode code 423 = .ok (.iconst 0, 1) := by decide +kernel
theorem dL_law_424 : decode code 424 = .ok (.ireturn, 1) := by decide +kernel
theorem dL_law_425 : decode code 425 = .ok (.aload_n 1, 1) := by decide +kernel
theorem dL_law_426 : decode code 426 = .ok (.invokevirtual 54, 3) := by decide +kernel
theorem dL_law_429 : decode code 429 = .ok (.aload_n 2, 1) := by decide +kernel
theorem dL_law_430 : decode code 430 = .ok (.invokevirtual 57, 3) := by decide +kernel
theorem dL_law_433 : decode code 433 = .ok (.if_icmp .eq 657, 3) := by decide +kernel
theorem dL_law_436 : decode code 436 = .ok (.iconst 0, 1) := by decide +kernel
theorem dL_law_437 : decode code 437 = .ok (.ireturn, 1) := by decide +kernel
theorem dL_law_438 : decode code 438 = .ok (.aload_n 1, 1) := by decide +kernel
theorem dL_law_439 : decode code 439 = .ok (.aload_n 0, 1) := by decide +kernel
theorem dL_law_440 : decode code 440 = .ok (.iload_n 3, 1) := by decide +kernel
theorem dL_law_441 : decode code 441 = .ok (.iconst 1, 1) := by decide +kernel
theorem dL_law_442 : decode code 442 = .ok (.iadd, 1) := by decide +kernel
theorem dL_law_443 : decode code 443 = .ok (.iaload, 1) := by decide +kernel
theorem dL_law_444 : decode code 444 = .ok (.aload_n 0, 1) := by decide +kernel
theorem dL_law_445 : decode code 445 = .ok (.iload_n 3, 1) := by decide +kernel
theorem dL_law_446 : decode code 446 = .ok (.iconst 2, 1) := by decide +kernel
theorem dL_law_447 : decode code 447 = .ok (.iadd, 1) := by decide +kernel
theorem dL_law_448 : decode code 448 = .ok (.iaload, 1) := by decide +kernel
theorem dL_law_449 : decode code 449 = .ok (.invokevirtual 58, 3) := by decide +kernel
theorem dL_law_452 : decode code 452 = .ok (.aload_n 2, 1) := by decide +kernel
theorem dL_law_453 : decode code 453 = .ok (.aload_n 0, 1) := by decide +kernel
theorem dL_law_454 : decode code 454 = .ok (.iload_n 3, 1) := by decide +kernel
theorem dL_law_455 : decode code 455 = .ok (.iconst 1, 1) := by decide +kernel
theorem dL_law_456 : decode code 456 = .ok (.iadd, 1) := by decide +kernel
theorem dL_law_457 : decode code 457 = .ok (.iaload, 1) := by decide +kernel
theorem dL_law_458 : decode code 458 = .ok (.aload_n 0, 1) := by decide +kernel
theorem dL_law_459 : decode code 459 = .ok (.iload_n 3, 1) := by decide +kernel
theorem dL_law_460 : decode code 460 = .ok (.iconst 2, 1) := by decide +kernel
theorem dL_law_461 : decode code 461 = .ok (.iadd, 1) := by decide +kernel
theorem dL_law_462 : decode code 462 = .ok (.iaload, 1) := by decide +kernel
theorem dL_law_463 : decode code 463 = .ok (.invokevirtual 61, 3) := by decide +kernel
theorem dL_law_466 : decode code 466 = .ok (.if_icmp .eq 624, 3) := by decide +kernel
theorem dL_law_469 : decode code 469 = .ok (.iconst 0, 1) := by decide +kernel
theorem dL_law_470 : decode code 470 = .ok (.ireturn, 1) := by decide +kernel
theorem dL_law_471 : decode code 471 = .ok (.aload_n 1, 1) := by decide +kernel
theorem dL_law_472 : decode code 472 = .ok (.aload_n 0, 1) := by decide +kernel
theorem dL_law_473 : decode code 473 = .ok (.iload_n 3, 1) := by decide +kernel
theorem dL_law_474 : decode code 474 = .ok (.iconst 1, 1) := by decide +kernel
theorem dL_law_475 : decode code 475 = .ok (.iadd, 1) := by decide +kernel
theorem dL_law_476 : decode code 476 = .ok (.iaload, 1) := by decide +kernel
theorem dL_law_477 : decode code 477 = .ok (.aload_n 0, 1) := by decide +kernel
theorem dL_law_478 : decode code 478 = .ok (.iload_n 3, 1) := by decide +kernel
theorem dL_law_479 : decode code 479 = .ok (.iconst 2, 1) := by decide +kernel
theorem dL_law_480 : decode code 480 = .ok (.iadd, 1) := by decide +kernel
theorem dL_law_481 : decode code 481 = .ok (.iaload, 1) := by decide +kernel
theorem dL_law_482 : decode code 482 = .ok (.invokevirtual 62, 3) := by decide +kernel
theorem dL_law_485 : decode code 485 = .ok (.aload_n 2, 1) := by decide +kernel
theorem dL_law_486 : decode code 486 = .ok (.aload_n 0, 1) := by decide +kernel
theorem dL_law_487 : decode code 487 = .ok (.iload_n 3, 1) := by decide +kernel
theorem dL_law_488 : decode code 488 = .ok (.iconst 1, 1) := by decide +kernel
theorem dL_law_489 : decode code 489 = .ok (.iadd, 1) := by decide +kernel
theorem dL_law_490 : decode code 490 = .ok (.iaload, 1) := by decide +kernel
theorem dL_law_491 : decode code 491 = .ok (.aload_n 0, 1) := by decide +kernel
theorem dL_law_492 : decode code 492 = .ok (.iload_n 3, 1) := by decide +kernel
theorem dL_law_493 : decode code 493 = .ok (.iconst 2, 1) := by decide +kernel
theorem dL_law_494 : decode code 494 = .ok (.iadd, 1) := by decide +kernel
theorem dL_law_495 : decode code 495 = .ok (.iaload, 1) := by decide +kernel
theorem dL_law_496 : decode code 496 = .ok (.invokevirtual 65, 3) := by decide +kernel
theorem dL_law_499 : decode code 499 = .ok (.if_icmp .eq 591, 3) := by decide +kernel
theorem dL_law_502 : decode code 502 = .ok (.iconst 0, 1) := by decide +kernel
theorem dL_law_503 : decode code 503 = .ok (.ireturn, 1) := by decide +kernel
theorem dL_law_504 : decode code 504 = .ok (.aload_n 1, 1) := by decide +kernel
theorem dL_law_505 : decode code 505 = .ok (.aload_n 0, 1) := by decide +kernel
theorem dL_law_506 : decode code 506 = .ok (.iload_n 3, 1) := by decide +kernel
theorem dL_law_507 : decode code 507 = .ok (.iconst 1, 1) := by decide +kernel
theorem dL_law_508 : decode code 508 = .ok (.iadd, 1) := by decide +kernel
theorem dL_law_509 : decode code 509 = .ok (.iaload, 1) := by decide +kernel
theorem dL_law_510 : decode code 510 = .ok (.aload_n 0, 1) := by decide +kernel
theorem dL_law_511 : decode code 511 = .ok (.iload_n 3, 1) := by decide +kernel
theorem dL_law_512 : decode code 512 = .ok (.iconst 2, 1) := by decide +kernel
theorem dL_law_513 : decode code 513 = .ok (.iadd, 1) := by decide +kernel
theorem dL_law_514 : decode code 514 = .ok (.iaload, 1) := by decide +kernel
theorem dL_law_515 : decode code 515 = .ok (.invokevirtual 66, 3) := by decide +kernel
theorem dL_law_518 : decode code 518 = .ok (.aload_n 2, 1) := by decide +kernel
theorem dL_law_519 : decode code 519 = .ok (.aload_n 0, 1) := by decide +kernel
theorem dL_law_520 : decode code 520 = .ok (.iload_n 3, 1) := by decide +kernel
theorem dL_law_521 : decode code 521 = .ok (.iconst 1, 1) := by decide +kernel
theorem dL_law_522 : decode code 522 = .ok (.iadd, 1) := by decide +kernel
theorem dL_law_523 : decode code 523 = .ok (.iaload, 1) := by decide +kernel
theorem dL_law_524 : decode code 524 = .ok (.aload_n 0, 1) := by decide +kernel
theorem dL_law_525 : decode code 525 = .ok (.iload_n 3, 1) := by decide +kernel
theorem dL_law_526 : decode code 526 = .ok (.iconst 2, 1) := by decide +kernel
theorem dL_law_527 : decode code 527 = .ok (.iadd, 1) := by decide +kernel
theorem dL_law_528 : decode code 528 = .ok (.iaload, 1) := by decide +kernel
theorem dL_law_529 : decode code 529 = .ok (.invokevirtual 69, 3) := by decide +kernel
theorem dL_law_532 : decode code 532 = .ok (.if_icmp .eq 558, 3) := by decide +kernel
theorem dL_law_535 : decode code 535 = .ok (.iconst 0, 1) := by decide +kernel
theorem dL_law_536 : decode code 536 = .ok (.ireturn, 1) := by decide +kernel
theorem dL_law_537 : decode code 537 = .ok (.aload_n 1, 1) := by decide +kernel
theorem dL_law_538 : decode code 538 = .ok (.aload_n 0, 1) := by decide +kernel
theorem dL_law_539 : decode code 539 = .ok (.iload_n 3, 1) := by decide +kernel
theorem dL_law_540 : decode code 540 = .ok (.iconst 1, 1) := by decide +kernel
theorem dL_law_541 : decode code 541 = .ok (.iadd, 1) := by decide +kernel
theorem dL_law_542 : decode code 542 = .ok (.iaload, 1) := by decide +kernel
theorem dL_law_543 : decode code 543 = .ok (.aload_n 0, 1) := by decide +kernel
theorem dL_law_544 : decode code 544 = .ok (.iload_n 3, 1) := by decide +kernel
theorem dL_law_545 : decode code 545 = .ok (.iconst 2, 1) := by decide +kernel
theorem dL_law_546 : decode code 546 = .ok (.iadd, 1) := by decide +kernel
theorem dL_law_547 : decode code 547 = .ok (.iaload, 1) := by decide +kernel
theorem dL_law_548 : decode code 548 = .ok (.invokevirtual 70, 3) := by decide +kernel
theorem dL_law_551 : decode code 551 = .ok (.aload_n 2, 1) := by decide +kernel
theorem dL_law_552 : decode code 552 = .ok (.aload_n 0, 1) := by decide +kernel
theorem dL_law_553 : decode code 553 = .ok (.iload_n 3, 1) := by decide +kernel
theorem dL_law_554 : decode code 554 = .ok (.iconst 1, 1) := by decide +kernel
theorem dL_law_555 : decode code 555 = .ok (.iadd, 1) := by decide +kernel
theorem dL_law_556 : decode code 556 = .ok (.iaload, 1) := by decide +kernel
theorem dL_law_557 : decode code 557 = .ok (.aload_n 0, 1) := by decide +kernel
theorem dL_law_558 : decode code 558 = .ok (.iload_n 3, 1) := by decide +kernel
theorem dL_law_559 : decode code 559 = .ok (.iconst 2, 1) := by decide +kernel
theorem dL_law_560 : decode code 560 = .ok (.iadd, 1) := by decide +kernel
theorem dL_law_561 : decode code 561 = .ok (.iaload, 1) := by decide +kernel
theorem dL_law_562 : decode code 562 = .ok (.invokevirtual 73, 3) := by decide +kernel
theorem dL_law_565 : decode code 565 = .ok (.if_icmp .eq 525, 3) := by decide +kernel
theorem dL_law_568 : decode code 568 = .ok (.iconst 0, 1) := by decide +kernel
theorem dL_law_569 : decode code 569 = .ok (.ireturn, 1) := by decide +kernel
theorem dL_law_570 : decode code 570 = .ok (.aload_n 1, 1) := by decide +kernel
theorem dL_law_571 : decode code 571 = .ok (.aload_n 0, 1) := by decide +kernel
theorem dL_law_572 : decode code 572 = .ok (.iload_n 3, 1) := by decide +kernel
theorem dL_law_573 : decode code 573 = .ok (.iconst 1, 1) := by decide +kernel
theorem dL_law_574 : decode code 574 = .ok (.iadd, 1) := by decide +kernel
theorem dL_law_575 : decode code 575 = .ok (.iaload, 1) := by decide +kernel
theorem dL_law_576 : decode code 576 = .ok (.invokevirtual 74, 3) := by decide +kernel
theorem dL_law_579 : decode code 579 = .ok (.aload_n 2, 1) := by decide +kernel
theorem dL_law_580 : decode code 580 = .ok (.aload_n 0, 1) := by decide +kernel
theorem dL_law_581 : decode code 581 = .ok (.iload_n 3, 1) := by decide +kernel
theorem dL_law_582 : decode code 582 = .ok (.iconst 1, 1) := by decide +kernel
theorem dL_law_583 : decode code 583 = .ok (.iadd, 1) := by decide +kernel
theorem dL_law_584 : decode code 584 = .ok (.iaload, 1) := by decide +kernel
theorem dL_law_585 : decode code 585 = .ok (.invokevirtual 77, 3) := by decide +kernel
theorem dL_law_588 : decode code 588 = .ok (.if_icmp .eq 502, 3) := by decide +kernel
theorem dL_law_591 : decode code 591 = .ok (.iconst 0, 1) := by decide +kernel
theorem dL_law_592 : decode code 592 = .ok (.ireturn, 1) := by decide +kernel
theorem dL_law_593 : decode code 593 = .ok (.aload_n 1, 1) := by decide +kernel
theorem dL_law_594 : decode code 594 = .ok (.aload_n 0, 1) := by decide +kernel
theorem dL_law_595 : decode code 595 = .ok (.iload_n 3, 1) := by decide +kernel
theorem dL_law_596 : decode code 596 = .ok (.iconst 1, 1) := by decide +kernel
theorem dL_law_597 : decode code 597 = .ok (.iadd, 1) := by decide +kernel
theorem dL_law_598 : decode code 598 = .ok (.iaload, 1) := by decide +kernel
theorem dL_law_599 : decode code 599 = .ok (.aload_n 0, 1) := by decide +kernel
theorem dL_law_600 : decode code 600 = .ok (.iload_n 3, 1) := by decide +kernel
theorem dL_law_601 : decode code 601 = .ok (.iconst 2, 1) := by decide +kernel
theorem dL_law_602 : decode code 602 = .ok (.iadd, 1) := by decide +kernel
theorem dL_law_603 : decode code 603 = .ok (.iaload, 1) := by decide +kernel
theorem dL_law_604 : decode code 604 = .ok (.invokevirtual 78, 3) := by decide +kernel
theorem dL_law_607 : decode code 607 = .ok (.aload_n 2, 1) := by decide +kernel
theorem dL_law_608 : decode code 608 = .ok (.aload_n 0, 1) := by decide +kernel
theorem dL_law_609 : decode code 609 = .ok (.iload_n 3, 1) := by decide +kernel
theorem dL_law_610 : decode code 610 = .ok (.iconst 1, 1) := by decide +kernel
theorem dL_law_611 : decode code 611 = .ok (.iadd, 1) := by decide +kernel
theorem dL_law_612 : decode code 612 = .ok (.iaload, 1) := by decide +kernel
theorem dL_law_613 : decode code 613 = .ok (.aload_n 0, 1) := by decide +kernel
theorem dL_law_614 : decode code 614 = .ok (.iload_n 3, 1) := by decide +kernel
theorem dL_law_615 : decode code 615 = .ok (.iconst 2, 1) := by decide +kernel
theorem dL_law_616 : decode code 616 = .ok (.iadd, 1) := by decide +kernel
theorem dL_law_617 : decode code 617 = .ok (.iaload, 1) := by decide +kernel
theorem dL_law_618 : decode code 618 = .ok (.invokevirtual 81, 3) := by decide +kernel
theorem dL_law_621 : decode code 621 = .ok (.if_icmp .eq 469, 3) := by decide +kernel
theorem dL_law_624 : decode code 624 = .ok (.iconst 0, 1) := by decide +kernel
theorem dL_law_625 : decode code 625 = .ok (.ireturn, 1) := by decide +kernel
theorem dL_law_626 : decode code 626 = .ok (.aload_n 1, 1) := by decide +kernel
theorem dL_law_627 : decode code 627 = .ok (.aload_n 0, 1) := by decide +kernel
theorem dL_law_628 : decode code 628 = .ok (.iload_n 3, 1) := by decide +kernel
theorem dL_law_629 : decode code 629 = .ok (.iconst 1, 1) := by decide +kernel
theorem dL_law_630 : decode code 630 = .ok (.iadd, 1) := by decide +kernel
theorem dL_law_631 : decode code 631 = .ok (.iaload, 1) := by decide +kernel
theorem dL_law_632 : decode code 632 = .ok (.aload_n 0, 1) := by decide +kernel
theorem dL_law_633 : decode code 633 = .ok (.iload_n 3, 1) := by decide +kernel
theorem dL_law_634 : decode code 634 = .ok (.iconst 2, 1) := by decide +kernel
theorem dL_law_635 : decode code 635 = .ok (.iadd, 1) := by decide +kernel
theorem dL_law_636 : decode code 636 = .ok (.iaload, 1) := by decide +kernel
theorem dL_law_637 : decode code 637 = .ok (.aload_n 0, 1) := by decide +kernel
theorem dL_law_638 : decode code 638 = .ok (.iload_n 3, 1) := by decide +kernel
theorem dL_law_639 : decode code 639 = .ok (.iconst 3, 1) := by decide +kernel
theorem dL_law_640 : decode code 640 = .ok (.iadd, 1) := by decide +kernel
theorem dL_law_641 : decode code 641 = .ok (.iaload, 1) := by decide +kernel
theorem dL_law_642 : decode code 642 = .ok (.aload_n 0, 1) := by decide +kernel
theorem dL_law_643 : decode code 643 = .ok (.iload_n 3, 1) := by decide +kernel
theorem dL_law_644 : decode code 644 = .ok (.iconst 4, 1) := by decide +kernel
theorem dL_law_645 : decode code 645 = .ok (.iadd, 1) := by decide +kernel
theorem dL_law_646 : decode code 646 = .ok (.iaload, 1) := by decide +kernel
theorem dL_law_647 : decode code 647 = .ok (.aload_n 0, 1) := by decide +kernel
theorem dL_law_648 : decode code 648 = .ok (.iload_n 3, 1) := by decide +kernel
theorem dL_law_649 : decode code 649 = .ok (.iconst 5, 1) := by decide +kernel
theorem dL_law_650 : decode code 650 = .ok (.iadd, 1) := by decide +kernel
theorem dL_law_651 : decode code 651 = .ok (.iaload, 1) := by decide +kernel
theorem dL_law_652 : decode code 652 = .ok (.invokevirtual 82, 3) := by decide +kernel
theorem dL_law_655 : decode code 655 = .ok (.aload_n 2, 1) := by decide +kernel
theorem dL_law_656 : decode code 656 = .ok (.aload_n 0, 1) := by decide +kernel
theorem dL_law_657 : decode code 657 = .ok (.iload_n 3, 1) := by decide +kernel
theorem dL_law_658 : decode code 658 = .ok (.iconst 1, 1) := by decide +kernel
theorem dL_law_659 : decode code 659 = .ok (.iadd, 1) := by decide +kernel
theorem dL_law_660 : decode code 660 = .ok (.iaload, 1) := by decide +kernel
theorem dL_law_661 : decode code 661 = .ok (.aload_n 0, 1) := by decide +kernel
theorem dL_law_662 : decode code 662 = .ok (.iload_n 3, 1) := by decide +kernel
theorem dL_law_663 : decode code 663 = .ok (.iconst 2, 1) := by decide +kernel
theorem dL_law_664 : decode code 664 = .ok (.iadd, 1) := by decide +kernel
theorem dL_law_665 : decode code 665 = .ok (.iaload, 1) := by decide +kernel
theorem dL_law_666 : decode code 666 = .ok (.aload_n 0, 1) := by decide +kernel
theorem dL_law_667 : decode code 667 = .ok (.iload_n 3, 1) := by decide +kernel
theorem dL_law_668 : decode code 668 = .ok (.iconst 3, 1) := by decide +kernel
theorem dL_law_669 : decode code 669 = .ok (.iadd, 1) := by decide +kernel
theorem dL_law_670 : decode code 670 = .ok (.iaload, 1) := by decide +kernel
theorem dL_law_671 : decode code 671 = .ok (.aload_n 0, 1) := by decide +kernel
theorem dL_law_672 : decode code 672 = .ok (.iload_n 3, 1) := by decide +kernel
theorem dL_law_673 : decode code 673 = .ok (.iconst 4, 1) := by decide +kernel
theorem dL_law_674 : decode code 674 = .ok (.iadd, 1) := by decide +kernel
theorem dL_law_675 : decode code 675 = .ok (.iaload, 1) := by decide +kernel
theorem dL_law_676 : decode code 676 = .ok (.aload_n 0, 1) := by decide +kernel
theorem dL_law_677 : decode code 677 = .ok (.iload_n 3, 1) := by decide +kernel
theorem dL_law_678 : decode code 678 = .ok (.iconst 5, 1) := by decide +kernel
theorem dL_law_679 : decode code 679 = .ok (.iadd, 1) := by decide +kernel
theorem dL_law_680 : decode code 680 = .ok (.iaload, 1) := by decide +kernel
theorem dL_law_681 : decode code 681 = .ok (.invokevirtual 85, 3) := by decide +kernel
theorem dL_law_684 : decode code 684 = .ok (.if_icmp .eq 406, 3) := by decide +kernel
theorem dL_law_687 : decode code 687 = .ok (.iconst 0, 1) := by decide +kernel
theorem dL_law_688 : decode code 688 = .ok (.ireturn, 1) := by decide +kernel
theorem dL_law_689 : decode code 689 = .ok (.aload_n 1, 1) := by decide +kernel
theorem dL_law_690 : decode code 690 = .ok (.invokevirtual 86, 3) := by decide +kernel
theorem dL_law_693 : decode code 693 = .ok (.aload_n 2, 1) := by decide +kernel
theorem dL_law_694 : decode code 694 = .ok (.invokevirtual 89, 3) := by decide +kernel
theorem dL_law_697 : decode code 697 = .ok (.if_icmp .eq 393, 3) := by decide +kernel
theorem dL_law_700 : decode code 700 = .ok (.iconst 0, 1) := by decide +kernel
theorem dL_law_701 : decode code 701 = .ok (.ireturn, 1) := by decide +kernel
theorem dL_law_702 : decode code 702 = .ok (.aload_n 1, 1) := by decide +kernel
theorem dL_law_703 : decode code 703 = .ok (.invokevirtual 90, 3) := by decide +kernel
theorem dL_law_706 : decode code 706 = .ok (.aload_n 2, 1) := by decide +kernel
theorem dL_law_707 : decode code 707 = .ok (.invokevirtual 93, 3) := by decide +kernel
theorem dL_law_710 : decode code 710 = .ok (.if_icmp .eq 380, 3) := by decide +kernel
theorem dL_law_713 : decode code 713 = .ok (.iconst 0, 1) := by decide +kernel
theorem dL_law_714 : decode code 714 = .ok (.ireturn, 1) := by decide +kernel
theorem dL_law_715 : decode code 715 = .ok (.aload_n 1, 1) := by decide +kernel
theorem dL_law_716 : decode code 716 = .ok (.aload_n 0, 1) := by decide +kernel
theorem dL_law_717 : decode code 717 = .ok (.iload_n 3, 1) := by decide +kernel
theorem dL_law_718 : decode code 718 = .ok (.iconst 1, 1) := by decide +kernel
theorem dL_law_719 : decode code 719 = .ok (.iadd, 1) := by decide +kernel
theorem dL_law_720 : decode code 720 = .ok (.iaload, 1) := by decide +kernel
theorem dL_law_721 : decode code 721 = .ok (.aload_n 0, 1) := by decide +kernel
theorem dL_law_722 : decode code 722 = .ok (.iload_n 3, 1) := by decide +kernel
theorem dL_law_723 : decode code 723 = .ok (.iconst 2, 1) := by decide +kernel
theorem dL_law_724 : decode code 724 = .ok (.iadd, 1) := by decide +kernel
theorem dL_law_725 : decode code 725 = .ok (.iaload, 1) := by decide +kernel
theorem dL_law_726 : decode code 726 = .ok (.aload_n 0, 1) := by decide +kernel
theorem dL_law_727 : decode code 727 = .ok (.iload_n 3, 1) := by decide +kernel
theorem dL_law_728 : decode code 728 = .ok (.iconst 3, 1) := by decide +kernel
theorem dL_law_729 : decode code 729 = .ok (.iadd, 1) := by decide +kernel
theorem dL_law_730 : decode code 730 = .ok (.iaload, 1) := by decide +kernel
theorem dL_law_731 : decode code 731 = .ok (.invokevirtual 94, 3) := by decide +kernel
theorem dL_law_734 : decode code 734 = .ok (.aload_n 2, 1) := by decide +kernel
theorem dL_law_735 : decode code 735 = .ok (.aload_n 0, 1) := by decide +kernel
theorem dL_law_736 : decode code 736 = .ok (.iload_n 3, 1) := by decide +kernel
theorem dL_law_737 : decode code 737 = .ok (.iconst 1, 1) := by decide +kernel
theorem dL_law_738 : decode code 738 = .ok (.iadd, 1) := by decide +kernel
theorem dL_law_739 : decode code 739 = .ok (.iaload, 1) := by decide +kernel
theorem dL_law_740 : decode code 740 = .ok (.aload_n 0, 1) := by decide +kernel
theorem dL_law_741 : decode code 741 = .ok (.iload_n 3, 1) := by decide +kernel
theorem dL_law_742 : decode code 742 = .ok (.iconst 2, 1) := by decide +kernel
theorem dL_law_743 : decode code 743 = .ok (.iadd, 1) := by decide +kernel
theorem dL_law_744 : decode code 744 = .ok (.iaload, 1) := by decide +kernel
theorem dL_law_745 : decode code 745 = .ok (.aload_n 0, 1) := by decide +kernel
theorem dL_law_746 : decode code 746 = .ok (.iload_n 3, 1) := by decide +kernel
theorem dL_law_747 : decode code 747 = .ok (.iconst 3, 1) := by decide +kernel
theorem dL_law_748 : decode code 748 = .ok (.iadd, 1) := by decide +kernel
theorem dL_law_749 : decode code 749 = .ok (.iaload, 1) := by decide +kernel
theorem dL_law_750 : decode code 750 = .ok (.invokevirtual 97, 3) := by decide +kernel
theorem dL_law_753 : decode code 753 = .ok (.if_icmp .eq 337, 3) := by decide +kernel
theorem dL_law_756 : decode code 756 = .ok (.iconst 0, 1) := by decide +kernel
theorem dL_law_757 : decode code 757 = .ok (.ireturn, 1) := by decide +kernel
theorem dL_law_758 : decode code 758 = .ok (.aload_n 1, 1) := by decide +kernel
theorem dL_law_759 : decode code 759 = .ok (.aload_n 0, 1) := by decide +kernel
theorem dL_law_760 : decode code 760 = .ok (.iload_n 3, 1) := by decide +kernel
theorem dL_law_761 : decode code 761 = .ok (.iconst 1, 1) := by decide +kernel
theorem dL_law_762 : decode code 762 = .ok (.iadd, 1) := by decide +kernel
theorem dL_law_763 : decode code 763 = .ok (.iaload, 1) := by decide +kernel
theorem dL_law_764 : decode code 764 = .ok (.aload_n 0, 1) := by decide +kernel
theorem dL_law_765 : decode code 765 = .ok (.iload_n 3, 1) := by decide +kernel
theorem dL_law_766 : decode code 766 = .ok (.iconst 2, 1) := by decide +kernel
theorem dL_law_767 : decode code 767 = .ok (.iadd, 1) := by decide +kernel
theorem dL_law_768 : decode code 768 = .ok (.iaload, 1) := by decide +kernel
theorem dL_law_769 : decode code 769 = .ok (.aload_n 0, 1) := by decide +kernel
theorem dL_law_770 : decode code 770 = .ok (.iload_n 3, 1) := by decide +kernel
theorem dL_law_771 : decode code 771 = .ok (.iconst 3, 1) := by decide +kernel
theorem dL_law_772 : decode code 772 = .ok (.iadd, 1) := by decide +kernel
theorem dL_law_773 : decode code 773 = .ok (.iaload, 1) := by decide +kernel
theorem dL_law_774 : decode code 774 = .ok (.aload_n 0, 1) := by decide +kernel
theorem dL_law_775 : decode code 775 = .ok (.iload_n 3, 1) := by decide +kernel
theorem dL_law_776 : decode code 776 = .ok (.iconst 4, 1) := by decide +kernel
theorem dL_law_777 : decode code 777 = .ok (.iadd, 1) := by decide +kernel
theorem dL_law_778 : decode code 778 = .ok (.iaload, 1) := by decide +kernel
theorem dL_law_779 : decode code 779 = .ok (.invokevirtual 98, 3) := by decide +kernel
theorem dL_law_782 : decode code 782 = .ok (.aload_n 2, 1) := by decide +kernel
theorem dL_law_783 : decode code 783 = .ok (.aload_n 0, 1) := by decide +kernel
theorem dL_law_784 : decode code 784 = .ok (.iload_n 3, 1) := by decide +kernel
theorem dL_law_785 : decode code 785 = .ok (.iconst 1, 1) := by decide +kernel
theorem dL_law_786 : decode code 786 = .ok (.iadd, 1) := by decide +kernel
theorem dL_law_787 : decode code 787 = .ok (.iaload, 1) := by decide +kernel
theorem dL_law_788 : decode code 788 = .ok (.aload_n 0, 1) := by decide +kernel
theorem dL_law_789 : decode code 789 = .ok (.iload_n 3, 1) := by decide +kernel
theorem dL_law_790 : decode code 790 = .ok (.iconst 2, 1) := by decide +kernel
theorem dL_law_791 : decode code 791 = .ok (.iadd, 1) := by decide +kernel
theorem dL_law_792 : decode code 792 = .ok (.iaload, 1) := by decide +kernel
theorem dL_law_793 : decode code 793 = .ok (.aload_n 0, 1) := by decide +kernel
theorem dL_law_794 : decode code 794 = .ok (.iload_n 3, 1) := by decide +kernel
theorem dL_law_795 : decode code 795 = .ok (.iconst 3, 1) := by decide +kernel
theorem dL_law_796 : decode code 796 = .ok (.iadd, 1) := by decide +kernel
theorem dL_law_797 : decode code 797 = .ok (.iaload, 1) := by decide +kernel
theorem dL_law_798 : decode code 798 = .ok (.aload_n 0, 1) := by decide +kernel
theorem dL_law_799 : decode code 799 = .ok (.iload_n 3, 1) := by decide +kernel
theorem dL_law_800 : decode code 800 = .ok (.iconst 4, 1) := by decide +kernel
theorem dL_law_801 : decode code 801 = .ok (.iadd, 1) := by decide +kernel
theorem dL_law_802 : decode code 802 = .ok (.iaload, 1) := by decide +kernel
theorem dL_law_803 : decode code 803 = .ok (.invokevirtual 102, 3) := by decide +kernel
theorem dL_law_806 : decode code 806 = .ok (.lcmp, 1) := by decide +kernel
theorem dL_law_807 : decode code 807 = .ok (.ifCond .eq 283, 3) := by decide +kernel
theorem dL_law_810 : decode code 810 = .ok (.iconst 0, 1) := by decide +kernel
theorem dL_law_811 : decode code 811 = .ok (.ireturn, 1) := by decide +kernel
theorem dL_law_812 : decode code 812 = .ok (.aload_n 1, 1) := by decide +kernel
theorem dL_law_813 : decode code 813 = .ok (.aload_n 0, 1) := by decide +kernel
theorem dL_law_814 : decode code 814 = .ok (.iload_n 3, 1) := by decide +kernel
theorem dL_law_815 : decode code 815 = .ok (.iconst 1, 1) := by decide +kernel
theorem dL_law_816 : decode code 816 = .ok (.iadd, 1) := by decide +kernel
theorem dL_law_817 : decode code 817 = .ok (.iaload, 1) := by decide +kernel
theorem dL_law_818 : decode code 818 = .ok (.aload_n 0, 1) := by decide +kernel
theorem dL_law_819 : decode code 819 = .ok (.iload_n 3, 1) := by decide +kernel
theorem dL_law_820 : decode code 820 = .ok (.iconst 2, 1) := by decide +kernel
theorem dL_law_821 : decode code 821 = .ok (.iadd, 1) := by decide +kernel
theorem dL_law_822 : decode code 822 = .ok (.iaload, 1) := by decide +kernel
theorem dL_law_823 : decode code 823 = .ok (.aload_n 0, 1) := by decide +kernel
theorem dL_law_824 : decode code 824 = .ok (.iload_n 3, 1) := by decide +kernel
theorem dL_law_825 : decode code 825 = .ok (.iconst 3, 1) := by decide +kernel
theorem dL_law_826 : decode code 826 = .ok (.iadd, 1) := by decide +kernel
theorem dL_law_827 : decode code 827 = .ok (.iaload, 1) := by decide +kernel
theorem dL_law_828 : decode code 828 = .ok (.invokevirtual 103, 3) := by decide +kernel
theorem dL_law_831 : decode code 831 = .ok (.aload_n 2, 1) := by decide +kernel
theorem dL_law_832 : decode code 832 = .ok (.aload_n 0, 1) := by decide +kernel
theorem dL_law_833 : decode code 833 = .ok (.iload_n 3, 1) := by decide +kernel
theorem dL_law_834 : decode code 834 = .ok (.iconst 1, 1) := by decide +kernel
theorem dL_law_835 : decode code 835 = .ok (.iadd, 1) := by decide +kernel
theorem dL_law_836 : decode code 836 = .ok (.iaload, 1) := by decide +kernel
theorem dL_law_837 : decode code 837 = .ok (.aload_n 0, 1) := by decide +kernel
theorem dL_law_838 : decode code 838 = .ok (.iload_n 3, 1) := by decide +kernel
theorem dL_law_839 : decode code 839 = .ok (.iconst 2, 1) := by decide +kernel
theorem dL_law_840 : decode code 840 = .ok (.iadd, 1) := by decide +kernel
theorem dL_law_841 : decode code 841 = .ok (.iaload, 1) := by decide +kernel
theorem dL_law_842 : decode code 842 = .ok (.aload_n 0, 1) := by decide +kernel
theorem dL_law_843 : decode code 843 = .ok (.iload_n 3, 1) := by decide +kernel
theorem dL_law_844 : decode code 844 = .ok (.iconst 3, 1) := by decide +kernel
theorem dL_law_845 : decode code 845 = .ok (.iadd, 1) := by decide +kernel
theorem dL_law_846 : decode code 846 = .ok (.iaload, 1) := by decide +kernel
theorem dL_law_847 : decode code 847 = .ok (.invokevirtual 106, 3) := by decide +kernel
theorem dL_law_850 : decode code 850 = .ok (.if_icmp .eq 240, 3) := by decide +kernel
theorem dL_law_853 : decode code 853 = .ok (.iconst 0, 1) := by decide +kernel
theorem dL_law_854 : decode code 854 = .ok (.ireturn, 1) := by decide +kernel
theorem dL_law_855 : decode code 855 = .ok (.aload_n 1, 1) := by decide +kernel
theorem dL_law_856 : decode code 856 = .ok (.aload_n 0, 1) := by decide +kernel
theorem dL_law_857 : decode code 857 = .ok (.iload_n 3, 1) := by decide +kernel
theorem dL_law_858 : decode code 858 = .ok (.iconst 1, 1) := by decide +kernel
theorem dL_law_859 : decode code 859 = .ok (.iadd, 1) := by decide +kernel
theorem dL_law_860 : decode code 860 = .ok (.iaload, 1) := by decide +kernel
theorem dL_law_861 : decode code 861 = .ok (.aload_n 0, 1) := by decide +kernel
theorem dL_law_862 : decode code 862 = .ok (.iload_n 3, 1) := by decide +kernel
theorem dL_law_863 : decode code 863 = .ok (.iconst 2, 1) := by decide +kernel
theorem dL_law_864 : decode code 864 = .ok (.iadd, 1) := by decide +kernel
theorem dL_law_865 : decode code 865 = .ok (.iaload, 1) := by decide +kernel
theorem dL_law_866 : decode code 866 = .ok (.invokevirtual 107, 3) := by decide +kernel
theorem dL_law_869 : decode code 869 = .ok (.aload_n 2, 1) := by decide +kernel
theorem dL_law_870 : decode code 870 = .ok (.aload_n 0, 1) := by decide +kernel
theorem dL_law_871 : decode code 871 = .ok (.iload_n 3, 1) := by decide +kernel
theorem dL_law_872 : decode code 872 = .ok (.iconst 1, 1) := by decide +kernel
theorem dL_law_873 : decode code 873 = .ok (.iadd, 1) := by decide +kernel
theorem dL_law_874 : decode code 874 = .ok (.iaload, 1) := by decide +kernel
theorem dL_law_875 : decode code 875 = .ok (.aload_n 0, 1) := by decide +kernel
theorem dL_law_876 : decode code 876 = .ok (.iload_n 3, 1) := by decide +kernel
theorem dL_law_877 : decode code 877 = .ok (.iconst 2, 1) := by decide +kernel
theorem dL_law_878 : decode code 878 = .ok (.iadd, 1) := by decide +kernel
theorem dL_law_879 : decode code 879 = .ok (.iaload, 1) := by decide +kernel
theorem dL_law_880 : decode code 880 = .ok (.invokevirtual 110, 3) := by decide +kernel
theorem dL_law_883 : decode code 883 = .ok (.if_icmp .eq 207, 3) := by decide +kernel
theorem dL_law_886 : decode code 886 = .ok (.iconst 0, 1) := by decide +kernel
theorem dL_law_887 : decode code 887 = .ok (.ireturn, 1) := by decide +kernel
theorem dL_law_888 : decode code 888 = .ok (.aload_n 1, 1) := by decide +kernel
theorem dL_law_889 : decode code 889 = .ok (.invokevirtual 111, 3) := by decide +kernel
theorem dL_law_892 : decode code 892 = .ok (.aload_n 2, 1) := by decide +kernel
theorem dL_law_893 : decode code 893 = .ok (.invokevirtual 114, 3) := by decide +kernel
theorem dL_law_896 : decode code 896 = .ok (.if_icmp .eq 194, 3) := by decide +kernel
theorem dL_law_899 : decode code 899 = .ok (.iconst 0, 1) := by decide +kernel
theorem dL_law_900 : decode code 900 = .ok (.ireturn, 1) := by decide +kernel
theorem dL_law_901 : decode code 901 = .ok (.aload_n 1, 1) := by decide +kernel
theorem dL_law_902 : decode code 902 = .ok (.aload_n 0, 1) := by decide +kernel
theorem dL_law_903 : decode code 903 = .ok (.iload_n 3, 1) := by decide +kernel
theorem dL_law_904 : decode code 904 = .ok (.iconst 1, 1) := by decide +kernel
theorem dL_law_905 : decode code 905 = .ok (.iadd, 1) := by decide +kernel
theorem dL_law_906 : decode code 906 = .ok (.iaload, 1) := by decide +kernel
theorem dL_law_907 : decode code 907 = .ok (.invokevirtual 115, 3) := by decide +kernel
theorem dL_law_910 : decode code 910 = .ok (.aload_n 2, 1) := by decide +kernel
theorem dL_law_911 : decode code 911 = .ok (.aload_n 0, 1) := by decide +kernel
theorem dL_law_912 : decode code 912 = .ok (.iload_n 3, 1) := by decide +kernel
theorem dL_law_913 : decode code 913 = .ok (.iconst 1, 1) := by decide +kernel
theorem dL_law_914 : decode code 914 = .ok (.iadd, 1) := by decide +kernel
theorem dL_law_915 : decode code 915 = .ok (.iaload, 1) := by decide +kernel
theorem dL_law_916 : decode code 916 = .ok (.invokevirtual 118, 3) := by decide +kernel
theorem dL_law_919 : decode code 919 = .ok (.if_icmp .eq 171, 3) := by decide +kernel
theorem dL_law_922 : decode code 922 = .ok (.iconst 0, 1) := by decide +kernel
theorem dL_law_923 : decode code 923 = .ok (.ireturn, 1) := by decide +kernel
theorem dL_law_924 : decode code 924 = .ok (.aload_n 1, 1) := by decide +kernel
theorem dL_law_925 : decode code 925 = .ok (.aload_n 0, 1) := by decide +kernel
theorem dL_law_926 : decode code 926 = .ok (.iload_n 3, 1) := by decide +kernel
theorem dL_law_927 : decode code 927 = .ok (.iconst 1, 1) := by decide +kernel
theorem dL_law_928 : decode code 928 = .ok (.iadd, 1) := by decide +kernel
theorem dL_law_929 : decode code 929 = .ok (.iaload, 1) := by decide +kernel
theorem dL_law_930 : decode code 930 = .ok (.aload_n 0, 1) := by decide +kernel
theorem dL_law_931 : decode code 931 = .ok (.iload_n 3, 1) := by decide +kernel
theorem dL_law_932 : decode code 932 = .ok (.iconst 2, 1) := by decide +kernel
theorem dL_law_933 : decode code 933 = .ok (.iadd, 1) := by decide +kernel
theorem dL_law_934 : decode code 934 = .ok (.iaload, 1) := by decide +kernel
theorem dL_law_935 : decode code 935 = .ok (.aload_n 0, 1) := by decide +kernel
theorem dL_law_936 : decode code 936 = .ok (.iload_n 3, 1) := by decide +kernel
theorem dL_law_937 : decode code 937 = .ok (.iconst 3, 1) := by decide +kernel
theorem dL_law_938 : decode code 938 = .ok (.iadd, 1) := by decide +kernel
theorem dL_law_939 : decode code 939 = .ok (.iaload, 1) := by decide +kernel
theorem dL_law_940 : decode code 940 = .ok (.aload_n 0, 1) := by decide +kernel
theorem dL_law_941 : decode code 941 = .ok (.iload_n 3, 1) := by decide +kernel
theorem dL_law_942 : decode code 942 = .ok (.iconst 4, 1) := by decide +kernel
theorem dL_law_943 : decode code 943 = .ok (.iadd, 1) := by decide +kernel
theorem dL_law_944 : decode code 944 = .ok (.iaload, 1) := by decide +kernel
theorem dL_law_945 : decode code 945 = .ok (.invokevirtual 119, 3) := by decide +kernel
theorem dL_law_948 : decode code 948 = .ok (.aload_n 2, 1) := by decide +kernel
theorem dL_law_949 : decode code 949 = .ok (.aload_n 0, 1) := by decide +kernel
theorem dL_law_950 : decode code 950 = .ok (.iload_n 3, 1) := by decide +kernel
theorem dL_law_951 : decode code 951 = .ok (.iconst 1, 1) := by decide +kernel
theorem dL_law_952 : decode code 952 = .ok (.iadd, 1) := by decide +kernel
theorem dL_law_953 : decode code 953 = .ok (.iaload, 1) := by decide +kernel
theorem dL_law_954 : decode code 954 = .ok (.aload_n 0, 1) := by decide +kernel
theorem dL_law_955 : decode code 955 = .ok (.iload_n 3, 1) := by decide +kernel
theorem dL_law_956 : decode code 956 = .ok (.iconst 2, 1) := by decide +kernel
theorem dL_law_957 : decode code 957 = .ok (.iadd, 1) := by decide +kernel
theorem dL_law_958 : decode code 958 = .ok (.iaload, 1) := by decide +kernel
theorem dL_law_959 : decode code 959 = .ok (.aload_n 0, 1) := by decide +kernel
theorem dL_law_960 : decode code 960 = .ok (.iload_n 3, 1) := by decide +kernel
theorem dL_law_961 : decode code 961 = .ok (.iconst 3, 1) := by decide +kernel
theorem dL_law_962 : decode code 962 = .ok (.iadd, 1) := by decide +kernel
theorem dL_law_963 : decode code 963 = .ok (.iaload, 1) := by decide +kernel
theorem dL_law_964 : decode code 964 = .ok (.aload_n 0, 1) := by decide +kernel
theorem dL_law_965 : decode code 965 = .ok (.iload_n 3, 1) := by decide +kernel
theorem dL_law_966 : decode code 966 = .ok (.iconst 4, 1) := by decide +kernel
theorem dL_law_967 : decode code 967 = .ok (.iadd, 1) := by decide +kernel
theorem dL_law_968 : decode code 968 = .ok (.iaload, 1) := by decide +kernel
theorem dL_law_969 : decode code 969 = .ok (.invokevirtual 122, 3) := by decide +kernel
theorem dL_law_972 : decode code 972 = .ok (.lcmp, 1) := by decide +kernel
theorem dL_law_973 : decode code 973 = .ok (.ifCond .eq 117, 3) := by decide +kernel
theorem dL_law_976 : decode code 976 = .ok (.iconst 0, 1) := by decide +kernel
theorem dL_law_977 : decode code 977 = .ok (.ireturn, 1) := by decide +kernel
theorem dL_law_978 : decode code 978 = .ok (.aload_n 1, 1) := by decide +kernel
theorem dL_law_979 : decode code 979 = .ok (.aload_n 0, 1) := by decide +kernel
theorem dL_law_980 : decode code 980 = .ok (.iload_n 3, 1) := by decide +kernel
theorem dL_law_981 : decode code 981 = .ok (.iconst 1, 1) := by decide +kernel
theorem dL_law_982 : decode code 982 = .ok (.iadd, 1) := by decide +kernel
theorem dL_law_983 : decode code 983 = .ok (.iaload, 1) := by decide +kernel
theorem dL_law_984 : decode code 984 = .ok (.aload_n 0, 1) := by decide +kernel
theorem dL_law_985 : decode code 985 = .ok (.iload_n 3, 1) := by decide +kernel
theorem dL_law_986 : decode code 986 = .ok (.iconst 2, 1) := by decide +kernel
theorem dL_law_987 : decode code 987 = .ok (.iadd, 1) := by decide +kernel
theorem dL_law_988 : decode code 988 = .ok (.iaload, 1) := by decide +kernel
theorem dL_law_989 : decode code 989 = .ok (.aload_n 0, 1) := by decide +kernel
theorem dL_law_990 : decode code 990 = .ok (.iload_n 3, 1) := by decide +kernel
theorem dL_law_991 : decode code 991 = .ok (.iconst 3, 1) := by decide +kernel
theorem dL_law_992 : decode code 992 = .ok (.iadd, 1) := by decide +kernel
theorem dL_law_993 : decode code 993 = .ok (.iaload, 1) := by decide +kernel
theorem dL_law_994 : decode code 994 = .ok (.invokevirtual 123, 3) := by decide +kernel
theorem dL_law_997 : decode code 997 = .ok (.aload_n 2, 1) := by decide +kernel
theorem dL_law_998 : decode code 998 = .ok (.aload_n 0, 1) := by decide +kernel
theorem dL_law_999 : decode code 999 = .ok (.iload_n 3, 1) := by decide +kernel
theorem dL_law_1000 : decode code 1000 = .ok (.iconst 1, 1) := by decide +kernel
theorem dL_law_1001 : decode code 1001 = .ok (.iadd, 1) := by decide +kernel
theorem dL_law_1002 : decode code 1002 = .ok (.iaload, 1) := by decide +kernel
theorem dL_law_1003 : decode code 1003 = .ok (.aload_n 0, 1) := by decide +kernel
theorem dL_law_1004 : decode code 1004 = .ok (.iload_n 3, 1) := by decide +kernel
theorem dL_law_1005 : decode code 1005 = .ok (.iconst 2, 1) := by decide +kernel
theorem dL_law_1006 : decode code 1006 = .ok (.iadd, 1) := by decide +kernel
theorem dL_law_1007 : decode code 1007 = .ok (.iaload, 1) := by decide +kernel
theorem dL_law_1008 : decode code 1008 = .ok (.aload_n 0, 1) := by decide +kernel
theorem dL_law_1009 : decode code 1009 = .ok (.iload_n 3, 1) := by decide +kernel
theorem dL_law_1010 : decode code 1010 = .ok (.iconst 3, 1) := by decide +kernel
theorem dL_law_1011 : decode code 1011 = .ok (.iadd, 1) := by decide +kernel
theorem dL_law_1012 : decode code 1012 = .ok (.iaload, 1) := by decide +kernel
theorem dL_law_1013 : decode code 1013 = .ok (.invokevirtual 126, 3) := by decide +kernel
theorem dL_law_1016 : decode code 1016 = .ok (.if_icmp .eq 74, 3) := by decide +kernel
theorem dL_law_1019 : decode code 1019 = .ok (.iconst 0, 1) := by decide +kernel
theorem dL_law_1020 : decode code 1020 = .ok (.ireturn, 1) := by decide +kernel
theorem dL_law_1021 : decode code 1021 = .ok (.aload_n 1, 1) := by decide +kernel
theorem dL_law_1022 : decode code 1022 = .ok (.aload_n 0, 1) := by decide +kernel
theorem dL_law_1023 : decode code 1023 = .ok (.iload_n 3, 1) := by decide +kernel
theorem dL_law_1024 : decode code 1024 = .ok (.iconst 1, 1) := by decide +kernel
theorem dL_law_1025 : decode code 1025 = .ok (.iadd, 1) := by decide +kernel
theorem dL_law_1026 : decode code 1026 = .ok (.iaload, 1) := by decide +kernel
theorem dL_law_1027 : decode code 1027 = .ok (.invokevirtual 127, 3) := by decide +kernel
theorem dL_law_1030 : decode code 1030 = .ok (.aload_n 2, 1) := by decide +kernel
theorem dL_law_1031 : decode code 1031 = .ok (.aload_n 0, 1) := by decide +kernel
theorem dL_law_1032 : decode code 1032 = .ok (.iload_n 3, 1) := by decide +kernel
theorem dL_law_1033 : decode code 1033 = .ok (.iconst 1, 1) := by decide +kernel
theorem dL_law_1034 : decode code 1034 = .ok (.iadd, 1) := by decide +kernel
theorem dL_law_1035 : decode code 1035 = .ok (.iaload, 1) := by decide +kernel
theorem dL_law_1036 : decode code 1036 = .ok (.invokevirtual 130, 3) := by decide +kernel
theorem dL_law_1039 : decode code 1039 = .ok (.if_icmp .eq 51, 3) := by decide +kernel
theorem dL_law_1042 : decode code 1042 = .ok (.iconst 0, 1) := by decide +kernel
theorem dL_law_1043 : decode code 1043 = .ok (.ireturn, 1) := by decide +kernel
theorem dL_law_1044 : decode code 1044 = .ok (.aload_n 1, 1) := by decide +kernel
theorem dL_law_1045 : decode code 1045 = .ok (.aload_n 0, 1) := by decide +kernel
theorem dL_law_1046 : decode code 1046 = .ok (.iload_n 3, 1) := by decide +kernel
theorem dL_law_1047 : decode code 1047 = .ok (.iconst 1, 1) := by decide +kernel
theorem dL_law_1048 : decode code 1048 = .ok (.iadd, 1) := by decide +kernel
theorem dL_law_1049 : decode code 1049 = .ok (.iaload, 1) := by decide +kernel
theorem dL_law_1050 : decode code 1050 = .ok (.invokevirtual 131, 3) := by decide +kernel
theorem dL_law_1053 : decode code 1053 = .ok (.aload_n 2, 1) := by decide +kernel
theorem dL_law_1054 : decode code 1054 = .ok (.aload_n 0, 1) := by decide +kernel
theorem dL_law_1055 : decode code 1055 = .ok (.iload_n 3, 1) := by decide +kernel
theorem dL_law_1056 : decode code 1056 = .ok (.iconst 1, 1) := by decide +kernel
theorem dL_law_1057 : decode code 1057 = .ok (.iadd, 1) := by decide +kernel
theorem dL_law_1058 : decode code 1058 = .ok (.iaload, 1) := by decide +kernel
theorem dL_law_1059 : decode code 1059 = .ok (.invokevirtual 134, 3) := by decide +kernel
theorem dL_law_1062 : decode code 1062 = .ok (.if_icmp .eq 28, 3) := by decide +kernel
theorem dL_law_1065 : decode code 1065 = .ok (.iconst 0, 1) := by decide +kernel
theorem dL_law_1066 : decode code 1066 = .ok (.ireturn, 1) := by decide +kernel
theorem dL_law_1067 : decode code 1067 = .ok (.aload_n 1, 1) := by decide +kernel
theorem dL_law_1068 : decode code 1068 = .ok (.aload_n 0, 1) := by decide +kernel
theorem dL_law_1069 : decode code 1069 = .ok (.iload_n 3, 1) := by decide +kernel
theorem dL_law_1070 : decode code 1070 = .ok (.iconst 1, 1) := by decide +kernel
theorem dL_law_1071 : decode code 1071 = .ok (.iadd, 1) := by decide +kernel
theorem dL_law_1072 : decode code 1072 = .ok (.iaload, 1) := by decide +kernel
theorem dL_law_1073 : decode code 1073 = .ok (.invokevirtual 135, 3) := by decide +kernel
theorem dL_law_1076 : decode code 1076 = .ok (.aload_n 2, 1) := by decide +kernel
theorem dL_law_1077 : decode code 1077 = .ok (.aload_n 0, 1) := by decide +kernel
theorem dL_law_1078 : decode code 1078 = .ok (.iload_n 3, 1) := by decide +kernel
theorem dL_law_1079 : decode code 1079 = .ok (.iconst 1, 1) := by decide +kernel
theorem dL_law_1080 : decode code 1080 = .ok (.iadd, 1) := by decide +kernel
theorem dL_law_1081 : decode code 1081 = .ok (.iaload, 1) := by decide +kernel
theorem dL_law_1082 : decode code 1082 = .ok (.invokevirtual 138, 3) := by decide +kernel
theorem dL_law_1085 : decode code 1085 = .ok (.if_icmp .eq 5, 3) := by decide +kernel
theorem dL_law_1088 : decode code 1088 = .ok (.iconst 0, 1) := by decide +kernel
theorem dL_law_1089 : decode code 1089 = .ok (.ireturn, 1) := by decide +kernel
theorem dL_law_1090 : decode code 1090 = .ok (.iinc 3 6, 3) := by decide +kernel
theorem dL_law_1093 : decode code 1093 = .ok (.goto (-1075), 3) := by decide +kernel
theorem dL_law_1096 : decode code 1096 = .ok (.iconst 1, 1) := by decide +kernel
theorem dL_law_1097 : decode code 1097 = .ok (.ireturn, 1) := by decide +kernel
abbrev lw_Y (nm : String) : My := (RL, code, 4, ret, nm)
abbrev lw_X (nm : String) : Xc := (lw_Y nm, 9, 600000, 7302250)
section LW
variable {p : Program} {l : Launch} {e : Env} {s : State} {m : MethodId} {args : Array Value} {below : List Frame} {meth : Method} {c : Code} {K : Kn} {b : Nat} {H : Heap} {locs : List Loc} {ls : Array Slot} {X : Xc} {u : Nat × Nat} {M : Me} {pc q : Nat} {st : List Value} {Q : State → Prop}
/-- behind a call, for any end -/
theorem w_after {mc ms : Nat} {res0 : Rs} {st0 : List Value} {av : Array Value}
    (hS : va_S (fun q => b ≤ q) s.heap H locs)
    (hr : va_Run p l e (rm_d X.2.1 X.2.2.1 X.2.2.2) s m args below meth c H locs u.1 u.2 mc ms (F0 m pc ls st0) (st.map (up_v b)) (qc_r K b res0 av) (fun q => b ≤ q))
    (k : ∀ (H1 : Heap) (locs1 : List Loc), va_P (K.1, K.2.1) cl_s (en_c K.2.2 b res0.2) H1 → va_S (fun q => b ≤ q) s.heap H1 locs1 → H1.size = b + res0.2.1.length → W p l e (rm_d X.2.1 X.2.2.1 X.2.2.2) s m args below meth c H1 locs1 (u.1 + mc) (u.2 + ms) Q (F0 m (pc + 3) ls ((res0.1.toList ++ st).map (up_v b)))) :
    W p l e (rm_d X.2.1 X.2.2.1 X.2.2.2) s m args below meth c H locs u.1 u.2 Q (F0 m pc ls st0) := by
  intro T hT Xs
  obtain ⟨v, st₀, t, T', L, h0, X', hL, e1, e2, ⟨hv, ⟨hz1, hP1, -⟩, hz, hk⟩, stp⟩ := hr T hT Xs
  cases hv
  rw [h0] at hz hk
  have hS1 : va_S (fun q => b ≤ q) s.heap T'.heap (locs ++ L) := ⟨Nat.le_trans hS.1 (by rw [e1]; exact hz), fun q h1 h2 => by rw [e1, hk q (Nat.lt_of_lt_of_le h1 hS.1) h2]; exact hS.2.1 q h1 h2, fun q hq => by
      rcases List.mem_append.mp hq with h | h
      · exact hS.2.2 q h
      · exact hL q h⟩
  obtain ⟨t2, a1, b1⟩ := k T'.heap (locs ++ L) (by rw [e1]; exact hP1) hS1 (by rw [e1]; exact hz1) T' rfl X'
  refine ⟨t2, stp t2 ?_, b1⟩
  have e9 : (res0.1.map (up_v b)).toList ++ st.map (up_v b) = (res0.1.toList ++ st).map (up_v b) := by
    cases res0.1 <;> rfl
  show Steps p.tables e below (T'.setTop (F0 m (pc + 3) ls ((res0.1.map (up_v b)).toList ++ st.map (up_v b)))) t2
  rw [e9]
  exact a1
theorem w_callV {y : MethodName} {Y : My} {d mc ms n ci a index : Nat} {av : List Value} {res0 : Rs} (A : Am X p s m args meth c K b) (hP : va_P (K.1, K.2.1) cl_s (en_c K.2.2 b M) H) (hS : va_S (fun q => b ≤ q) s.heap H locs) (hz : H.size = b + M.1.length) (hls : ls.size = X.1.2.2.1) (hC : Ct y Y d mc ms (.ref a :: av) M res0) (hdg : decode X.1.2.1 pc = .ok (.invokevirtual index, 3)) (hw : cv_k X.1.1 index y Y n ci) (hn : av.length = n) (hd : d + 1 ≤ X.2.1) (hk : me_k M a = some (ci, nf_c ci)) (hst : (st.map fun v => v.category).sum ≤ 8) (hu : u.1 + mc ≤ X.2.2.1 ∧ u.2 + ms ≤ X.2.2.2)
    (k : ∀ (H1 : Heap) (locs1 : List Loc), va_P (K.1, K.2.1) cl_s (en_c K.2.2 b res0.2) H1 → va_S (fun q => b ≤ q) s.heap H1 locs1 → H1.size = b + res0.2.1.length → W p l e (rm_d X.2.1 X.2.2.1 X.2.2.2) s m args below meth c H1 locs1 (u.1 + mc) (u.2 + ms) Q (F0 m (pc + 3) ls ((res0.1.toList ++ st).map (up_v b)))) :
    W p l e (rm_d X.2.1 X.2.2.1 X.2.2.2) s m args below meth c H locs u.1 u.2 Q (F0 m pc ls ((av.reverse ++ .ref a :: st).map (up_v b))) := by
  obtain ⟨⟨hlk, hcode, hini, hmh, hpd, hmL⟩, h1, h2, hc, hy⟩ := hw
  have hstk : (av.reverse ++ .ref a :: st).map (up_v b) = (av.map (up_v b)).reverse ++ .ref (b + a) :: st.map (up_v b) := by
    rw [List.map_append, List.map_reverse]; rfl
  have hrest : ((st.map (up_v b)).map fun v => v.category).sum ≤ 8 := by
    rw [List.map_map]; rw [show ((fun v : Value => v.category) ∘ up_v b) = (fun v => v.category) by funext v; exact up_cat b v]; exact hst
  have hlen : ∀ sig, parseMethodDescriptor y.desc = some sig → n = sig.parameters.length := fun sig h => by
    rw [h] at hpd; exact (Option.some.inj hpd).symm
  have hpre : PreV s H y.cls (b + a) (va_Pc ((.ref a :: av).map (up_v b)) (ho_d K b M)) (av.map (up_v b)) :=
    ⟨ho_blind, by rw [hy]; exact va_recv A.2.2.2.2.2.2.1.1 hP (cl_at ci hc) (q0 := a) (by rw [en_at hk, ce_obj hc]), fun U hU hW => ⟨rfl, by rw [hU]; exact hz, by rw [hU]; exact hP, kn_K.warm hW A.2.2.2.2.2.2.1⟩⟩
  rw [hstk]
  rcases hlk with hlk | ⟨host, hlk⟩
  · exact w_after (mc := mc) (ms := ms) hS (va_runV (n := n) (As := av.map (up_v b)) (rest := st.map (up_v b)) ⟨A.1, A.2.1, A.2.2.2.1, A.2.2.2.2.1, A.2.2.2.2.2.1⟩ (hC l K b)
      ⟨⟨rfl, rfl, hd, (by show 8 + (Y.2.2.1 + 11) + 38 * d ≤ 38 * X.2.1; omega), cw_ws A hcode, List.mem_cons_self, A.2.2.2.2.2.1 _ hcode, A.2.2.2.2.2.1 _ hini, hmh, hlen, A.2.2.2.2.2.1 _ hlk⟩, A.2.2.2.2.2.1 _ h1, A.2.2.2.2.2.1 _ h2⟩ hpre rfl (by rw [List.length_map]; exact hn) hls rfl (lv_room hrest) hdg hu) k
  · exact w_after (mc := mc) (ms := ms) hS (va_runVN (n := n) (As := av.map (up_v b)) (rest := st.map (up_v b)) ⟨A.1, A.2.1, A.2.2.2.1, A.2.2.2.2.1, A.2.2.2.2.2.1⟩ (hC l K b)
      ⟨⟨⟨rfl, rfl, hd, (by show 8 + (Y.2.2.1 + 11) + 38 * d ≤ 38 * X.2.1; omega), cw_ws A hcode, List.mem_cons_self⟩, A.2.2.2.2.2.1 _ hcode, A.2.2.2.2.2.1 _ hini, hmh, hlen, va_Nw.use rfl (A.2.2.2.2.2.2.1.2 _ hlk)⟩, A.2.2.2.2.2.1 _ h1, A.2.2.2.2.2.1 _ h2⟩ hpre rfl (by rw [List.length_map]; exact hn) hls rfl (lv_room hrest) hdg hu) k
theorem w_callN {y : MethodName} {Y : My} {d mc ms n a index : Nat} {av : List Value} {res0 : Rs} (A : Am X p s m args meth c K b) (hP : va_P (K.1, K.2.1) cl_s (en_c K.2.2 b M) H) (hS : va_S (fun q => b ≤ q) s.heap H locs) (hz : H.size = b + M.1.length) (hls : ls.size = X.1.2.2.1) (hC : Ct y Y d mc ms (.ref a :: av) M res0) (hdg : decode X.1.2.1 pc = .ok (.invokespecial index, 3)) (hw : cn_k X.1.1 index y Y n) (hn : av.length = n) (hd : d + 1 ≤ X.2.1) (hst : (st.map fun v => v.category).sum ≤ 8) (hu : u.1 + mc ≤ X.2.2.1 ∧ u.2 + ms ≤ X.2.2.2)
    (k : ∀ (H1 : Heap) (locs1 : List Loc), va_P (K.1, K.2.1) cl_s (en_c K.2.2 b res0.2) H1 → va_S (fun q => b ≤ q) s.heap H1 locs1 → H1.size = b + res0.2.1.length → W p l e (rm_d X.2.1 X.2.2.1 X.2.2.2) s m args below meth c H1 locs1 (u.1 + mc) (u.2 + ms) Q (F0 m (pc + 3) ls ((res0.1.toList ++ st).map (up_v b)))) :
    W p l e (rm_d X.2.1 X.2.2.1 X.2.2.2) s m args below meth c H locs u.1 u.2 Q (F0 m pc ls ((av.reverse ++ .ref a :: st).map (up_v b))) := by
  obtain ⟨⟨hlk, hcode, hini, hmh, hpd, hmL⟩, hr, h1, h2⟩ := hw
  rw [hr] at hcode
  have hM := hC l K b
  rw [hr] at hM
  have hstk : (av.reverse ++ .ref a :: st).map (up_v b) = (av.map (up_v b)).reverse ++ .ref (b + a) :: st.map (up_v b) := by
    rw [List.map_append, List.map_reverse]; rfl
  have hrest : ((st.map (up_v b)).map fun v => v.category).sum ≤ 8 := by
    rw [List.map_map]; rw [show ((fun v : Value => v.category) ∘ up_v b) = (fun v => v.category) by funext v; exact up_cat b v]; exact hst
  have hlen : ∀ sig, parseMethodDescriptor y.desc = some sig → n = sig.parameters.length := fun sig h => by
    rw [h] at hpd; exact (Option.some.inj hpd).symm
  have hpre : PreS s H (va_Pc ((.ref a :: av).map (up_v b)) (ho_d K b M)) (.ref (b + a) :: av.map (up_v b)) :=
    ⟨ho_blind, fun U hU hW => ⟨rfl, by rw [hU]; exact hz, by rw [hU]; exact hP, kn_K.warm hW A.2.2.2.2.2.2.1⟩⟩
  rw [hstk]
  rcases hlk with hlk | ⟨host, hlk⟩
  · exact w_after (mc := mc) (ms := ms) hS (va_runI (n := n) (As := av.map (up_v b)) (rest := st.map (up_v b)) ⟨A.1, A.2.1, A.2.2.2.1, A.2.2.2.2.1, A.2.2.2.2.2.1⟩ hM
      ⟨⟨rfl, rfl, hd, (by show 8 + (Y.2.2.1 + 11) + 38 * d ≤ 38 * X.2.1; omega), cw_ws A hcode, List.mem_cons_self, A.2.2.2.2.2.1 _ hcode, A.2.2.2.2.2.1 _ hini, hmh, hlen, A.2.2.2.2.2.1 _ hlk⟩, h2, A.2.2.2.2.2.1 _ h1⟩ hpre rfl (by rw [List.length_map]; exact hn) hls rfl (lv_room hrest) hdg hu) k
  · exact w_after (mc := mc) (ms := ms) hS (va_runIN (n := n) (As := av.map (up_v b)) (rest := st.map (up_v b)) ⟨A.1, A.2.1, A.2.2.2.1, A.2.2.2.2.1, A.2.2.2.2.2.1⟩ hM
      ⟨⟨⟨rfl, rfl, hd, (by show 8 + (Y.2.2.1 + 11) + 38 * d ≤ 38 * X.2.1; omega), cw_ws A hcode, List.mem_cons_self⟩, A.2.2.2.2.2.1 _ hcode, A.2.2.2.2.2.1 _ hini, hmh, hlen, va_Nw.use rfl (A.2.2.2.2.2.2.1.2 _ hlk)⟩, h2, A.2.2.2.2.2.1 _ h1⟩ hpre rfl (by rw [List.length_map]; exact hn) hls rfl (lv_room hrest) hdg hu) k
end LW
/-- the law's places: the script at b0, the class's object at the memory's cell 0, the reference's at 70 -/
def Lw (p : Program) (l : Launch) (e : Env) (s : State) (m : MethodId) (below : List Frame) (meth : Method) (c : Code) (K : Kn) (b0 : Nat) (M : Me) (u : Nat × Nat) (i : Int32) (pc : Nat) (st : List Value) : Prop :=
  ∀ (H : Heap) (locs : List Loc) (ls : Array Slot), va_P (K.1, K.2.1) cl_s (en_c K.2.2 s.heap.size M) H → va_S (fun q => s.heap.size ≤ q) s.heap H locs → H.size = s.heap.size + M.1.length → lv_has ls 4 [(0, .ref b0), (1, .ref (s.heap.size + 0)), (2, .ref (s.heap.size + 70)), (3, .int i)] →
    W p l e room_1 s m #[Value.ref b0] below meth c H locs u.1 u.2 (lw_Z below #[Value.ref b0] s) (F0 m pc ls (st.map (up_v s.heap.size)))
def La (p : Program) (s : State) (m : MethodId) (meth : Method) (c : Code) (K : Kn) (b0 L : Nat) (xs : Nat → Int32) : Prop :=
  Am (lw_X meth.name) p s m #[Value.ref b0] meth c K s.heap.size ∧ va_X b0 L xs s s.heap ∧ b0 < s.heap.size
section LX
variable {p : Program} {l : Launch} {e : Env} {s : State} {m : MethodId} {below : List Frame} {meth : Method} {c : Code} {K : Kn} {b0 L : Nat} {xs : Nat → Int32} {M : Me} {u : Nat × Nat} {i : Int32} {pc : Nat} {st : List Value}
theorem l_ax (C : La p s m meth c K b0 L xs) (hdg : decode code pc = .ok (.aload_n 1, 1)) (k : Lw p l e s m below meth c K b0 M u i (pc + 1) (.ref 0 :: st)) : Lw p l e s m below meth c K b0 M u i pc st := by
  intro H locs ls hP hS hz hl
  exact lv_aload_n C.1.1 C.1.2.1 hdg rfl (lv_at hl 1 rfl) (k H locs ls hP hS hz hl)
theorem l_am (C : La p s m meth c K b0 L xs) (hdg : decode code pc = .ok (.aload_n 2, 1)) (k : Lw p l e s m below meth c K b0 M u i (pc + 1) (.ref 70 :: st)) : Lw p l e s m below meth c K b0 M u i pc st := by
  intro H locs ls hP hS hz hl
  exact lv_aload_n C.1.1 C.1.2.1 hdg rfl (lv_at hl 2 rfl) (k H locs ls hP hS hz hl)
/-- an argument: script[i + j] -/
theorem l_arg {j : Int} {v : Int32} (C : La p s m meth c K b0 L xs) (hv : Int32.ofInt j = v) (hin : vp_in (i + v) L) (d0 : decode code pc = .ok (.aload_n 0, 1)) (d1 : decode code (pc + 1) = .ok (.iload_n 3, 1)) (d2 : decode code (pc + 2) = .ok (.iconst j, 1)) (d3 : decode code (pc + 3) = .ok (.iadd, 1)) (d4 : decode code (pc + 4) = .ok (.iaload, 1))
    (k : Lw p l e s m below meth c K b0 M u i (pc + 5) (.int (xs (i + v).toNatClampNeg) :: st)) : Lw p l e s m below meth c K b0 M u i pc st := by
  intro H locs ls hP hS hz hl
  refine lv_aload_n C.1.1 C.1.2.1 d0 rfl (lv_at hl 0 rfl) ?_
  refine lv_iload_n C.1.1 C.1.2.1 d1 rfl (lv_at hl 3 rfl) ?_
  refine lv_iconst (v := v) C.1.1 C.1.2.1 d2 hv ?_
  refine lv_iadd C.1.1 C.1.2.1 d3 ?_
  refine va_sld C.1.1 C.1.2.1 C.2.1 C.2.2 (Nat.not_le.mpr C.2.2) hS hin d4 ?_
  exact k H locs ls hP hS hz hl
theorem l_call {y : MethodName} {Y : My} {mc ms n ci a index : Nat} {av : List Value} {res0 : Rs} (C : La p s m meth c K b0 L xs) (hC : Ct y Y 8 mc ms (.ref a :: av) M res0) (hdg : decode code pc = .ok (.invokevirtual index, 3)) (hw : cv_k RL index y Y n ci) (hn : av.length = n) (hk : me_k M a = some (ci, nf_c ci)) (hst : (st.map fun v => v.category).sum ≤ 8) (hu : u.1 + mc ≤ 600000 ∧ u.2 + ms ≤ 7302250)
    (k : Lw p l e s m below meth c K b0 res0.2 (u.1 + mc, u.2 + ms) i (pc + 3) (res0.1.toList ++ st)) : Lw p l e s m below meth c K b0 M u i pc (av.reverse ++ .ref a :: st) := by
  intro H locs ls hP hS hz hl
  exact w_callV (X := lw_X meth.name) (d := 8) C.1 hP hS hz hl.1 hC hdg hw hn (Nat.le_refl 9) hk hst hu (fun H1 locs1 hP1 hS1 hz1 => k H1 locs1 ls hP1 hS1 hz1 hl)
theorem l_eqI {off : Int} {v : Int32} (C : La p s m meth c K b0 L xs) (hdg : decode code pc = .ok (.if_icmp .eq off, 3)) (ht : (pc : Int) + off = 1090) (k : Lw p l e s m below meth c K b0 M u i 1090 st) : Lw p l e s m below meth c K b0 M u i pc (.int v :: .int v :: st) := by
  intro H locs ls hP hS hz hl
  exact lv_icmp_eq C.1.1 C.1.2.1 hdg ht (fun _ => k H locs ls hP hS hz hl) (fun h => absurd rfl h)
theorem l_eqL {off : Int} {v : Int64} (C : La p s m meth c K b0 L xs) (d0 : decode code pc = .ok (.lcmp, 1)) (hdg : decode code (pc + 1) = .ok (.ifCond .eq off, 3)) (ht : ((pc + 1 : Nat) : Int) + off = 1090) (k : Lw p l e s m below meth c K b0 M u i 1090 st) : Lw p l e s m below meth c K b0 M u i pc (.long v :: .long v :: st) := by
  intro H locs ls hP hS hz hl
  refine W.lcmp C.1.1 C.1.2.1 d0 ?_
  have h0 : lg_cmp v v = 0 := by simp [lg_cmp]
  rw [h0]
  exact lv_if_eq C.1.1 C.1.2.1 hdg ht (fun _ => k H locs ls hP hS hz hl) (fun h => absurd rfl h)
end LX
theorem cc_L_13 : cv_k RL 13 yX11_chapels mX11_chapels 1 11 := ⟨⟨Or.inl (gw_i2 85 rfl rfl), cw_X11_chapels⟩, gw_i2 86 rfl rfl, gw_i2 87 rfl rfl, by decide, rfl⟩
theorem cc_L_17 : cv_k RL 17 yX12_chapels mX12_chapels 1 12 := ⟨⟨Or.inl (gw_i4 221 rfl rfl), cw_X12_chapels⟩, gw_i4 222 rfl rfl, gw_i4 223 rfl rfl, by decide, rfl⟩
theorem cc_L_18 : cv_k RL 18 yX11_road mX11_road 3 11 := ⟨⟨Or.inl (gw_i2 103 rfl rfl), cw_X11_road⟩, gw_i2 104 rfl rfl, gw_i2 105 rfl rfl, by decide, rfl⟩
theorem cc_L_22 : cv_k RL 22 yX12_road mX12_road 3 12 := ⟨⟨Or.inl (gw_i4 228 rfl rfl), cw_X12_road⟩, gw_i4 229 rfl rfl, gw_i4 230 rfl rfl, by decide, rfl⟩
theorem cc_L_23 : cv_k RL 23 yX11_yearOf mX11_yearOf 1 11 := ⟨⟨Or.inl (gw_i2 120 rfl rfl), cw_X11_yearOf⟩, gw_i2 121 rfl rfl, gw_i2 122 rfl rfl, by decide, rfl⟩
theorem cc_L_26 : cv_k RL 26 yX12_yearOf mX12_yearOf 1 12 := ⟨⟨Or.inl (gw_i4 236 rfl rfl), cw_X12_yearOf⟩, gw_i4 237 rfl rfl, gw_i4 238 rfl rfl, by decide, rfl⟩
theorem cc_L_27 : cv_k RL 27 yX11_knight mX11_knight 5 11 := ⟨⟨Or.inl (gw_i2 124 rfl rfl), cw_X11_knight⟩, gw_i2 125 rfl rfl, gw_i2 126 rfl rfl, by decide, rfl⟩
theorem cc_L_31 : cv_k RL 31 yX12_knight mX12_knight 5 12 := ⟨⟨Or.inl (gw_i5 0 rfl rfl), cw_X12_knight⟩, gw_i5 1 rfl rfl, gw_i5 2 rfl rfl, by decide, rfl⟩
theorem cc_L_32 : cv_k RL 32 yX11_heir mX11_heir 2 11 := ⟨⟨Or.inl (gw_i2 150 rfl rfl), cw_X11_heir⟩, gw_i2 151 rfl rfl, gw_i2 152 rfl rfl, by decide, rfl⟩
theorem cc_L_36 : cv_k RL 36 yX12_heir mX12_heir 2 12 := ⟨⟨Or.inl (gw_i5 14 rfl rfl), cw_X12_heir⟩, gw_i5 15 rfl rfl, gw_i5 16 rfl rfl, by decide, rfl⟩
theorem cc_L_37 : cv_k RL 37 yX11_say mX11_say 1 11 := ⟨⟨Or.inl (gw_i2 167 rfl rfl), cw_X11_say⟩, gw_i2 168 rfl rfl, gw_i2 169 rfl rfl, by decide, rfl⟩
theorem cc_L_40 : cv_k RL 40 yX12_say mX12_say 1 12 := ⟨⟨Or.inl (gw_i5 18 rfl rfl), cw_X12_say⟩, gw_i5 19 rfl rfl, gw_i5 20 rfl rfl, by decide, rfl⟩
theorem cc_L_41 : cv_k RL 41 yX11_wipe mX11_wipe 0 11 := ⟨⟨Or.inl (gw_i2 175 rfl rfl), cw_X11_wipe⟩, gw_i2 176 rfl rfl, gw_i2 177 rfl rfl, by decide, rfl⟩
theorem cc_L_45 : cv_k RL 45 yX12_wipe mX12_wipe 0 12 := ⟨⟨Or.inl (gw_i5 22 rfl rfl), cw_X12_wipe⟩, gw_i5 23 rfl rfl, gw_i5 24 rfl rfl, by decide, rfl⟩
theorem cc_L_46 : cv_k RL 46 yX11_fault mX11_fault 0 11 := ⟨⟨Or.inl (gw_i2 179 rfl rfl), cw_X11_fault⟩, gw_i2 180 rfl rfl, gw_i2 181 rfl rfl, by decide, rfl⟩
theorem cc_L_49 : cv_k RL 49 yX12_fault mX12_fault 0 12 := ⟨⟨Or.inl (gw_i5 26 rfl rfl), cw_X12_fault⟩, gw_i5 27 rfl rfl, gw_i5 28 rfl rfl, by decide, rfl⟩
theorem cc_L_50 : cv_k RL 50 yX11_judge mX11_judge 1 11 := ⟨⟨Or.inl (gw_i2 214 rfl rfl), cw_X11_judge⟩, gw_i2 215 rfl rfl, gw_i2 216 rfl rfl, by decide, rfl⟩
theorem cc_L_53 : cv_k RL 53 yX12_judge mX12_judge 1 12 := ⟨⟨Or.inl (gw_i5 37 rfl rfl), cw_X12_judge⟩, gw_i5 38 rfl rfl, gw_i5 39 rfl rfl, by decide, rfl⟩
theorem cc_L_54 : cv_k RL 54 yX11_done mX11_done 0 11 := ⟨⟨Or.inl (gw_i3 101 rfl rfl), cw_X11_done⟩, gw_i3 102 rfl rfl, gw_i3 103 rfl rfl, by decide, rfl⟩
theorem cc_L_57 : cv_k RL 57 yX12_done mX12_done 0 12 := ⟨⟨Or.inl (gw_i5 93 rfl rfl), cw_X12_done⟩, gw_i5 94 rfl rfl, gw_i5 95 rfl rfl, by decide, rfl⟩
theorem cc_L_58 : cv_k RL 58 yX11_state mX11_state 2 11 := ⟨⟨Or.inl (gw_i3 106 rfl rfl), cw_X11_state⟩, gw_i3 107 rfl rfl, gw_i3 108 rfl rfl, by decide, rfl⟩
theorem cc_L_61 : cv_k RL 61 yX12_state mX12_state 2 12 := ⟨⟨Or.inl (gw_i5 105 rfl rfl), cw_X12_state⟩, gw_i5 106 rfl rfl, gw_i5 107 rfl rfl, by decide, rfl⟩
theorem cc_L_62 : cv_k RL 62 yX11_behind mX11_behind 2 11 := ⟨⟨Or.inl (gw_i3 115 rfl rfl), cw_X11_behind⟩, gw_i3 116 rfl rfl, gw_i3 117 rfl rfl, by decide, rfl⟩
theorem cc_L_65 : cv_k RL 65 yX12_behind mX12_behind 2 12 := ⟨⟨Or.inl (gw_i5 113 rfl rfl), cw_X12_behind⟩, gw_i5 114 rfl rfl, gw_i5 115 rfl rfl, by decide, rfl⟩
theorem cc_L_66 : cv_k RL 66 yX11_debt mX11_debt 2 11 := ⟨⟨Or.inl (gw_i3 119 rfl rfl), cw_X11_debt⟩, gw_i3 120 rfl rfl, gw_i3 121 rfl rfl, by decide, rfl⟩
theorem cc_L_69 : cv_k RL 69 yX12_debt mX12_debt 2 12 := ⟨⟨Or.inl (gw_i5 117 rfl rfl), cw_X12_debt⟩, gw_i5 118 rfl rfl, gw_i5 119 rfl rfl, by decide, rfl⟩
theorem cc_L_70 : cv_k RL 70 yX11_when mX11_when 2 11 := ⟨⟨Or.inl (gw_i3 128 rfl rfl), cw_X11_when⟩, gw_i3 129 rfl rfl, gw_i3 130 rfl rfl, by decide, rfl⟩
theorem cc_L_73 : cv_k RL 73 yX12_when mX12_when 2 12 := ⟨⟨Or.inl (gw_i5 121 rfl rfl), cw_X12_when⟩, gw_i5 122 rfl rfl, gw_i5 123 rfl rfl, by decide, rfl⟩
theorem cc_L_74 : cv_k RL 74 yX11_inTime mX11_inTime 1 11 := ⟨⟨Or.inl (gw_i3 157 rfl rfl), cw_X11_inTime⟩, gw_i3 158 rfl rfl, gw_i3 159 rfl rfl, by decide, rfl⟩
theorem cc_L_77 : cv_k RL 77 yX12_inTime mX12_inTime 1 12 := ⟨⟨Or.inl (gw_i5 138 rfl rfl), cw_X12_inTime⟩, gw_i5 139 rfl rfl, gw_i5 140 rfl rfl, by decide, rfl⟩
theorem cc_L_78 : cv_k RL 78 yX11_round mX11_round 2 11 := ⟨⟨Or.inl (gw_i3 169 rfl rfl), cw_X11_round⟩, gw_i3 170 rfl rfl, gw_i3 171 rfl rfl, by decide, rfl⟩
theorem cc_L_81 : cv_k RL 81 yX12_round mX12_round 2 12 := ⟨⟨Or.inl (gw_i5 142 rfl rfl), cw_X12_round⟩, gw_i5 143 rfl rfl, gw_i5 144 rfl rfl, by decide, rfl⟩
theorem cc_L_82 : cv_k RL 82 yX11_hard mX11_hard 5 11 := ⟨⟨Or.inl (gw_i3 195 rfl rfl), cw_X11_hard⟩, gw_i3 196 rfl rfl, gw_i3 197 rfl rfl, by decide, rfl⟩
theorem cc_L_85 : cv_k RL 85 yX12_hard mX12_hard 5 12 := ⟨⟨Or.inl (gw_i5 150 rfl rfl), cw_X12_hard⟩, gw_i5 151 rfl rfl, gw_i5 152 rfl rfl, by decide, rfl⟩
theorem cc_L_86 : cv_k RL 86 yX11_settled mX11_settled 0 11 := ⟨⟨Or.inl (gw_i3 206 rfl rfl), cw_X11_settled⟩, gw_i3 207 rfl rfl, gw_i3 208 rfl rfl, by decide, rfl⟩
theorem cc_L_89 : cv_k RL 89 yX12_settled mX12_settled 0 12 := ⟨⟨Or.inl (gw_i5 155 rfl rfl), cw_X12_settled⟩, gw_i5 156 rfl rfl, gw_i5 157 rfl rfl, by decide, rfl⟩
theorem cc_L_90 : cv_k RL 90 yX11_ring mX11_ring 0 11 := ⟨⟨Or.inl (gw_i3 219 rfl rfl), cw_X11_ring⟩, gw_i3 220 rfl rfl, gw_i3 221 rfl rfl, by decide, rfl⟩
theorem cc_L_93 : cv_k RL 93 yX12_ring mX12_ring 0 12 := ⟨⟨Or.inl (gw_i5 167 rfl rfl), cw_X12_ring⟩, gw_i5 168 rfl rfl, gw_i5 169 rfl rfl, by decide, rfl⟩
theorem cc_L_94 : cv_k RL 94 yX11_reckoned mX11_reckoned 3 11 := ⟨⟨Or.inl (gw_i3 238 rfl rfl), cw_X11_reckoned⟩, gw_i3 239 rfl rfl, gw_i4 0 rfl rfl, by decide, rfl⟩
theorem cc_L_97 : cv_k RL 97 yX12_reckoned mX12_reckoned 3 12 := ⟨⟨Or.inl (gw_i5 175 rfl rfl), cw_X12_reckoned⟩, gw_i5 176 rfl rfl, gw_i5 177 rfl rfl, by decide, rfl⟩
theorem cc_L_98 : cv_k RL 98 yX11_kept mX11_kept 4 11 := ⟨⟨Or.inl (gw_i4 8 rfl rfl), cw_X11_kept⟩, gw_i4 9 rfl rfl, gw_i4 10 rfl rfl, by decide, rfl⟩
theorem cc_L_102 : cv_k RL 102 yX12_kept mX12_kept 4 12 := ⟨⟨Or.inl (gw_i5 180 rfl rfl), cw_X12_kept⟩, gw_i5 181 rfl rfl, gw_i5 182 rfl rfl, by decide, rfl⟩
theorem cc_L_103 : cv_k RL 103 yX11_keeps mX11_keeps 3 11 := ⟨⟨Or.inl (gw_i4 41 rfl rfl), cw_X11_keeps⟩, gw_i4 42 rfl rfl, gw_i4 43 rfl rfl, by decide, rfl⟩
theorem cc_L_106 : cv_k RL 106 yX12_keeps mX12_keeps 3 12 := ⟨⟨Or.inl (gw_i5 193 rfl rfl), cw_X12_keeps⟩, gw_i5 194 rfl rfl, gw_i5 195 rfl rfl, by decide, rfl⟩
theorem cc_L_107 : cv_k RL 107 yX11_seen mX11_seen 2 11 := ⟨⟨Or.inl (gw_i4 45 rfl rfl), cw_X11_seen⟩, gw_i4 46 rfl rfl, gw_i4 47 rfl rfl, by decide, rfl⟩
theorem cc_L_110 : cv_k RL 110 yX12_seen mX12_seen 2 12 := ⟨⟨Or.inl (gw_i5 197 rfl rfl), cw_X12_seen⟩, gw_i5 198 rfl rfl, gw_i5 199 rfl rfl, by decide, rfl⟩
theorem cc_L_111 : cv_k RL 111 yX11_forget mX11_forget 0 11 := ⟨⟨Or.inl (gw_i4 53 rfl rfl), cw_X11_forget⟩, gw_i4 54 rfl rfl, gw_i4 55 rfl rfl, by decide, rfl⟩
theorem cc_L_114 : cv_k RL 114 yX12_forget mX12_forget 0 12 := ⟨⟨Or.inl (gw_i5 201 rfl rfl), cw_X12_forget⟩, gw_i5 202 rfl rfl, gw_i5 203 rfl rfl, by decide, rfl⟩
theorem cc_L_115 : cv_k RL 115 yX11_who mX11_who 1 11 := ⟨⟨Or.inl (gw_i4 57 rfl rfl), cw_X11_who⟩, gw_i4 58 rfl rfl, gw_i4 59 rfl rfl, by decide, rfl⟩
theorem cc_L_118 : cv_k RL 118 yX12_who mX12_who 1 12 := ⟨⟨Or.inl (gw_i5 205 rfl rfl), cw_X12_who⟩, gw_i5 206 rfl rfl, gw_i5 207 rfl rfl, by decide, rfl⟩
theorem cc_L_119 : cv_k RL 119 yX11_snow mX11_snow 4 11 := ⟨⟨Or.inl (gw_i4 72 rfl rfl), cw_X11_snow⟩, gw_i4 73 rfl rfl, gw_i4 74 rfl rfl, by decide, rfl⟩
theorem cc_L_122 : cv_k RL 122 yX12_snow mX12_snow 4 12 := ⟨⟨Or.inl (gw_i5 209 rfl rfl), cw_X12_snow⟩, gw_i5 210 rfl rfl, gw_i5 211 rfl rfl, by decide, rfl⟩
theorem cc_L_123 : cv_k RL 123 yX11_year mX11_year 3 11 := ⟨⟨Or.inl (gw_i4 79 rfl rfl), cw_X11_year⟩, gw_i4 80 rfl rfl, gw_i4 81 rfl rfl, by decide, rfl⟩
theorem cc_L_126 : cv_k RL 126 yX12_year mX12_year 3 12 := ⟨⟨Or.inl (gw_i5 213 rfl rfl), cw_X12_year⟩, gw_i5 214 rfl rfl, gw_i5 215 rfl rfl, by decide, rfl⟩
theorem cc_L_127 : cv_k RL 127 yX11_image mX11_image 1 11 := ⟨⟨Or.inl (gw_i4 96 rfl rfl), cw_X11_image⟩, gw_i4 97 rfl rfl, gw_i4 98 rfl rfl, by decide, rfl⟩
theorem cc_L_130 : cv_k RL 130 yX12_image mX12_image 1 12 := ⟨⟨Or.inl (gw_i5 218 rfl rfl), cw_X12_image⟩, gw_i5 219 rfl rfl, gw_i5 220 rfl rfl, by decide, rfl⟩
theorem cc_L_131 : cv_k RL 131 yX11_restore mX11_restore 1 11 := ⟨⟨Or.inl (gw_i4 100 rfl rfl), cw_X11_restore⟩, gw_i4 101 rfl rfl, gw_i4 102 rfl rfl, by decide, rfl⟩
theorem cc_L_134 : cv_k RL 134 yX12_restore mX12_restore 1 12 := ⟨⟨Or.inl (gw_i5 222 rfl rfl), cw_X12_restore⟩, gw_i5 223 rfl rfl, gw_i5 224 rfl rfl, by decide, rfl⟩
theorem cc_L_135 : cv_k RL 135 yX11_told mX11_told 1 11 := ⟨⟨Or.inl (gw_i4 104 rfl rfl), cw_X11_told⟩, gw_i4 105 rfl rfl, gw_i4 106 rfl rfl, by decide, rfl⟩
theorem cc_L_138 : cv_k RL 138 yX12_told mX12_told 1 12 := ⟨⟨Or.inl (gw_i5 226 rfl rfl), cw_X12_told⟩, gw_i5 227 rfl rfl, gw_i5 228 rfl rfl, by decide, rfl⟩
section LC
variable {p : Program} {l : Launch} {e : Env} {s : State} {m : MethodId} {below : List Frame} {meth : Method} {c : Code} {K : Kn} {b0 L : Nat} {xs : Nat → Int32} {M : Me} {u : Nat × Nat} {i : Int32}
/-- chapels -/
def op_0 (P : Me → Prop) (M : Me) : Prop := ∀ x1 : Int32, ∃ (r : Int32) (M1 : Me) (M2 : Me), f_X11_chapels 0 x1 M = some (r, M1) ∧ f_X12_chapels 70 x1 M1 = some (r, M2) ∧ P M2
theorem lc_0 {P : Me → Prop} (C : La p s m meth c K b0 L xs) (h1 : vp_in (i + 1) L) (hu : u.1 + 0 ≤ 600000 ∧ u.2 + 0 ≤ 7302250) (ho : op_0 P M)
    (kk : ∀ M2, P M2 → Lw p l e s m below meth c K b0 M2 (u.1 + 0, u.2 + 0) i 1090 []) : Lw p l e s m below meth c K b0 M u i 168 [] := by
  obtain ⟨r, M1, M2, hx, hm, hp⟩ := ho (xs (i + 1).toNatClampNeg)
  obtain ⟨hkx, hcx⟩ := ct_X11_chapels 8 (by decide) 0 (xs (i + 1).toNatClampNeg) M r M1 hx
  obtain ⟨hkm, hcm⟩ := ct_X12_chapels 8 (by decide) 70 (xs (i + 1).toNatClampNeg) M1 r M2 hm
  refine l_ax C dL_law_168 ?_
  refine l_arg C (v := 1) (by decide) h1 dL_law_169 dL_law_170 dL_law_171 dL_law_172 dL_law_173 ?_
  refine l_call (av := [.int (xs (i + 1).toNatClampNeg)]) (st := []) (u := u) C hcx dL_law_174 cc_L_13 rfl hkx (Nat.le_of_ble_eq_true rfl) hu ?_
  refine l_am C dL_law_177 ?_
  refine l_arg C (v := 1) (by decide) h1 dL_law_178 dL_law_179 dL_law_180 dL_law_181 dL_law_182 ?_
  refine l_call (av := [.int (xs (i + 1).toNatClampNeg)]) (st := [.int r]) (u := (u.1 + 0, u.2 + 0)) C hcm dL_law_183 cc_L_17 rfl hkm (Nat.le_of_ble_eq_true rfl) hu ?_
  refine l_eqI C dL_law_186 rfl ?_
  exact kk M2 hp
/-- road -/
def op_1 (P : Me → Prop) (M : Me) : Prop := ∀ x1 x2 x3 : Int32, ∃ (r : Int32) (M1 : Me) (M2 : Me), f_X11_road 0 x1 x2 x3 M = some (r, M1) ∧ f_X12_road 70 x1 x2 x3 M1 = some (r, M2) ∧ P M2
theorem lc_1 {P : Me → Prop} (C : La p s m meth c K b0 L xs) (h1 : vp_in (i + 1) L) (h2 : vp_in (i + 2) L) (h3 : vp_in (i + 3) L) (hu : u.1 + 0 ≤ 600000 ∧ u.2 + 0 ≤ 7302250) (ho : op_1 P M)
    (kk : ∀ M2, P M2 → Lw p l e s m below meth c K b0 M2 (u.1 + 0, u.2 + 0) i 1090 []) : Lw p l e s m below meth c K b0 M u i 191 [] := by
  obtain ⟨r, M1, M2, hx, hm, hp⟩ := ho (xs (i + 1).toNatClampNeg) (xs (i + 2).toNatClampNeg) (xs (i + 3).toNatClampNeg)
  obtain ⟨hkx, hcx⟩ := ct_X11_road 8 (by decide) 0 (xs (i + 1).toNatClampNeg) (xs (i + 2).toNatClampNeg) (xs (i + 3).toNatClampNeg) M r M1 hx
  obtain ⟨hkm, hcm⟩ := ct_X12_road 8 (by decide) 70 (xs (i + 1).toNatClampNeg) (xs (i + 2).toNatClampNeg) (xs (i + 3).toNatClampNeg) M1 r M2 hm
  refine l_ax C dL_law_191 ?_
  refine l_arg C (v := 1) (by decide) h1 dL_law_192 dL_law_193 dL_law_194 dL_law_195 dL_law_196 ?_
  refine l_arg C (v := 2) (by decide) h2 dL_law_197 dL_law_198 dL_law_199 dL_law_200 dL_law_201 ?_
  refine l_arg C (v := 3) (by decide) h3 dL_law_202 dL_law_203 dL_law_204 dL_law_205 dL_law_206 ?_
  refine l_call (av := [.int (xs (i + 1).toNatClampNeg), .int (xs (i + 2).toNatClampNeg), .int (xs (i + 3).toNatClampNeg)]) (st := []) (u := u) C hcx dL_law_207 cc_L_18 rfl hkx (Nat.le_of_ble_eq_true rfl) hu ?_
  refine l_am C dL_law_210 ?_
  refine l_arg C (v := 1) (by decide) h1 dL_law_211 dL_law_212 dL_law_213 dL_law_214 dL_law_215 ?_
  refine l_arg C (v := 2) (by decide) h2 dL_law_216 dL_law_217 dL_law_218 dL_law_219 dL_law_220 ?_
  refine l_arg C (v := 3) (by decide) h3 dL_law_221 dL_law_222 dL_law_223 dL_law_224 dL_law_225 ?_
  refine l_call (av := [.int (xs (i + 1).toNatClampNeg), .int (xs (i + 2).toNatClampNeg), .int (xs (i + 3).toNatClampNeg)]) (st := [.int r]) (u := (u.1 + 0, u.2 + 0)) C hcm dL_law_226 cc_L_22 rfl hkm (Nat.le_of_ble_eq_true rfl) hu ?_
  refine l_eqI C dL_law_229 rfl ?_
  exact kk M2 hp
/-- yearOf -/
def op_2 (P : Me → Prop) (M : Me) : Prop := ∀ x1 : Int32, ∃ (r : Int32) (M1 : Me) (M2 : Me), f_X11_yearOf 0 x1 M = some (r, M1) ∧ f_X12_yearOf 70 x1 M1 = some (r, M2) ∧ P M2
theorem lc_2 {P : Me → Prop} (C : La p s m meth c K b0 L xs) (h1 : vp_in (i + 1) L) (hu : u.1 + 0 ≤ 600000 ∧ u.2 + 0 ≤ 7302250) (ho : op_2 P M)
    (kk : ∀ M2, P M2 → Lw p l e s m below meth c K b0 M2 (u.1 + 0, u.2 + 0) i 1090 []) : Lw p l e s m below meth c K b0 M u i 234 [] := by
  obtain ⟨r, M1, M2, hx, hm, hp⟩ := ho (xs (i + 1).toNatClampNeg)
  obtain ⟨hkx, hcx⟩ := ct_X11_yearOf 8 (by decide) 0 (xs (i + 1).toNatClampNeg) M r M1 hx
  obtain ⟨hkm, hcm⟩ := ct_X12_yearOf 8 (by decide) 70 (xs (i + 1).toNatClampNeg) M1 r M2 hm
  refine l_ax C dL_law_234 ?_
  refine l_arg C (v := 1) (by decide) h1 dL_law_235 dL_law_236 dL_law_237 dL_law_238 dL_law_239 ?_
  refine l_call (av := [.int (xs (i + 1).toNatClampNeg)]) (st := []) (u := u) C hcx dL_law_240 cc_L_23 rfl hkx (Nat.le_of_ble_eq_true rfl) hu ?_
  refine l_am C dL_law_243 ?_
  refine l_arg C (v := 1) (by decide) h1 dL_law_244 dL_law_245 dL_law_246 dL_law_247 dL_law_248 ?_
  refine l_call (av := [.int (xs (i + 1).toNatClampNeg)]) (st := [.int r]) (u := (u.1 + 0, u.2 + 0)) C hcm dL_law_249 cc_L_26 rfl hkm (Nat.le_of_ble_eq_true rfl) hu ?_
  refine l_eqI C dL_law_252 rfl ?_
  exact kk M2 hp
/-- knight -/
def op_3 (P : Me → Prop) (M : Me) : Prop := ∀ x1 x2 x3 x4 x5 : Int32, ∃ (r : Int32) (M1 : Me) (M2 : Me), f_X11_knight 0 x1 x2 x3 x4 x5 M = some (r, M1) ∧ f_X12_knight 70 x1 x2 x3 x4 x5 M1 = some (r, M2) ∧ P M2
theorem lc_3 {P : Me → Prop} (C : La p s m meth c K b0 L xs) (h1 : vp_in (i + 1) L) (h2 : vp_in (i + 2) L) (h3 : vp_in (i + 3) L) (h4 : vp_in (i + 4) L) (h5 : vp_in (i + 5) L) (hu : u.1 + 0 ≤ 600000 ∧ u.2 + 0 ≤ 7302250) (ho : op_3 P M)
    (kk : ∀ M2, P M2 → Lw p l e s m below meth c K b0 M2 (u.1 + 0, u.2 + 0) i 1090 []) : Lw p l e s m below meth c K b0 M u i 257 [] := by
  obtain ⟨r, M1, M2, hx, hm, hp⟩ := ho (xs (i + 1).toNatClampNeg) (xs (i + 2).toNatClampNeg) (xs (i + 3).toNatClampNeg) (xs (i + 4).toNatClampNeg) (xs (i + 5).toNatClampNeg)
  obtain ⟨hkx, hcx⟩ := ct_X11_knight 8 (by decide) 0 (xs (i + 1).toNatClampNeg) (xs (i + 2).toNatClampNeg) (xs (i + 3).toNatClampNeg) (xs (i + 4).toNatClampNeg) (xs (i + 5).toNatClampNeg) M r M1 hx
  obtain ⟨hkm, hcm⟩ := ct_X12_knight 8 (by decide) 70 (xs (i + 1).toNatClampNeg) (xs (i + 2).toNatClampNeg) (xs (i + 3).toNatClampNeg) (xs (i + 4).toNatClampNeg) (xs (i + 5).toNatClampNeg) M1 r M2 hm
  refine l_ax C dL_law_257 ?_
  refine l_arg C (v := 1) (by decide) h1 dL_law_258 dL_law_259 dL_law_260 dL_law_261 dL_law_262 ?_
  refine l_arg C (v := 2) (by decide) h2 dL_law_263 dL_law_264 dL_law_265 dL_law_266 dL_law_267 ?_
  refine l_arg C (v := 3) (by decide) h3 dL_law_268 dL_law_269 dL_law_270 dL_law_271 dL_law_272 ?_
  refine l_arg C (v := 4) (by decide) h4 dL_law_273 dL_law_274 dL_law_275 dL_law_276 dL_law_277 ?_
  refine l_arg C (v := 5) (by decide) h5 dL_law_278 dL_law_279 dL_law_280 dL_law_281 dL_law_282 ?_
  refine l_call (av := [.int (xs (i + 1).toNatClampNeg), .int (xs (i + 2).toNatClampNeg), .int (xs (i + 3).toNatClampNeg), .int (xs (i + 4).toNatClampNeg), .int (xs (i + 5).toNatClampNeg)]) (st := []) (u := u) C hcx dL_law_283 cc_L_27 rfl hkx (Nat.le_of_ble_eq_true rfl) hu ?_
  refine l_am C dL_law_286 ?_
  refine l_arg C (v := 1) (by decide) h1 dL_law_287 dL_law_288 dL_law_289 dL_law_290 dL_law_291 ?_
  refine l_arg C (v := 2) (by decide) h2 dL_law_292 dL_law_293 dL_law_294 dL_law_295 dL_law_296 ?_
  refine l_arg C (v := 3) (by decide) h3 dL_law_297 dL_law_298 dL_law_299 dL_law_300 dL_law_301 ?_
  refine l_arg C (v := 4) (by decide) h4 dL_law_302 dL_law_303 dL_law_304 dL_law_305 dL_law_306 ?_
  refine l_arg C (v := 5) (by decide) h5 dL_law_307 dL_law_308 dL_law_309 dL_law_310 dL_law_311 ?_
  refine l_call (av := [.int (xs (i + 1).toNatClampNeg), .int (xs (i + 2).toNatClampNeg), .int (xs (i + 3).toNatClampNeg), .int (xs (i + 4).toNatClampNeg), .int (xs (i + 5).toNatClampNeg)]) (st := [.int r]) (u := (u.1 + 0, u.2 + 0)) C hcm dL_law_312 cc_L_31 rfl hkm (Nat.le_of_ble_eq_true rfl) hu ?_
  refine l_eqI C dL_law_315 rfl ?_
  exact kk M2 hp
/-- heir -/
def op_4 (P : Me → Prop) (M : Me) : Prop := ∀ x1 x2 : Int32, ∃ (r : Int32) (M1 : Me) (M2 : Me), f_X11_heir 0 x1 x2 M = some (r, M1) ∧ f_X12_heir 70 x1 x2 M1 = some (r, M2) ∧ P M2
theorem lc_4 {P : Me → Prop} (C : La p s m meth c K b0 L xs) (h1 : vp_in (i + 1) L) (h2 : vp_in (i + 2) L) (hu : u.1 + 0 ≤ 600000 ∧ u.2 + 0 ≤ 7302250) (ho : op_4 P M)
    (kk : ∀ M2, P M2 → Lw p l e s m below meth c K b0 M2 (u.1 + 0, u.2 + 0) i 1090 []) : Lw p l e s m below meth c K b0 M u i 320 [] := by
  obtain ⟨r, M1, M2, hx, hm, hp⟩ := ho (xs (i + 1).toNatClampNeg) (xs (i + 2).toNatClampNeg)
  obtain ⟨hkx, hcx⟩ := ct_X11_heir 8 (by decide) 0 (xs (i + 1).toNatClampNeg) (xs (i + 2).toNatClampNeg) M r M1 hx
  obtain ⟨hkm, hcm⟩ := ct_X12_heir 8 (by decide) 70 (xs (i + 1).toNatClampNeg) (xs (i + 2).toNatClampNeg) M1 r M2 hm
  refine l_ax C dL_law_320 ?_
  refine l_arg C (v := 1) (by decide) h1 dL_law_321 dL_law_322 dL_law_323 dL_law_324 dL_law_325 ?_
  refine l_arg C (v := 2) (by decide) h2 dL_law_326 dL_law_327 dL_law_328 dL_law_329 dL_law_330 ?_
  refine l_call (av := [.int (xs (i + 1).toNatClampNeg), .int (xs (i + 2).toNatClampNeg)]) (st := []) (u := u) C hcx dL_law_331 cc_L_32 rfl hkx (Nat.le_of_ble_eq_true rfl) hu ?_
  refine l_am C dL_law_334 ?_
  refine l_arg C (v := 1) (by decide) h1 dL_law_335 dL_law_336 dL_law_337 dL_law_338 dL_law_339 ?_
  refine l_arg C (v := 2) (by decide) h2 dL_law_340 dL_law_341 dL_law_342 dL_law_343 dL_law_344 ?_
  refine l_call (av := [.int (xs (i + 1).toNatClampNeg), .int (xs (i + 2).toNatClampNeg)]) (st := [.int r]) (u := (u.1 + 0, u.2 + 0)) C hcm dL_law_345 cc_L_36 rfl hkm (Nat.le_of_ble_eq_true rfl) hu ?_
  refine l_eqI C dL_law_348 rfl ?_
  exact kk M2 hp
/-- say -/
def op_5 (P : Me → Prop) (M : Me) : Prop := ∀ x1 : Int32, ∃ (r : Int32) (M1 : Me) (M2 : Me), f_X11_say 0 x1 M = some (r, M1) ∧ f_X12_say 70 x1 M1 = some (r, M2) ∧ P M2
theorem lc_5 {P : Me → Prop} (C : La p s m meth c K b0 L xs) (h1 : vp_in (i + 1) L) (hu : u.1 + 0 ≤ 600000 ∧ u.2 + 0 ≤ 7302250) (ho : op_5 P M)
    (kk : ∀ M2, P M2 → Lw p l e s m below meth c K b0 M2 (u.1 + 0, u.2 + 0) i 1090 []) : Lw p l e s m below meth c K b0 M u i 353 [] := by
  obtain ⟨r, M1, M2, hx, hm, hp⟩ := ho (xs (i + 1).toNatClampNeg)
  obtain ⟨hkx, hcx⟩ := ct_X11_say 8 (by decide) 0 (xs (i + 1).toNatClampNeg) M r M1 hx
  obtain ⟨hkm, hcm⟩ := ct_X12_say 8 (by decide) 70 (xs (i + 1).toNatClampNeg) M1 r M2 hm
  refine l_ax C dL_law_353 ?_
  refine l_arg C (v := 1) (by decide) h1 dL_law_354 dL_law_355 dL_law_356 dL_law_357 dL_law_358 ?_
  refine l_call (av := [.int (xs (i + 1).toNatClampNeg)]) (st := []) (u := u) C hcx dL_law_359 cc_L_37 rfl hkx (Nat.le_of_ble_eq_true rfl) hu ?_
  refine l_am C dL_law_362 ?_
  refine l_arg C (v := 1) (by decide) h1 dL_law_363 dL_law_364 dL_law_365 dL_law_366 dL_law_367 ?_
  refine l_call (av := [.int (xs (i + 1).toNatClampNeg)]) (st := [.int r]) (u := (u.1 + 0, u.2 + 0)) C hcm dL_law_368 cc_L_40 rfl hkm (Nat.le_of_ble_eq_true rfl) hu ?_
  refine l_eqI C dL_law_371 rfl ?_
  exact kk M2 hp
/-- wipe -/
def op_6 (P : Me → Prop) (M : Me) : Prop := ∃ (r : Int32) (M1 : Me) (M2 : Me), f_X11_wipe 0 M = some (r, M1) ∧ f_X12_wipe 70 M1 = some (r, M2) ∧ P M2
theorem lc_6 {P : Me → Prop} (C : La p s m meth c K b0 L xs)  (hu : u.1 + 0 ≤ 600000 ∧ u.2 + 0 ≤ 7302250) (ho : op_6 P M)
    (kk : ∀ M2, P M2 → Lw p l e s m below meth c K b0 M2 (u.1 + 0, u.2 + 0) i 1090 []) : Lw p l e s m below meth c K b0 M u i 376 [] := by
  obtain ⟨r, M1, M2, hx, hm, hp⟩ := ho
  obtain ⟨hkx, hcx⟩ := ct_X11_wipe 8 (by decide) 0  M r M1 hx
  obtain ⟨hkm, hcm⟩ := ct_X12_wipe 8 (by decide) 70  M1 r M2 hm
  refine l_ax C dL_law_376 ?_
  refine l_call (av := []) (st := []) (u := u) C hcx dL_law_377 cc_L_41 rfl hkx (Nat.le_of_ble_eq_true rfl) hu ?_
  refine l_am C dL_law_380 ?_
  refine l_call (av := []) (st := [.int r]) (u := (u.1 + 0, u.2 + 0)) C hcm dL_law_381 cc_L_45 rfl hkm (Nat.le_of_ble_eq_true rfl) hu ?_
  refine l_eqI C dL_law_384 rfl ?_
  exact kk M2 hp
/-- fault -/
def op_7 (P : Me → Prop) (M : Me) : Prop := ∃ (r : Int32), f_X11_fault 0 M = some r ∧ f_X12_fault 70 M = some r ∧ P M
theorem lc_7 {P : Me → Prop} (C : La p s m meth c K b0 L xs)  (hu : u.1 + 0 ≤ 600000 ∧ u.2 + 0 ≤ 7302250) (ho : op_7 P M)
    (kk : ∀ M2, P M2 → Lw p l e s m below meth c K b0 M2 (u.1 + 0, u.2 + 0) i 1090 []) : Lw p l e s m below meth c K b0 M u i 389 [] := by
  obtain ⟨r, hx, hm, hp⟩ := ho
  obtain ⟨hkx, hcx⟩ := ct_X11_fault 8 (by decide) 0  M r hx
  obtain ⟨hkm, hcm⟩ := ct_X12_fault 8 (by decide) 70  M r hm
  refine l_ax C dL_law_389 ?_
  refine l_call (av := []) (st := []) (u := u) C hcx dL_law_390 cc_L_46 rfl hkx (Nat.le_of_ble_eq_true rfl) hu ?_
  refine l_am C dL_law_393 ?_
  refine l_call (av := []) (st := [.int r]) (u := (u.1 + 0, u.2 + 0)) C hcm dL_law_394 cc_L_49 rfl hkm (Nat.le_of_ble_eq_true rfl) hu ?_
  refine l_eqI C dL_law_397 rfl ?_
  exact kk M hp
/-- judge -/
def op_8 (P : Me → Prop) (M : Me) : Prop := ∀ x1 : Int32, ∃ (r : Int32) (M1 : Me) (M2 : Me), f_X11_judge 0 x1 M = some (r, M1) ∧ f_X12_judge 70 x1 M1 = some (r, M2) ∧ P M2
theorem lc_8 {P : Me → Prop} (C : La p s m meth c K b0 L xs) (h1 : vp_in (i + 1) L) (hu : u.1 + 0 ≤ 600000 ∧ u.2 + 0 ≤ 7302250) (ho : op_8 P M)
    (kk : ∀ M2, P M2 → Lw p l e s m below meth c K b0 M2 (u.1 + 0, u.2 + 0) i 1090 []) : Lw p l e s m below meth c K b0 M u i 402 [] := by
  obtain ⟨r, M1, M2, hx, hm, hp⟩ := ho (xs (i + 1).toNatClampNeg)
  obtain ⟨hkx, hcx⟩ := ct_X11_judge 8 (by decide) 0 (xs (i + 1).toNatClampNeg) M r M1 hx
  obtain ⟨hkm, hcm⟩ := ct_X12_judge 8 (by decide) 70 (xs (i + 1).toNatClampNeg) M1 r M2 hm
  refine l_ax C dL_law_402 ?_
  refine l_arg C (v := 1) (by decide) h1 dL_law_403 dL_law_404 dL_law_405 dL_law_406 dL_law_407 ?_
  refine l_call (av := [.int (xs (i + 1).toNatClampNeg)]) (st := []) (u := u) C hcx dL_law_408 cc_L_50 rfl hkx (Nat.le_of_ble_eq_true rfl) hu ?_
  refine l_am C dL_law_411 ?_
  refine l_arg C (v := 1) (by decide) h1 dL_law_412 dL_law_413 dL_law_414 dL_law_415 dL_law_416 ?_
  refine l_call (av := [.int (xs (i + 1).toNatClampNeg)]) (st := [.int r]) (u := (u.1 + 0, u.2 + 0)) C hcm dL_law_417 cc_L_53 rfl hkm (Nat.le_of_ble_eq_true rfl) hu ?_
  refine l_eqI C dL_law_420 rfl ?_
  exact kk M2 hp
/-- done -/
def op_9 (P : Me → Prop) (M : Me) : Prop := ∃ (r : Int32) (M1 : Me) (M2 : Me), f_X11_done 0 M = some (r, M1) ∧ f_X12_done 70 M1 = some (r, M2) ∧ P M2
theorem lc_9 {P : Me → Prop} (C : La p s m meth c K b0 L xs)  (hu : u.1 + 0 ≤ 600000 ∧ u.2 + 0 ≤ 7302250) (ho : op_9 P M)
    (kk : ∀ M2, P M2 → Lw p l e s m below meth c K b0 M2 (u.1 + 0, u.2 + 0) i 1090 []) : Lw p l e s m below meth c K b0 M u i 425 [] := by
  obtain ⟨r, M1, M2, hx, hm, hp⟩ := ho
  obtain ⟨hkx, hcx⟩ := ct_X11_done 8 (by decide) 0  M r M1 hx
  obtain ⟨hkm, hcm⟩ := ct_X12_done 8 (by decide) 70  M1 r M2 hm
  refine l_ax C dL_law_425 ?_
  refine l_call (av := []) (st := []) (u := u) C hcx dL_law_426 cc_L_54 rfl hkx (Nat.le_of_ble_eq_true rfl) hu ?_
  refine l_am C dL_law_429 ?_
  refine l_call (av := []) (st := [.int r]) (u := (u.1 + 0, u.2 + 0)) C hcm dL_law_430 cc_L_57 rfl hkm (Nat.le_of_ble_eq_true rfl) hu ?_
  refine l_eqI C dL_law_433 rfl ?_
  exact kk M2 hp
/-- state -/
def op_10 (P : Me → Prop) (M : Me) : Prop := ∀ x1 x2 : Int32, ∃ (r : Int32) (M2 : Me), f_X11_state 0 x1 x2 M = some r ∧ f_X12_state 70 x1 x2 M = some (r, M2) ∧ P M2
theorem lc_10 {P : Me → Prop} (C : La p s m meth c K b0 L xs) (h1 : vp_in (i + 1) L) (h2 : vp_in (i + 2) L) (hu : u.1 + 0 ≤ 600000 ∧ u.2 + 0 ≤ 7302250) (ho : op_10 P M)
    (kk : ∀ M2, P M2 → Lw p l e s m below meth c K b0 M2 (u.1 + 0, u.2 + 0) i 1090 []) : Lw p l e s m below meth c K b0 M u i 438 [] := by
  obtain ⟨r, M2, hx, hm, hp⟩ := ho (xs (i + 1).toNatClampNeg) (xs (i + 2).toNatClampNeg)
  obtain ⟨hkx, hcx⟩ := ct_X11_state 8 (by decide) 0 (xs (i + 1).toNatClampNeg) (xs (i + 2).toNatClampNeg) M r hx
  obtain ⟨hkm, hcm⟩ := ct_X12_state 8 (by decide) 70 (xs (i + 1).toNatClampNeg) (xs (i + 2).toNatClampNeg) M r M2 hm
  refine l_ax C dL_law_438 ?_
  refine l_arg C (v := 1) (by decide) h1 dL_law_439 dL_law_440 dL_law_441 dL_law_442 dL_law_443 ?_
  refine l_arg C (v := 2) (by decide) h2 dL_law_444 dL_law_445 dL_law_446 dL_law_447 dL_law_448 ?_
  refine l_call (av := [.int (xs (i + 1).toNatClampNeg), .int (xs (i + 2).toNatClampNeg)]) (st := []) (u := u) C hcx dL_law_449 cc_L_58 rfl hkx (Nat.le_of_ble_eq_true rfl) hu ?_
  refine l_am C dL_law_452 ?_
  refine l_arg C (v := 1) (by decide) h1 dL_law_453 dL_law_454 dL_law_455 dL_law_456 dL_law_457 ?_
  refine l_arg C (v := 2) (by decide) h2 dL_law_458 dL_law_459 dL_law_460 dL_law_461 dL_law_462 ?_
  refine l_call (av := [.int (xs (i + 1).toNatClampNeg), .int (xs (i + 2).toNatClampNeg)]) (st := [.int r]) (u := (u.1 + 0, u.2 + 0)) C hcm dL_law_463 cc_L_61 rfl hkm (Nat.le_of_ble_eq_true rfl) hu ?_
  refine l_eqI C dL_law_466 rfl ?_
  exact kk M2 hp
/-- behind -/
def op_11 (P : Me → Prop) (M : Me) : Prop := ∀ x1 x2 : Int32, ∃ (r : Int32) (M1 : Me) (M2 : Me), f_X11_behind 0 x1 x2 M = some (r, M1) ∧ f_X12_behind 70 x1 x2 M1 = some (r, M2) ∧ P M2
theorem lc_11 {P : Me → Prop} (C : La p s m meth c K b0 L xs) (h1 : vp_in (i + 1) L) (h2 : vp_in (i + 2) L) (hu : u.1 + 0 ≤ 600000 ∧ u.2 + 0 ≤ 7302250) (ho : op_11 P M)
    (kk : ∀ M2, P M2 → Lw p l e s m below meth c K b0 M2 (u.1 + 0, u.2 + 0) i 1090 []) : Lw p l e s m below meth c K b0 M u i 471 [] := by
  obtain ⟨r, M1, M2, hx, hm, hp⟩ := ho (xs (i + 1).toNatClampNeg) (xs (i + 2).toNatClampNeg)
  obtain ⟨hkx, hcx⟩ := ct_X11_behind 8 (by decide) 0 (xs (i + 1).toNatClampNeg) (xs (i + 2).toNatClampNeg) M r M1 hx
  obtain ⟨hkm, hcm⟩ := ct_X12_behind 8 (by decide) 70 (xs (i + 1).toNatClampNeg) (xs (i + 2).toNatClampNeg) M1 r M2 hm
  refine l_ax C dL_law_471 ?_
  refine l_arg C (v := 1) (by decide) h1 dL_law_472 dL_law_473 dL_law_474 dL_law_475 dL_law_476 ?_
  refine l_arg C (v := 2) (by decide) h2 dL_law_477 dL_law_478 dL_law_479 dL_law_480 dL_law_481 ?_
  refine l_call (av := [.int (xs (i + 1).toNatClampNeg), .int (xs (i + 2).toNatClampNeg)]) (st := []) (u := u) C hcx dL_law_482 cc_L_62 rfl hkx (Nat.le_of_ble_eq_true rfl) hu ?_
  refine l_am C dL_law_485 ?_
  refine l_arg C (v := 1) (by decide) h1 dL_law_486 dL_law_487 dL_law_488 dL_law_489 dL_law_490 ?_
  refine l_arg C (v := 2) (by decide) h2 dL_law_491 dL_law_492 dL_law_493 dL_law_494 dL_law_495 ?_
  refine l_call (av := [.int (xs (i + 1).toNatClampNeg), .int (xs (i + 2).toNatClampNeg)]) (st := [.int r]) (u := (u.1 + 0, u.2 + 0)) C hcm dL_law_496 cc_L_65 rfl hkm (Nat.le_of_ble_eq_true rfl) hu ?_
  refine l_eqI C dL_law_499 rfl ?_
  exact kk M2 hp
/-- debt -/
def op_12 (P : Me → Prop) (M : Me) : Prop := ∀ x1 x2 : Int32, ∃ (r : Int32), f_X11_debt 0 x1 x2 M = some r ∧ f_X12_debt 70 x1 x2 M = some r ∧ P M
theorem lc_12 {P : Me → Prop} (C : La p s m meth c K b0 L xs) (h1 : vp_in (i + 1) L) (h2 : vp_in (i + 2) L) (hu : u.1 + 0 ≤ 600000 ∧ u.2 + 0 ≤ 7302250) (ho : op_12 P M)
    (kk : ∀ M2, P M2 → Lw p l e s m below meth c K b0 M2 (u.1 + 0, u.2 + 0) i 1090 []) : Lw p l e s m below meth c K b0 M u i 504 [] := by
  obtain ⟨r, hx, hm, hp⟩ := ho (xs (i + 1).toNatClampNeg) (xs (i + 2).toNatClampNeg)
  obtain ⟨hkx, hcx⟩ := ct_X11_debt 8 (by decide) 0 (xs (i + 1).toNatClampNeg) (xs (i + 2).toNatClampNeg) M r hx
  obtain ⟨hkm, hcm⟩ := ct_X12_debt 8 (by decide) 70 (xs (i + 1).toNatClampNeg) (xs (i + 2).toNatClampNeg) M r hm
  refine l_ax C dL_law_504 ?_
  refine l_arg C (v := 1) (by decide) h1 dL_law_505 dL_law_506 dL_law_507 dL_law_508 dL_law_509 ?_
  refine l_arg C (v := 2) (by decide) h2 dL_law_510 dL_law_511 dL_law_512 dL_law_513 dL_law_514 ?_
  refine l_call (av := [.int (xs (i + 1).toNatClampNeg), .int (xs (i + 2).toNatClampNeg)]) (st := []) (u := u) C hcx dL_law_515 cc_L_66 rfl hkx (Nat.le_of_ble_eq_true rfl) hu ?_
  refine l_am C dL_law_518 ?_
  refine l_arg C (v := 1) (by decide) h1 dL_law_519 dL_law_520 dL_law_521 dL_law_522 dL_law_523 ?_
  refine l_arg C (v := 2) (by decide) h2 dL_law_524 dL_law_525 dL_law_526 dL_law_527 dL_law_528 ?_
  refine l_call (av := [.int (xs (i + 1).toNatClampNeg), .int (xs (i + 2).toNatClampNeg)]) (st := [.int r]) (u := (u.1 + 0, u.2 + 0)) C hcm dL_law_529 cc_L_69 rfl hkm (Nat.le_of_ble_eq_true rfl) hu ?_
  refine l_eqI C dL_law_532 rfl ?_
  exact kk M hp
/-- when -/
def op_13 (P : Me → Prop) (M : Me) : Prop := ∀ x1 x2 : Int32, ∃ (r : Int32) (M1 : Me) (M2 : Me), f_X11_when 0 x1 x2 M = some (r, M1) ∧ f_X12_when 70 x1 x2 M1 = some (r, M2) ∧ P M2
theorem lc_13 {P : Me → Prop} (C : La p s m meth c K b0 L xs) (h1 : vp_in (i + 1) L) (h2 : vp_in (i + 2) L) (hu : u.1 + 0 ≤ 600000 ∧ u.2 + 0 ≤ 7302250) (ho : op_13 P M)
    (kk : ∀ M2, P M2 → Lw p l e s m below meth c K b0 M2 (u.1 + 0, u.2 + 0) i 1090 []) : Lw p l e s m below meth c K b0 M u i 537 [] := by
  obtain ⟨r, M1, M2, hx, hm, hp⟩ := ho (xs (i + 1).toNatClampNeg) (xs (i + 2).toNatClampNeg)
  obtain ⟨hkx, hcx⟩ := ct_X11_when 8 (by decide) 0 (xs (i + 1).toNatClampNeg) (xs (i + 2).toNatClampNeg) M r M1 hx
  obtain ⟨hkm, hcm⟩ := ct_X12_when 8 (by decide) 70 (xs (i + 1).toNatClampNeg) (xs (i + 2).toNatClampNeg) M1 r M2 hm
  refine l_ax C dL_law_537 ?_
  refine l_arg C (v := 1) (by decide) h1 dL_law_538 dL_law_539 dL_law_540 dL_law_541 dL_law_542 ?_
  refine l_arg C (v := 2) (by decide) h2 dL_law_543 dL_law_544 dL_law_545 dL_law_546 dL_law_547 ?_
  refine l_call (av := [.int (xs (i + 1).toNatClampNeg), .int (xs (i + 2).toNatClampNeg)]) (st := []) (u := u) C hcx dL_law_548 cc_L_70 rfl hkx (Nat.le_of_ble_eq_true rfl) hu ?_
  refine l_am C dL_law_551 ?_
  refine l_arg C (v := 1) (by decide) h1 dL_law_552 dL_law_553 dL_law_554 dL_law_555 dL_law_556 ?_
  refine l_arg C (v := 2) (by decide) h2 dL_law_557 dL_law_558 dL_law_559 dL_law_560 dL_law_561 ?_
  refine l_call (av := [.int (xs (i + 1).toNatClampNeg), .int (xs (i + 2).toNatClampNeg)]) (st := [.int r]) (u := (u.1 + 0, u.2 + 0)) C hcm dL_law_562 cc_L_73 rfl hkm (Nat.le_of_ble_eq_true rfl) hu ?_
  refine l_eqI C dL_law_565 rfl ?_
  exact kk M2 hp
/-- inTime -/
def op_14 (P : Me → Prop) (M : Me) : Prop := ∀ x1 : Int32, ∃ (r : Int32) (M1 : Me) (M2 : Me), f_X11_inTime 0 x1 M = some (r, M1) ∧ f_X12_inTime 70 x1 M1 = some (r, M2) ∧ P M2
theorem lc_14 {P : Me → Prop} (C : La p s m meth c K b0 L xs) (h1 : vp_in (i + 1) L) (hu : u.1 + 0 ≤ 600000 ∧ u.2 + 0 ≤ 7302250) (ho : op_14 P M)
    (kk : ∀ M2, P M2 → Lw p l e s m below meth c K b0 M2 (u.1 + 0, u.2 + 0) i 1090 []) : Lw p l e s m below meth c K b0 M u i 570 [] := by
  obtain ⟨r, M1, M2, hx, hm, hp⟩ := ho (xs (i + 1).toNatClampNeg)
  obtain ⟨hkx, hcx⟩ := ct_X11_inTime 8 (by decide) 0 (xs (i + 1).toNatClampNeg) M r M1 hx
  obtain ⟨hkm, hcm⟩ := ct_X12_inTime 8 (by decide) 70 (xs (i + 1).toNatClampNeg) M1 r M2 hm
  refine l_ax C dL_law_570 ?_
  refine l_arg C (v := 1) (by decide) h1 dL_law_571 dL_law_572 dL_law_573 dL_law_574 dL_law_575 ?_
  refine l_call (av := [.int (xs (i + 1).toNatClampNeg)]) (st := []) (u := u) C hcx dL_law_576 cc_L_74 rfl hkx (Nat.le_of_ble_eq_true rfl) hu ?_
  refine l_am C dL_law_579 ?_
  refine l_arg C (v := 1) (by decide) h1 dL_law_580 dL_law_581 dL_law_582 dL_law_583 dL_law_584 ?_
  refine l_call (av := [.int (xs (i + 1).toNatClampNeg)]) (st := [.int r]) (u := (u.1 + 0, u.2 + 0)) C hcm dL_law_585 cc_L_77 rfl hkm (Nat.le_of_ble_eq_true rfl) hu ?_
  refine l_eqI C dL_law_588 rfl ?_
  exact kk M2 hp
/-- round -/
def op_15 (P : Me → Prop) (M : Me) : Prop := ∀ x1 x2 : Int32, ∃ (r : Int32) (M1 : Me) (M2 : Me), f_X11_round 0 x1 x2 M = some (r, M1) ∧ f_X12_round 70 x1 x2 M1 = some (r, M2) ∧ P M2
theorem lc_15 {P : Me → Prop} (C : La p s m meth c K b0 L xs) (h1 : vp_in (i + 1) L) (h2 : vp_in (i + 2) L) (hu : u.1 + 0 ≤ 600000 ∧ u.2 + 0 ≤ 7302250) (ho : op_15 P M)
    (kk : ∀ M2, P M2 → Lw p l e s m below meth c K b0 M2 (u.1 + 0, u.2 + 0) i 1090 []) : Lw p l e s m below meth c K b0 M u i 593 [] := by
  obtain ⟨r, M1, M2, hx, hm, hp⟩ := ho (xs (i + 1).toNatClampNeg) (xs (i + 2).toNatClampNeg)
  obtain ⟨hkx, hcx⟩ := ct_X11_round 8 (by decide) 0 (xs (i + 1).toNatClampNeg) (xs (i + 2).toNatClampNeg) M r M1 hx
  obtain ⟨hkm, hcm⟩ := ct_X12_round 8 (by decide) 70 (xs (i + 1).toNatClampNeg) (xs (i + 2).toNatClampNeg) M1 r M2 hm
  refine l_ax C dL_law_593 ?_
  refine l_arg C (v := 1) (by decide) h1 dL_law_594 dL_law_595 dL_law_596 dL_law_597 dL_law_598 ?_
  refine l_arg C (v := 2) (by decide) h2 dL_law_599 dL_law_600 dL_law_601 dL_law_602 dL_law_603 ?_
  refine l_call (av := [.int (xs (i + 1).toNatClampNeg), .int (xs (i + 2).toNatClampNeg)]) (st := []) (u := u) C hcx dL_law_604 cc_L_78 rfl hkx (Nat.le_of_ble_eq_true rfl) hu ?_
  refine l_am C dL_law_607 ?_
  refine l_arg C (v := 1) (by decide) h1 dL_law_608 dL_law_609 dL_law_610 dL_law_611 dL_law_612 ?_
  refine l_arg C (v := 2) (by decide) h2 dL_law_613 dL_law_614 dL_law_615 dL_law_616 dL_law_617 ?_
  refine l_call (av := [.int (xs (i + 1).toNatClampNeg), .int (xs (i + 2).toNatClampNeg)]) (st := [.int r]) (u := (u.1 + 0, u.2 + 0)) C hcm dL_law_618 cc_L_81 rfl hkm (Nat.le_of_ble_eq_true rfl) hu ?_
  refine l_eqI C dL_law_621 rfl ?_
  exact kk M2 hp
/-- hard -/
def op_16 (P : Me → Prop) (M : Me) : Prop := ∀ x1 x2 x3 x4 x5 : Int32, ∃ (r : Int32), f_X11_hard 0 x1 x2 x3 x4 x5 M = some r ∧ f_X12_hard 70 x1 x2 x3 x4 x5 M = some r ∧ P M
theorem lc_16 {P : Me → Prop} (C : La p s m meth c K b0 L xs) (h1 : vp_in (i + 1) L) (h2 : vp_in (i + 2) L) (h3 : vp_in (i + 3) L) (h4 : vp_in (i + 4) L) (h5 : vp_in (i + 5) L) (hu : u.1 + 0 ≤ 600000 ∧ u.2 + 0 ≤ 7302250) (ho : op_16 P M)
    (kk : ∀ M2, P M2 → Lw p l e s m below meth c K b0 M2 (u.1 + 0, u.2 + 0) i 1090 []) : Lw p l e s m below meth c K b0 M u i 626 [] := by
  obtain ⟨r, hx, hm, hp⟩ := ho (xs (i + 1).toNatClampNeg) (xs (i + 2).toNatClampNeg) (xs (i + 3).toNatClampNeg) (xs (i + 4).toNatClampNeg) (xs (i + 5).toNatClampNeg)
  obtain ⟨hkx, hcx⟩ := ct_X11_hard 8 (by decide) 0 (xs (i + 1).toNatClampNeg) (xs (i + 2).toNatClampNeg) (xs (i + 3).toNatClampNeg) (xs (i + 4).toNatClampNeg) (xs (i + 5).toNatClampNeg) M r hx
  obtain ⟨hkm, hcm⟩ := ct_X12_hard 8 (by decide) 70 (xs (i + 1).toNatClampNeg) (xs (i + 2).toNatClampNeg) (xs (i + 3).toNatClampNeg) (xs (i + 4).toNatClampNeg) (xs (i + 5).toNatClampNeg) M r hm
  refine l_ax C dL_law_626 ?_
  refine l_arg C (v := 1) (by decide) h1 dL_law_627 dL_law_628 dL_law_629 dL_law_630 dL_law_631 ?_
  refine l_arg C (v := 2) (by decide) h2 dL_law_632 dL_law_633 dL_law_634 dL_law_635 dL_law_636 ?_
  refine l_arg C (v := 3) (by decide) h3 dL_law_637 dL_law_638 dL_law_639 dL_law_640 dL_law_641 ?_
  refine l_arg C (v := 4) (by decide) h4 dL_law_642 dL_law_643 dL_law_644 dL_law_645 dL_law_646 ?_
  refine l_arg C (v := 5) (by decide) h5 dL_law_647 dL_law_648 dL_law_649 dL_law_650 dL_law_651 ?_
  refine l_call (av := [.int (xs (i + 1).toNatClampNeg), .int (xs (i + 2).toNatClampNeg), .int (xs (i + 3).toNatClampNeg), .int (xs (i + 4).toNatClampNeg), .int (xs (i + 5).toNatClampNeg)]) (st := []) (u := u) C hcx dL_law_652 cc_L_82 rfl hkx (Nat.le_of_ble_eq_true rfl) hu ?_
  refine l_am C dL_law_655 ?_
  refine l_arg C (v := 1) (by decide) h1 dL_law_656 dL_law_657 dL_law_658 dL_law_659 dL_law_660 ?_
  refine l_arg C (v := 2) (by decide) h2 dL_law_661 dL_law_662 dL_law_663 dL_law_664 dL_law_665 ?_
  refine l_arg C (v := 3) (by decide) h3 dL_law_666 dL_law_667 dL_law_668 dL_law_669 dL_law_670 ?_
  refine l_arg C (v := 4) (by decide) h4 dL_law_671 dL_law_672 dL_law_673 dL_law_674 dL_law_675 ?_
  refine l_arg C (v := 5) (by decide) h5 dL_law_676 dL_law_677 dL_law_678 dL_law_679 dL_law_680 ?_
  refine l_call (av := [.int (xs (i + 1).toNatClampNeg), .int (xs (i + 2).toNatClampNeg), .int (xs (i + 3).toNatClampNeg), .int (xs (i + 4).toNatClampNeg), .int (xs (i + 5).toNatClampNeg)]) (st := [.int r]) (u := (u.1 + 0, u.2 + 0)) C hcm dL_law_681 cc_L_85 rfl hkm (Nat.le_of_ble_eq_true rfl) hu ?_
  refine l_eqI C dL_law_684 rfl ?_
  exact kk M hp
/-- settled -/
def op_17 (P : Me → Prop) (M : Me) : Prop := ∃ (r : Int32) (M1 : Me) (M2 : Me), f_X11_settled 0 M = some (r, M1) ∧ f_X12_settled 70 M1 = some (r, M2) ∧ P M2
theorem lc_17 {P : Me → Prop} (C : La p s m meth c K b0 L xs)  (hu : u.1 + 0 ≤ 600000 ∧ u.2 + 0 ≤ 7302250) (ho : op_17 P M)
    (kk : ∀ M2, P M2 → Lw p l e s m below meth c K b0 M2 (u.1 + 0, u.2 + 0) i 1090 []) : Lw p l e s m below meth c K b0 M u i 689 [] := by
  obtain ⟨r, M1, M2, hx, hm, hp⟩ := ho
  obtain ⟨hkx, hcx⟩ := ct_X11_settled 8 (by decide) 0  M r M1 hx
  obtain ⟨hkm, hcm⟩ := ct_X12_settled 8 (by decide) 70  M1 r M2 hm
  refine l_ax C dL_law_689 ?_
  refine l_call (av := []) (st := []) (u := u) C hcx dL_law_690 cc_L_86 rfl hkx (Nat.le_of_ble_eq_true rfl) hu ?_
  refine l_am C dL_law_693 ?_
  refine l_call (av := []) (st := [.int r]) (u := (u.1 + 0, u.2 + 0)) C hcm dL_law_694 cc_L_89 rfl hkm (Nat.le_of_ble_eq_true rfl) hu ?_
  refine l_eqI C dL_law_697 rfl ?_
  exact kk M2 hp
/-- ring -/
def op_18 (P : Me → Prop) (M : Me) : Prop := ∃ (r : Int32) (M1 : Me), f_X11_ring 0 M = some (r, M1) ∧ f_X12_ring 70 M1 = some r ∧ P M1
theorem lc_18 {P : Me → Prop} (C : La p s m meth c K b0 L xs)  (hu : u.1 + 0 ≤ 600000 ∧ u.2 + 0 ≤ 7302250) (ho : op_18 P M)
    (kk : ∀ M2, P M2 → Lw p l e s m below meth c K b0 M2 (u.1 + 0, u.2 + 0) i 1090 []) : Lw p l e s m below meth c K b0 M u i 702 [] := by
  obtain ⟨r, M1, hx, hm, hp⟩ := ho
  obtain ⟨hkx, hcx⟩ := ct_X11_ring 8 (by decide) 0  M r M1 hx
  obtain ⟨hkm, hcm⟩ := ct_X12_ring 8 (by decide) 70  M1 r hm
  refine l_ax C dL_law_702 ?_
  refine l_call (av := []) (st := []) (u := u) C hcx dL_law_703 cc_L_90 rfl hkx (Nat.le_of_ble_eq_true rfl) hu ?_
  refine l_am C dL_law_706 ?_
  refine l_call (av := []) (st := [.int r]) (u := (u.1 + 0, u.2 + 0)) C hcm dL_law_707 cc_L_93 rfl hkm (Nat.le_of_ble_eq_true rfl) hu ?_
  refine l_eqI C dL_law_710 rfl ?_
  exact kk M1 hp
/-- reckoned -/
def op_19 (P : Me → Prop) (M : Me) : Prop := ∀ x1 x2 x3 : Int32, ∃ (r : Int32), f_X11_reckoned 0 x1 x2 x3 M = some r ∧ f_X12_reckoned 70 x1 x2 x3 M = some r ∧ P M
theorem lc_19 {P : Me → Prop} (C : La p s m meth c K b0 L xs) (h1 : vp_in (i + 1) L) (h2 : vp_in (i + 2) L) (h3 : vp_in (i + 3) L) (hu : u.1 + 0 ≤ 600000 ∧ u.2 + 0 ≤ 7302250) (ho : op_19 P M)
    (kk : ∀ M2, P M2 → Lw p l e s m below meth c K b0 M2 (u.1 + 0, u.2 + 0) i 1090 []) : Lw p l e s m below meth c K b0 M u i 715 [] := by
  obtain ⟨r, hx, hm, hp⟩ := ho (xs (i + 1).toNatClampNeg) (xs (i + 2).toNatClampNeg) (xs (i + 3).toNatClampNeg)
  obtain ⟨hkx, hcx⟩ := ct_X11_reckoned 8 (by decide) 0 (xs (i + 1).toNatClampNeg) (xs (i + 2).toNatClampNeg) (xs (i + 3).toNatClampNeg) M r hx
  obtain ⟨hkm, hcm⟩ := ct_X12_reckoned 8 (by decide) 70 (xs (i + 1).toNatClampNeg) (xs (i + 2).toNatClampNeg) (xs (i + 3).toNatClampNeg) M r hm
  refine l_ax C dL_law_715 ?_
  refine l_arg C (v := 1) (by decide) h1 dL_law_716 dL_law_717 dL_law_718 dL_law_719 dL_law_720 ?_
  refine l_arg C (v := 2) (by decide) h2 dL_law_721 dL_law_722 dL_law_723 dL_law_724 dL_law_725 ?_
  refine l_arg C (v := 3) (by decide) h3 dL_law_726 dL_law_727 dL_law_728 dL_law_729 dL_law_730 ?_
  refine l_call (av := [.int (xs (i + 1).toNatClampNeg), .int (xs (i + 2).toNatClampNeg), .int (xs (i + 3).toNatClampNeg)]) (st := []) (u := u) C hcx dL_law_731 cc_L_94 rfl hkx (Nat.le_of_ble_eq_true rfl) hu ?_
  refine l_am C dL_law_734 ?_
  refine l_arg C (v := 1) (by decide) h1 dL_law_735 dL_law_736 dL_law_737 dL_law_738 dL_law_739 ?_
  refine l_arg C (v := 2) (by decide) h2 dL_law_740 dL_law_741 dL_law_742 dL_law_743 dL_law_744 ?_
  refine l_arg C (v := 3) (by decide) h3 dL_law_745 dL_law_746 dL_law_747 dL_law_748 dL_law_749 ?_
  refine l_call (av := [.int (xs (i + 1).toNatClampNeg), .int (xs (i + 2).toNatClampNeg), .int (xs (i + 3).toNatClampNeg)]) (st := [.int r]) (u := (u.1 + 0, u.2 + 0)) C hcm dL_law_750 cc_L_97 rfl hkm (Nat.le_of_ble_eq_true rfl) hu ?_
  refine l_eqI C dL_law_753 rfl ?_
  exact kk M hp
/-- kept -/
def op_20 (P : Me → Prop) (M : Me) : Prop := ∀ x1 x2 x3 x4 : Int32, ∃ (r : Int64) (M2 : Me), f_X11_kept 0 x1 x2 x3 x4 M = some r ∧ f_X12_kept 70 x1 x2 x3 x4 M = some (r, M2) ∧ P M2
theorem lc_20 {P : Me → Prop} (C : La p s m meth c K b0 L xs) (h1 : vp_in (i + 1) L) (h2 : vp_in (i + 2) L) (h3 : vp_in (i + 3) L) (h4 : vp_in (i + 4) L) (hu : u.1 + 0 ≤ 600000 ∧ u.2 + 0 ≤ 7302250) (ho : op_20 P M)
    (kk : ∀ M2, P M2 → Lw p l e s m below meth c K b0 M2 (u.1 + 0, u.2 + 0) i 1090 []) : Lw p l e s m below meth c K b0 M u i 758 [] := by
  obtain ⟨r, M2, hx, hm, hp⟩ := ho (xs (i + 1).toNatClampNeg) (xs (i + 2).toNatClampNeg) (xs (i + 3).toNatClampNeg) (xs (i + 4).toNatClampNeg)
  obtain ⟨hkx, hcx⟩ := ct_X11_kept 8 (by decide) 0 (xs (i + 1).toNatClampNeg) (xs (i + 2).toNatClampNeg) (xs (i + 3).toNatClampNeg) (xs (i + 4).toNatClampNeg) M r hx
  obtain ⟨hkm, hcm⟩ := ct_X12_kept 8 (by decide) 70 (xs (i + 1).toNatClampNeg) (xs (i + 2).toNatClampNeg) (xs (i + 3).toNatClampNeg) (xs (i + 4).toNatClampNeg) M r M2 hm
  refine l_ax C dL_law_758 ?_
  refine l_arg C (v := 1) (by decide) h1 dL_law_759 dL_law_760 dL_law_761 dL_law_762 dL_law_763 ?_
  refine l_arg C (v := 2) (by decide) h2 dL_law_764 dL_law_765 dL_law_766 dL_law_767 dL_law_768 ?_
  refine l_arg C (v := 3) (by decide) h3 dL_law_769 dL_law_770 dL_law_771 dL_law_772 dL_law_773 ?_
  refine l_arg C (v := 4) (by decide) h4 dL_law_774 dL_law_775 dL_law_776 dL_law_777 dL_law_778 ?_
  refine l_call (av := [.int (xs (i + 1).toNatClampNeg), .int (xs (i + 2).toNatClampNeg), .int (xs (i + 3).toNatClampNeg), .int (xs (i + 4).toNatClampNeg)]) (st := []) (u := u) C hcx dL_law_779 cc_L_98 rfl hkx (Nat.le_of_ble_eq_true rfl) hu ?_
  refine l_am C dL_law_782 ?_
  refine l_arg C (v := 1) (by decide) h1 dL_law_783 dL_law_784 dL_law_785 dL_law_786 dL_law_787 ?_
  refine l_arg C (v := 2) (by decide) h2 dL_law_788 dL_law_789 dL_law_790 dL_law_791 dL_law_792 ?_
  refine l_arg C (v := 3) (by decide) h3 dL_law_793 dL_law_794 dL_law_795 dL_law_796 dL_law_797 ?_
  refine l_arg C (v := 4) (by decide) h4 dL_law_798 dL_law_799 dL_law_800 dL_law_801 dL_law_802 ?_
  refine l_call (av := [.int (xs (i + 1).toNatClampNeg), .int (xs (i + 2).toNatClampNeg), .int (xs (i + 3).toNatClampNeg), .int (xs (i + 4).toNatClampNeg)]) (st := [.long r]) (u := (u.1 + 0, u.2 + 0)) C hcm dL_law_803 cc_L_102 rfl hkm (Nat.le_of_ble_eq_true rfl) hu ?_
  refine l_eqL C dL_law_806 dL_law_807 rfl ?_
  exact kk M2 hp
/-- keeps -/
def op_21 (P : Me → Prop) (M : Me) : Prop := ∀ x1 x2 x3 : Int32, ∃ (r : Int32) (M2 : Me), f_X11_keeps 0 x1 x2 x3 M = some r ∧ f_X12_keeps 70 x1 x2 x3 M = some (r, M2) ∧ P M2
theorem lc_21 {P : Me → Prop} (C : La p s m meth c K b0 L xs) (h1 : vp_in (i + 1) L) (h2 : vp_in (i + 2) L) (h3 : vp_in (i + 3) L) (hu : u.1 + 0 ≤ 600000 ∧ u.2 + 0 ≤ 7302250) (ho : op_21 P M)
    (kk : ∀ M2, P M2 → Lw p l e s m below meth c K b0 M2 (u.1 + 0, u.2 + 0) i 1090 []) : Lw p l e s m below meth c K b0 M u i 812 [] := by
  obtain ⟨r, M2, hx, hm, hp⟩ := ho (xs (i + 1).toNatClampNeg) (xs (i + 2).toNatClampNeg) (xs (i + 3).toNatClampNeg)
  obtain ⟨hkx, hcx⟩ := ct_X11_keeps 8 (by decide) 0 (xs (i + 1).toNatClampNeg) (xs (i + 2).toNatClampNeg) (xs (i + 3).toNatClampNeg) M r hx
  obtain ⟨hkm, hcm⟩ := ct_X12_keeps 8 (by decide) 70 (xs (i + 1).toNatClampNeg) (xs (i + 2).toNatClampNeg) (xs (i + 3).toNatClampNeg) M r M2 hm
  refine l_ax C dL_law_812 ?_
  refine l_arg C (v := 1) (by decide) h1 dL_law_813 dL_law_814 dL_law_815 dL_law_816 dL_law_817 ?_
  refine l_arg C (v := 2) (by decide) h2 dL_law_818 dL_law_819 dL_law_820 dL_law_821 dL_law_822 ?_
  refine l_arg C (v := 3) (by decide) h3 dL_law_823 dL_law_824 dL_law_825 dL_law_826 dL_law_827 ?_
  refine l_call (av := [.int (xs (i + 1).toNatClampNeg), .int (xs (i + 2).toNatClampNeg), .int (xs (i + 3).toNatClampNeg)]) (st := []) (u := u) C hcx dL_law_828 cc_L_103 rfl hkx (Nat.le_of_ble_eq_true rfl) hu ?_
  refine l_am C dL_law_831 ?_
  refine l_arg C (v := 1) (by decide) h1 dL_law_832 dL_law_833 dL_law_834 dL_law_835 dL_law_836 ?_
  refine l_arg C (v := 2) (by decide) h2 dL_law_837 dL_law_838 dL_law_839 dL_law_840 dL_law_841 ?_
  refine l_arg C (v := 3) (by decide) h3 dL_law_842 dL_law_843 dL_law_844 dL_law_845 dL_law_846 ?_
  refine l_call (av := [.int (xs (i + 1).toNatClampNeg), .int (xs (i + 2).toNatClampNeg), .int (xs (i + 3).toNatClampNeg)]) (st := [.int r]) (u := (u.1 + 0, u.2 + 0)) C hcm dL_law_847 cc_L_106 rfl hkm (Nat.le_of_ble_eq_true rfl) hu ?_
  refine l_eqI C dL_law_850 rfl ?_
  exact kk M2 hp
/-- seen -/
def op_22 (P : Me → Prop) (M : Me) : Prop := ∀ x1 x2 : Int32, ∃ (r : Int32) (M1 : Me) (M2 : Me), f_X11_seen 0 x1 x2 M = some (r, M1) ∧ f_X12_seen 70 x1 x2 M1 = some (r, M2) ∧ P M2
theorem lc_22 {P : Me → Prop} (C : La p s m meth c K b0 L xs) (h1 : vp_in (i + 1) L) (h2 : vp_in (i + 2) L) (hu : u.1 + 0 ≤ 600000 ∧ u.2 + 0 ≤ 7302250) (ho : op_22 P M)
    (kk : ∀ M2, P M2 → Lw p l e s m below meth c K b0 M2 (u.1 + 0, u.2 + 0) i 1090 []) : Lw p l e s m below meth c K b0 M u i 855 [] := by
  obtain ⟨r, M1, M2, hx, hm, hp⟩ := ho (xs (i + 1).toNatClampNeg) (xs (i + 2).toNatClampNeg)
  obtain ⟨hkx, hcx⟩ := ct_X11_seen 8 (by decide) 0 (xs (i + 1).toNatClampNeg) (xs (i + 2).toNatClampNeg) M r M1 hx
  obtain ⟨hkm, hcm⟩ := ct_X12_seen 8 (by decide) 70 (xs (i + 1).toNatClampNeg) (xs (i + 2).toNatClampNeg) M1 r M2 hm
  refine l_ax C dL_law_855 ?_
  refine l_arg C (v := 1) (by decide) h1 dL_law_856 dL_law_857 dL_law_858 dL_law_859 dL_law_860 ?_
  refine l_arg C (v := 2) (by decide) h2 dL_law_861 dL_law_862 dL_law_863 dL_law_864 dL_law_865 ?_
  refine l_call (av := [.int (xs (i + 1).toNatClampNeg), .int (xs (i + 2).toNatClampNeg)]) (st := []) (u := u) C hcx dL_law_866 cc_L_107 rfl hkx (Nat.le_of_ble_eq_true rfl) hu ?_
  refine l_am C dL_law_869 ?_
  refine l_arg C (v := 1) (by decide) h1 dL_law_870 dL_law_871 dL_law_872 dL_law_873 dL_law_874 ?_
  refine l_arg C (v := 2) (by decide) h2 dL_law_875 dL_law_876 dL_law_877 dL_law_878 dL_law_879 ?_
  refine l_call (av := [.int (xs (i + 1).toNatClampNeg), .int (xs (i + 2).toNatClampNeg)]) (st := [.int r]) (u := (u.1 + 0, u.2 + 0)) C hcm dL_law_880 cc_L_110 rfl hkm (Nat.le_of_ble_eq_true rfl) hu ?_
  refine l_eqI C dL_law_883 rfl ?_
  exact kk M2 hp
/-- forget -/
def op_23 (P : Me → Prop) (M : Me) : Prop := ∃ (r : Int32) (M1 : Me) (M2 : Me), f_X11_forget 0 M = some (r, M1) ∧ f_X12_forget 70 M1 = some (r, M2) ∧ P M2
theorem lc_23 {P : Me → Prop} (C : La p s m meth c K b0 L xs)  (hu : u.1 + 0 ≤ 600000 ∧ u.2 + 0 ≤ 7302250) (ho : op_23 P M)
    (kk : ∀ M2, P M2 → Lw p l e s m below meth c K b0 M2 (u.1 + 0, u.2 + 0) i 1090 []) : Lw p l e s m below meth c K b0 M u i 888 [] := by
  obtain ⟨r, M1, M2, hx, hm, hp⟩ := ho
  obtain ⟨hkx, hcx⟩ := ct_X11_forget 8 (by decide) 0  M r M1 hx
  obtain ⟨hkm, hcm⟩ := ct_X12_forget 8 (by decide) 70  M1 r M2 hm
  refine l_ax C dL_law_888 ?_
  refine l_call (av := []) (st := []) (u := u) C hcx dL_law_889 cc_L_111 rfl hkx (Nat.le_of_ble_eq_true rfl) hu ?_
  refine l_am C dL_law_892 ?_
  refine l_call (av := []) (st := [.int r]) (u := (u.1 + 0, u.2 + 0)) C hcm dL_law_893 cc_L_114 rfl hkm (Nat.le_of_ble_eq_true rfl) hu ?_
  refine l_eqI C dL_law_896 rfl ?_
  exact kk M2 hp
/-- who -/
def op_24 (P : Me → Prop) (M : Me) : Prop := ∀ x1 : Int32, ∃ (r : Int32) (M1 : Me), f_X11_who 0 x1 M = some (r, M1) ∧ f_X12_who 70 x1 M1 = some r ∧ P M1
theorem lc_24 {P : Me → Prop} (C : La p s m meth c K b0 L xs) (h1 : vp_in (i + 1) L) (hu : u.1 + 0 ≤ 600000 ∧ u.2 + 0 ≤ 7302250) (ho : op_24 P M)
    (kk : ∀ M2, P M2 → Lw p l e s m below meth c K b0 M2 (u.1 + 0, u.2 + 0) i 1090 []) : Lw p l e s m below meth c K b0 M u i 901 [] := by
  obtain ⟨r, M1, hx, hm, hp⟩ := ho (xs (i + 1).toNatClampNeg)
  obtain ⟨hkx, hcx⟩ := ct_X11_who 8 (by decide) 0 (xs (i + 1).toNatClampNeg) M r M1 hx
  obtain ⟨hkm, hcm⟩ := ct_X12_who 8 (by decide) 70 (xs (i + 1).toNatClampNeg) M1 r hm
  refine l_ax C dL_law_901 ?_
  refine l_arg C (v := 1) (by decide) h1 dL_law_902 dL_law_903 dL_law_904 dL_law_905 dL_law_906 ?_
  refine l_call (av := [.int (xs (i + 1).toNatClampNeg)]) (st := []) (u := u) C hcx dL_law_907 cc_L_115 rfl hkx (Nat.le_of_ble_eq_true rfl) hu ?_
  refine l_am C dL_law_910 ?_
  refine l_arg C (v := 1) (by decide) h1 dL_law_911 dL_law_912 dL_law_913 dL_law_914 dL_law_915 ?_
  refine l_call (av := [.int (xs (i + 1).toNatClampNeg)]) (st := [.int r]) (u := (u.1 + 0, u.2 + 0)) C hcm dL_law_916 cc_L_118 rfl hkm (Nat.le_of_ble_eq_true rfl) hu ?_
  refine l_eqI C dL_law_919 rfl ?_
  exact kk M1 hp
/-- snow -/
def op_25 (P : Me → Prop) (M : Me) : Prop := ∀ x1 x2 x3 x4 : Int32, ∃ (r : Int64), f_X11_snow 0 x1 x2 x3 x4 M = some r ∧ f_X12_snow 70 x1 x2 x3 x4 M = some r ∧ P M
theorem lc_25 {P : Me → Prop} (C : La p s m meth c K b0 L xs) (h1 : vp_in (i + 1) L) (h2 : vp_in (i + 2) L) (h3 : vp_in (i + 3) L) (h4 : vp_in (i + 4) L) (hu : u.1 + 0 ≤ 600000 ∧ u.2 + 0 ≤ 7302250) (ho : op_25 P M)
    (kk : ∀ M2, P M2 → Lw p l e s m below meth c K b0 M2 (u.1 + 0, u.2 + 0) i 1090 []) : Lw p l e s m below meth c K b0 M u i 924 [] := by
  obtain ⟨r, hx, hm, hp⟩ := ho (xs (i + 1).toNatClampNeg) (xs (i + 2).toNatClampNeg) (xs (i + 3).toNatClampNeg) (xs (i + 4).toNatClampNeg)
  obtain ⟨hkx, hcx⟩ := ct_X11_snow 8 (by decide) 0 (xs (i + 1).toNatClampNeg) (xs (i + 2).toNatClampNeg) (xs (i + 3).toNatClampNeg) (xs (i + 4).toNatClampNeg) M r hx
  obtain ⟨hkm, hcm⟩ := ct_X12_snow 8 (by decide) 70 (xs (i + 1).toNatClampNeg) (xs (i + 2).toNatClampNeg) (xs (i + 3).toNatClampNeg) (xs (i + 4).toNatClampNeg) M r hm
  refine l_ax C dL_law_924 ?_
  refine l_arg C (v := 1) (by decide) h1 dL_law_925 dL_law_926 dL_law_927 dL_law_928 dL_law_929 ?_
  refine l_arg C (v := 2) (by decide) h2 dL_law_930 dL_law_931 dL_law_932 dL_law_933 dL_law_934 ?_
  refine l_arg C (v := 3) (by decide) h3 dL_law_935 dL_law_936 dL_law_937 dL_law_938 dL_law_939 ?_
  refine l_arg C (v := 4) (by decide) h4 dL_law_940 dL_law_941 dL_law_942 dL_law_943 dL_law_944 ?_
  refine l_call (av := [.int (xs (i + 1).toNatClampNeg), .int (xs (i + 2).toNatClampNeg), .int (xs (i + 3).toNatClampNeg), .int (xs (i + 4).toNatClampNeg)]) (st := []) (u := u) C hcx dL_law_945 cc_L_119 rfl hkx (Nat.le_of_ble_eq_true rfl) hu ?_
  refine l_am C dL_law_948 ?_
  refine l_arg C (v := 1) (by decide) h1 dL_law_949 dL_law_950 dL_law_951 dL_law_952 dL_law_953 ?_
  refine l_arg C (v := 2) (by decide) h2 dL_law_954 dL_law_955 dL_law_956 dL_law_957 dL_law_958 ?_
  refine l_arg C (v := 3) (by decide) h3 dL_law_959 dL_law_960 dL_law_961 dL_law_962 dL_law_963 ?_
  refine l_arg C (v := 4) (by decide) h4 dL_law_964 dL_law_965 dL_law_966 dL_law_967 dL_law_968 ?_
  refine l_call (av := [.int (xs (i + 1).toNatClampNeg), .int (xs (i + 2).toNatClampNeg), .int (xs (i + 3).toNatClampNeg), .int (xs (i + 4).toNatClampNeg)]) (st := [.long r]) (u := (u.1 + 0, u.2 + 0)) C hcm dL_law_969 cc_L_122 rfl hkm (Nat.le_of_ble_eq_true rfl) hu ?_
  refine l_eqL C dL_law_972 dL_law_973 rfl ?_
  exact kk M hp
/-- year -/
def op_26 (P : Me → Prop) (M : Me) : Prop := ∀ x1 x2 x3 : Int32, ∃ (r : Int32) (M1 : Me) (M2 : Me), f_X11_year 0 x1 x2 x3 M = some (r, M1) ∧ f_X12_year 70 x1 x2 x3 M1 = some (r, M2) ∧ P M2
theorem lc_26 {P : Me → Prop} (C : La p s m meth c K b0 L xs) (h1 : vp_in (i + 1) L) (h2 : vp_in (i + 2) L) (h3 : vp_in (i + 3) L) (hu : u.1 + 0 ≤ 600000 ∧ u.2 + 0 ≤ 7302250) (ho : op_26 P M)
    (kk : ∀ M2, P M2 → Lw p l e s m below meth c K b0 M2 (u.1 + 0, u.2 + 0) i 1090 []) : Lw p l e s m below meth c K b0 M u i 978 [] := by
  obtain ⟨r, M1, M2, hx, hm, hp⟩ := ho (xs (i + 1).toNatClampNeg) (xs (i + 2).toNatClampNeg) (xs (i + 3).toNatClampNeg)
  obtain ⟨hkx, hcx⟩ := ct_X11_year 8 (by decide) 0 (xs (i + 1).toNatClampNeg) (xs (i + 2).toNatClampNeg) (xs (i + 3).toNatClampNeg) M r M1 hx
  obtain ⟨hkm, hcm⟩ := ct_X12_year 8 (by decide) 70 (xs (i + 1).toNatClampNeg) (xs (i + 2).toNatClampNeg) (xs (i + 3).toNatClampNeg) M1 r M2 hm
  refine l_ax C dL_law_978 ?_
  refine l_arg C (v := 1) (by decide) h1 dL_law_979 dL_law_980 dL_law_981 dL_law_982 dL_law_983 ?_
  refine l_arg C (v := 2) (by decide) h2 dL_law_984 dL_law_985 dL_law_986 dL_law_987 dL_law_988 ?_
  refine l_arg C (v := 3) (by decide) h3 dL_law_989 dL_law_990 dL_law_991 dL_law_992 dL_law_993 ?_
  refine l_call (av := [.int (xs (i + 1).toNatClampNeg), .int (xs (i + 2).toNatClampNeg), .int (xs (i + 3).toNatClampNeg)]) (st := []) (u := u) C hcx dL_law_994 cc_L_123 rfl hkx (Nat.le_of_ble_eq_true rfl) hu ?_
  refine l_am C dL_law_997 ?_
  refine l_arg C (v := 1) (by decide) h1 dL_law_998 dL_law_999 dL_law_1000 dL_law_1001 dL_law_1002 ?_
  refine l_arg C (v := 2) (by decide) h2 dL_law_1003 dL_law_1004 dL_law_1005 dL_law_1006 dL_law_1007 ?_
  refine l_arg C (v := 3) (by decide) h3 dL_law_1008 dL_law_1009 dL_law_1010 dL_law_1011 dL_law_1012 ?_
  refine l_call (av := [.int (xs (i + 1).toNatClampNeg), .int (xs (i + 2).toNatClampNeg), .int (xs (i + 3).toNatClampNeg)]) (st := [.int r]) (u := (u.1 + 0, u.2 + 0)) C hcm dL_law_1013 cc_L_126 rfl hkm (Nat.le_of_ble_eq_true rfl) hu ?_
  refine l_eqI C dL_law_1016 rfl ?_
  exact kk M2 hp
/-- image -/
def op_27 (P : Me → Prop) (M : Me) : Prop := ∀ x1 : Int32, ∃ (r : Int32) (M1 : Me) (M2 : Me), f_X11_image 0 x1 M = some (r, M1) ∧ f_X12_image 70 x1 M1 = some (r, M2) ∧ P M2
theorem lc_27 {P : Me → Prop} (C : La p s m meth c K b0 L xs) (h1 : vp_in (i + 1) L) (hu : u.1 + 28 ≤ 600000 ∧ u.2 + 178 ≤ 7302250) (ho : op_27 P M)
    (kk : ∀ M2, P M2 → Lw p l e s m below meth c K b0 M2 (u.1 + 28, u.2 + 178) i 1090 []) : Lw p l e s m below meth c K b0 M u i 1021 [] := by
  obtain ⟨r, M1, M2, hx, hm, hp⟩ := ho (xs (i + 1).toNatClampNeg)
  obtain ⟨hkx, hcx⟩ := ct_X11_image 8 (by decide) 0 (xs (i + 1).toNatClampNeg) M r M1 hx
  obtain ⟨hkm, hcm⟩ := ct_X12_image 8 (by decide) 70 (xs (i + 1).toNatClampNeg) M1 r M2 hm
  refine l_ax C dL_law_1021 ?_
  refine l_arg C (v := 1) (by decide) h1 dL_law_1022 dL_law_1023 dL_law_1024 dL_law_1025 dL_law_1026 ?_
  refine l_call (av := [.int (xs (i + 1).toNatClampNeg)]) (st := []) (u := u) C hcx dL_law_1027 cc_L_127 rfl hkx (Nat.le_of_ble_eq_true rfl) hu ?_
  refine l_am C dL_law_1030 ?_
  refine l_arg C (v := 1) (by decide) h1 dL_law_1031 dL_law_1032 dL_law_1033 dL_law_1034 dL_law_1035 ?_
  refine l_call (av := [.int (xs (i + 1).toNatClampNeg)]) (st := [.int r]) (u := (u.1 + 28, u.2 + 178)) C hcm dL_law_1036 cc_L_130 rfl hkm (Nat.le_of_ble_eq_true rfl) hu ?_
  refine l_eqI C dL_law_1039 rfl ?_
  exact kk M2 hp
/-- restore -/
def op_28 (P : Me → Prop) (M : Me) : Prop := ∀ x1 : Int32, ∃ (r : Int32) (M1 : Me) (M2 : Me), f_X11_restore 0 x1 M = some (r, M1) ∧ f_X12_restore 70 x1 M1 = some (r, M2) ∧ P M2
theorem lc_28 {P : Me → Prop} (C : La p s m meth c K b0 L xs) (h1 : vp_in (i + 1) L) (hu : u.1 + 0 ≤ 600000 ∧ u.2 + 0 ≤ 7302250) (ho : op_28 P M)
    (kk : ∀ M2, P M2 → Lw p l e s m below meth c K b0 M2 (u.1 + 0, u.2 + 0) i 1090 []) : Lw p l e s m below meth c K b0 M u i 1044 [] := by
  obtain ⟨r, M1, M2, hx, hm, hp⟩ := ho (xs (i + 1).toNatClampNeg)
  obtain ⟨hkx, hcx⟩ := ct_X11_restore 8 (by decide) 0 (xs (i + 1).toNatClampNeg) M r M1 hx
  obtain ⟨hkm, hcm⟩ := ct_X12_restore 8 (by decide) 70 (xs (i + 1).toNatClampNeg) M1 r M2 hm
  refine l_ax C dL_law_1044 ?_
  refine l_arg C (v := 1) (by decide) h1 dL_law_1045 dL_law_1046 dL_law_1047 dL_law_1048 dL_law_1049 ?_
  refine l_call (av := [.int (xs (i + 1).toNatClampNeg)]) (st := []) (u := u) C hcx dL_law_1050 cc_L_131 rfl hkx (Nat.le_of_ble_eq_true rfl) hu ?_
  refine l_am C dL_law_1053 ?_
  refine l_arg C (v := 1) (by decide) h1 dL_law_1054 dL_law_1055 dL_law_1056 dL_law_1057 dL_law_1058 ?_
  refine l_call (av := [.int (xs (i + 1).toNatClampNeg)]) (st := [.int r]) (u := (u.1 + 0, u.2 + 0)) C hcm dL_law_1059 cc_L_134 rfl hkm (Nat.le_of_ble_eq_true rfl) hu ?_
  refine l_eqI C dL_law_1062 rfl ?_
  exact kk M2 hp
/-- told -/
def op_29 (P : Me → Prop) (M : Me) : Prop := ∀ x1 : Int32, ∃ (r : Int32), f_X11_told 0 x1 M = some r ∧ f_X12_told 70 x1 M = some r ∧ P M
theorem lc_29 {P : Me → Prop} (C : La p s m meth c K b0 L xs) (h1 : vp_in (i + 1) L) (hu : u.1 + 0 ≤ 600000 ∧ u.2 + 0 ≤ 7302250) (ho : op_29 P M)
    (kk : ∀ M2, P M2 → Lw p l e s m below meth c K b0 M2 (u.1 + 0, u.2 + 0) i 1090 []) : Lw p l e s m below meth c K b0 M u i 1067 [] := by
  obtain ⟨r, hx, hm, hp⟩ := ho (xs (i + 1).toNatClampNeg)
  obtain ⟨hkx, hcx⟩ := ct_X11_told 8 (by decide) 0 (xs (i + 1).toNatClampNeg) M r hx
  obtain ⟨hkm, hcm⟩ := ct_X12_told 8 (by decide) 70 (xs (i + 1).toNatClampNeg) M r hm
  refine l_ax C dL_law_1067 ?_
  refine l_arg C (v := 1) (by decide) h1 dL_law_1068 dL_law_1069 dL_law_1070 dL_law_1071 dL_law_1072 ?_
  refine l_call (av := [.int (xs (i + 1).toNatClampNeg)]) (st := []) (u := u) C hcx dL_law_1073 cc_L_135 rfl hkx (Nat.le_of_ble_eq_true rfl) hu ?_
  refine l_am C dL_law_1076 ?_
  refine l_arg C (v := 1) (by decide) h1 dL_law_1077 dL_law_1078 dL_law_1079 dL_law_1080 dL_law_1081 ?_
  refine l_call (av := [.int (xs (i + 1).toNatClampNeg)]) (st := [.int r]) (u := (u.1 + 0, u.2 + 0)) C hcm dL_law_1082 cc_L_138 rfl hkm (Nat.le_of_ble_eq_true rfl) hu ?_
  refine l_eqI C dL_law_1085 rfl ?_
  exact kk M hp
end LC

/-! THE CLAIM OUT OF ONE WALK OF THE LAW'S BODY. Your part is whole_start (and what it stands on); all else here is the same for every law, but numbers. -/
def R_law : String := "EncounterLedgerLaw"
def lw_P (b : Addr) (xs : List Int32) (args : Array Value) (s : State) : Prop := args = #[.ref b] ∧ s.IntsAt b xs ∧ xs.length ≤ 3584 ∧ (Jvm.Cond.and given_1 narrow_1).before args s = true
def lw_Q (_ : Array Value) (s : State) (o : Outcome) (t : State) : Prop := o = .returned (some (.int 1)) ∧ Framed s o t [] 600000 7302250
def lw_Z (below : List Frame) (a : Array Value) (s : State) : State → Prop := fun t => ∃ o, t.status = .running ∧ Ended t below o ∧ lw_Q a s o t
/-- the law's own end, with 1 on the stack, nothing written that was there before, its room as the claim has it -/
theorem lw_ret {p : Program} {l : Launch} {e : Env} {s : State} {m : MethodId} {below : List Frame} {meth : Method} {c : Code} {b : Nat} (hx : p.tables.exec = Jvm.exec) (hb : c.code = code) (hr : meth.sig.returnType = ret) (hlocks : meth.locks = false) {pc : Nat} {H : Heap} {ls : Array Slot} (hdg : decode code pc = .ok (.ireturn, 1)) : W p l e room_1 s m #[Value.ref b] below meth c H [] 600000 7302250 (lw_Z below #[Value.ref b] s) (F0 m pc ls [.int 1]) := by
  intro T hT X
  obtain ⟨fs, hret, hrun, hended, hW, hframe⟩ := X.leave (v := some (.int 1)) (hlocks := hlocks) (fun h => by rw [hr] at h; cases h)
  have hmeth' : T.vm.method? m = some meth := X.method'
  refine ⟨T.setFrames fs, ?_, .returned (some (.int 1)), hrun, hended, rfl, ⟨_, rfl⟩, hW, hframe⟩
  jvm_step X.here [X.here.top, hx, hb, hdg, hmeth', hr, ret, narrow_b1]
  (try refine ⟨rfl, ?_⟩); (try refine ⟨rfl, ?_⟩)
  first | (intro acts; rw [hret _ acts rfl rfl rfl]) | rw [hret _ _ rfl rfl rfl]
  exact Steps.refl _
/-- what holds at the law's entry: the machine, the code, the tables' words (any of lw_tbl by 'hts w (by decide +kernel)'), the script of L ints xs at the cell b, what the Statement gives of the start (any of its parts by flat_of_before) -/
def lw_At (p : Program) (s : State) (m : MethodId) (meth : Method) (c : Code) (b L : Nat) (xs : Nat → Int32) : Prop :=
  p.tables.exec = Jvm.exec ∧ c.code = code ∧ meth.sig.returnType = ret ∧ c.maxLocals = 4 ∧ s.vm.findClass R_law = some m.cls ∧ (∀ w ∈ lw_tbl, w.before #[Value.ref b] s = true) ∧ va_X b L xs s s.heap ∧ b < s.heap.size ∧ meth.locks = false ∧ (Jvm.Cond.and given_1 narrow_1).before #[Value.ref b] s = true
theorem d_La_law_0 : decode code 0 = .ok (.new 7, 3) := by decide +kernel
theorem d_La_law_3 : decode code 3 = .ok (.dup, 1) := by decide +kernel
theorem d_La_law_4 : decode code 4 = .ok (.invokespecial 9, 3) := by decide +kernel
theorem d_La_law_7 : decode code 7 = .ok (.astore_n 1, 1) := by decide +kernel
theorem d_La_law_8 : decode code 8 = .ok (.new 10, 3) := by decide +kernel
theorem d_La_law_11 : decode code 11 = .ok (.dup, 1) := by decide +kernel
theorem d_La_law_12 : decode code 12 = .ok (.invokespecial 12, 3) := by decide +kernel
theorem d_La_law_15 : decode code 15 = .ok (.astore_n 2, 1) := by decide +kernel
theorem d_La_law_16 : decode code 16 = .ok (.iconst 0, 1) := by decide +kernel
theorem d_La_law_17 : decode code 17 = .ok (.istore_n 3, 1) := by decide +kernel
theorem d_La_law_18 : decode code 18 = .ok (.iload_n 3, 1) := by decide +kernel
theorem d_La_law_19 : decode code 19 = .ok (.aload_n 0, 1) := by decide +kernel
theorem d_La_law_20 : decode code 20 = .ok (.arraylength, 1) := by decide +kernel
theorem d_La_law_21 : decode code 21 = .ok (.bipush 7, 2) := by decide +kernel
theorem d_La_law_23 : decode code 23 = .ok (.isub, 1) := by decide +kernel
theorem d_La_law_24 : decode code 24 = .ok (.if_icmp .gt 884, 3) := by decide +kernel
theorem d_La_law_27 : decode code 27 = .ok (.aload_n 0, 1) := by decide +kernel
theorem d_La_law_28 : decode code 28 = .ok (.iload_n 3, 1) := by decide +kernel
theorem d_La_law_29 : decode code 29 = .ok (.iaload, 1) := by decide +kernel
theorem d_La_law_30 : decode code 30 = .ok (.bipush 31, 2) := by decide +kernel
theorem d_La_law_32 : decode code 32 = .ok (.iand, 1) := by decide +kernel
theorem d_La_law_33 : decode code 33 = .ok (.tableswitch 869 0 25 #[119, 182, 205, 248, 271, 284, 297, 320, 343, 366, 441, 464, 507, 530, 563, 586, 619, 682, 705, 738, 771, 784, 807, 820, 833, 846], 119) := by decide +kernel
theorem d_La_law_152 : decode code 152 = .ok (.aload_n 1, 1) := by decide +kernel
theorem d_La_law_153 : decode code 153 = .ok (.aload_n 0, 1) := by decide +kernel
theorem d_La_law_154 : decode code 154 = .ok (.iload_n 3, 1) := by decide +kernel
theorem d_La_law_155 : decode code 155 = .ok (.iconst 1, 1) := by decide +kernel
theorem d_La_law_156 : decode code 156 = .ok (.iadd, 1) := by decide +kernel
theorem d_La_law_157 : decode code 157 = .ok (.iaload, 1) := by decide +kernel
theorem d_La_law_158 : decode code 158 = .ok (.aload_n 0, 1) := by decide +kernel
theorem d_La_law_159 : decode code 159 = .ok (.iload_n 3, 1) := by decide +kernel
theorem d_La_law_160 : decode code 160 = .ok (.iconst 2, 1) := by decide +kernel
theorem d_La_law_161 : decode code 161 = .ok (.iadd, 1) := by decide +kernel
theorem d_La_law_162 : decode code 162 = .ok (.iaload, 1) := by decide +kernel
theorem d_La_law_163 : decode code 163 = .ok (.aload_n 0, 1) := by decide +kernel
theorem d_La_law_164 : decode code 164 = .ok (.iload_n 3, 1) := by decide +kernel
theorem d_La_law_165 : decode code 165 = .ok (.iconst 3, 1) := by decide +kernel
theorem d_La_law_166 : decode code 166 = .ok (.iadd, 1) := by decide +kernel
theorem d_La_law_167 : decode code 167 = .ok (.iaload, 1) := by decide +kernel
theorem d_La_law_168 : decode code 168 = .ok (.aload_n 0, 1) := by decide +kernel
theorem d_La_law_169 : decode code 169 = .ok (.iload_n 3, 1) := by decide +kernel
theorem d_La_law_170 : decode code 170 = .ok (.iconst 4, 1) := by decide +kernel
theorem d_La_law_171 : decode code 171 = .ok (.iadd, 1) := by decide +kernel
theorem d_La_law_172 : decode code 172 = .ok (.iaload, 1) := by decide +kernel
theorem d_La_law_173 : decode code 173 = .ok (.aload_n 0, 1) := by decide +kernel
theorem d_La_law_174 : decode code 174 = .ok (.iload_n 3, 1) := by decide +kernel
theorem d_La_law_175 : decode code 175 = .ok (.iconst 5, 1) := by decide +kernel
theorem d_La_law_176 : decode code 176 = .ok (.iadd, 1) := by decide +kernel
theorem d_La_law_177 : decode code 177 = .ok (.iaload, 1) := by decide +kernel
theorem d_La_law_178 : decode code 178 = .ok (.invokevirtual 13, 3) := by decide +kernel
theorem d_La_law_181 : decode code 181 = .ok (.aload_n 2, 1) := by decide +kernel
theorem d_La_law_182 : decode code 182 = .ok (.aload_n 0, 1) := by decide +kernel
theorem d_La_law_183 : decode code 183 = .ok (.iload_n 3, 1) := by decide +kernel
theorem d_La_law_184 : decode code 184 = .ok (.iconst 1, 1) := by decide +kernel
theorem d_La_law_185 : decode code 185 = .ok (.iadd, 1) := by decide +kernel
theorem d_La_law_186 : decode code 186 = .ok (.iaload, 1) := by decide +kernel
theorem d_La_law_187 : decode code 187 = .ok (.aload_n 0, 1) := by decide +kernel
theorem d_La_law_188 : decode code 188 = .ok (.iload_n 3, 1) := by decide +kernel
theorem d_La_law_189 : decode code 189 = .ok (.iconst 2, 1) := by decide +kernel
theorem d_La_law_190 : decode code 190 = .ok (.iadd, 1) := by decide +kernel
theorem d_La_law_191 : decode code 191 = .ok (.iaload, 1) := by decide +kernel
theorem d_La_law_192 : decode code 192 = .ok (.aload_n 0, 1) := by decide +kernel
theorem d_La_law_193 : decode code 193 = .ok (.iload_n 3, 1) := by decide +kernel
theorem d_La_law_194 : decode code 194 = .ok (.iconst 3, 1) := by decide +kernel
theorem d_La_law_195 : decode code 195 = .ok (.iadd, 1) := by decide +kernel
theorem d_La_law_196 : decode code 196 = .ok (.iaload, 1) := by decide +kernel
theorem d_La_law_197 : decode code 197 = .ok (.aload_n 0, 1) := by decide +kernel
theorem d_La_law_198 : decode code 198 = .ok (.iload_n 3, 1) := by decide +kernel
theorem d_La_law_199 : decode code 199 = .ok (.iconst 4, 1) := by decide +kernel
theorem d_La_law_200 : decode code 200 = .ok (.iadd, 1) := by decide +kernel
theorem d_La_law_201 : decode code 201 = .ok (.iaload, 1) := by decide +kernel
theorem d_La_law_202 : decode code 202 = .ok (.aload_n 0, 1) := by decide +kernel
theorem d_La_law_203 : decode code 203 = .ok (.iload_n 3, 1) := by decide +kernel
theorem d_La_law_204 : decode code 204 = .ok (.iconst 5, 1) := by decide +kernel
theorem d_La_law_205 : decode code 205 = .ok (.iadd, 1) := by decide +kernel
theorem d_La_law_206 : decode code 206 = .ok (.iaload, 1) := by decide +kernel
theorem d_La_law_207 : decode code 207 = .ok (.invokevirtual 17, 3) := by decide +kernel
theorem d_La_law_210 : decode code 210 = .ok (.if_icmp .eq 692, 3) := by decide +kernel
theorem d_La_law_213 : decode code 213 = .ok (.iconst 0, 1) := by decide +kernel
theorem d_La_law_214 : decode code 214 = .ok (.ireturn, 1) := by decide +kernel
theorem d_La_law_215 : decode code 215 = .ok (.aload_n 1, 1) := by decide +kernel
theorem d_La_law_216 : decode code 216 = .ok (.aload_n 0, 1) := by decide +kernel
theorem d_La_law_217 : decode code 217 = .ok (.iload_n 3, 1) := by decide +kernel
theorem d_La_law_218 : decode code 218 = .ok (.iconst 1, 1) := by decide +kernel
theorem d_La_law_219 : decode code 219 = .ok (.iadd, 1) := by decide +kernel
theorem d_La_law_220 : decode code 220 = .ok (.iaload, 1) := by decide +kernel
theorem d_La_law_221 : decode code 221 = .ok (.invokevirtual 18, 3) := by decide +kernel
theorem d_La_law_224 : decode code 224 = .ok (.aload_n 2, 1) := by decide +kernel
theorem d_La_law_225 : decode code 225 = .ok (.aload_n 0, 1) := by decide +kernel
theorem d_La_law_226 : decode code 226 = .ok (.iload_n 3, 1) := by decide +kernel
theorem d_La_law_227 : decode code 227 = .ok (.iconst 1, 1) := by decide +kernel
theorem d_La_law_228 : decode code 228 = .ok (.iadd, 1) := by decide +kernel
theorem d_La_law_229 : decode code 229 = .ok (.iaload, 1) := by decide +kernel
theorem d_La_law_230 : decode code 230 = .ok (.invokevirtual 22, 3) := by decide +kernel
theorem d_La_law_233 : decode code 233 = .ok (.if_icmp .eq 669, 3) := by decide +kernel
theorem d_La_law_236 : decode code 236 = .ok (.iconst 0, 1) := by decide +kernel
theorem d_La_law_237 : decode code 237 = .ok (.ireturn, 1) := by decide +kernel
theorem d_La_law_238 : decode code 238 = .ok (.aload_n 1, 1) := by decide +kernel
theorem d_La_law_239 : decode code 239 = .ok (.aload_n 0, 1) := by decide +kernel
theorem d_La_law_240 : decode code 240 = .ok (.iload_n 3, 1) := by decide +kernel
theorem d_La_law_241 : decode code 241 = .ok (.iconst 1, 1) := by decide +kernel
theorem d_La_law_242 : decode code 242 = .ok (.iadd, 1) := by decide +kernel
theorem d_La_law_243 : decode code 243 = .ok (.iaload, 1) := by decide +kernel
theorem d_La_law_244 : decode code 244 = .ok (.aload_n 0, 1) := by decide +kernel
theorem d_La_law_245 : decode code 245 = .ok (.iload_n 3, 1) := by decide +kernel
theorem d_La_law_246 : decode code 246 = .ok (.iconst 2, 1) := by decide +kernel
theorem d_La_law_247 : decode code 247 = .ok (.iadd, 1) := by decide +kernel
theorem d_La_law_248 : decode code 248 = .ok (.iaload, 1) := by decide +kernel
theorem d_La_law_249 : decode code 249 = .ok (.aload_n 0, 1) := by decide +kernel
theorem d_La_law_250 : decode code 250 = .ok (.iload_n 3, 1) := by decide +kernel
theorem d_La_law_251 : decode code 251 = .ok (.iconst 3, 1) := by decide +kernel
theorem d_La_law_252 : decode code 252 = .ok (.iadd, 1) := by decide +kernel
theorem d_La_law_253 : decode code 253 = .ok (.iaload, 1) := by decide +kernel
theorem d_La_law_254 : decode code 254 = .ok (.invokevirtual 23, 3) := by decide +kernel
theorem d_La_law_257 : decode code 257 = .ok (.aload_n 2, 1) := by decide +kernel
theorem d_La_law_258 : decode code 258 = .ok (.aload_n 0, 1) := by decide +kernel
theorem d_La_law_259 : decode code 259 = .ok (.iload_n 3, 1) := by decide +kernel
theorem d_La_law_260 : decode code 260 = .ok (.iconst 1, 1) := by decide +kernel
theorem d_La_law_261 : decode code 261 = .ok (.iadd, 1) := by decide +kernel
theorem d_La_law_262 : decode code 262 = .ok (.iaload, 1) := by decide +kernel
theorem d_La_law_263 : decode code 263 = .ok (.aload_n 0, 1) := by decide +kernel
theorem d_La_law_264 : decode code 264 = .ok (.iload_n 3, 1) := by decide +kernel
theorem d_La_law_265 : decode code 265 = .ok (.iconst 2, 1) := by decide +kernel
theorem d_La_law_266 : decode code 266 = .ok (.iadd, 1) := by decide +kernel
theorem d_La_law_267 : decode code 267 = .ok (.iaload, 1) := by decide +kernel
theorem d_La_law_268 : decode code 268 = .ok (.aload_n 0, 1) := by decide +kernel
theorem d_La_law_269 : decode code 269 = .ok (.iload_n 3, 1) := by decide +kernel
theorem d_La_law_270 : decode code 270 = .ok (.iconst 3, 1) := by decide +kernel
theorem d_La_law_271 : decode code 271 = .ok (.iadd, 1) := by decide +kernel
theorem d_La_law_272 : decode code 272 = .ok (.iaload, 1) := by decide +kernel
theorem d_La_law_273 : decode code 273 = .ok (.invokevirtual 27, 3) := by decide +kernel
theorem d_La_law_276 : decode code 276 = .ok (.if_icmp .eq 626, 3) := by decide +kernel
theorem d_La_law_279 : decode code 279 = .ok (.iconst 0, 1) := by decide +kernel
theorem d_La_law_280 : decode code 280 = .ok (.ireturn, 1) := by decide +kernel
theorem d_La_law_281 : decode code 281 = .ok (.aload_n 1, 1) := by decide +kernel
theorem d_La_law_282 : decode code 282 = .ok (.aload_n 0, 1) := by decide +kernel
theorem d_La_law_283 : decode code 283 = .ok (.iload_n 3, 1) := by decide +kernel
theorem d_La_law_284 : decode code 284 = .ok (.iconst 1, 1) := by decide +kernel
theorem d_La_law_285 : decode code 285 = .ok (.iadd, 1) := by decide +kernel
theorem d_La_law_286 : decode code 286 = .ok (.iaload, 1) := by decide +kernel
theorem d_La_law_287 : decode code 287 = .ok (.invokevirtual 28, 3) := by decide +kernel
theorem d_La_law_290 : decode code 290 = .ok (.aload_n 2, 1) := by decide +kernel
theorem d_La_law_291 : decode code 291 = .ok (.aload_n 0, 1) := by decide +kernel
theorem d_La_law_292 : decode code 292 = .ok (.iload_n 3, 1) := by decide +kernel
theorem d_La_law_293 : decode code 293 = .ok (.iconst 1, 1) := by decide +kernel
theorem d_La_law_294 : decode code 294 = .ok (.iadd, 1) := by decide +kernel
theorem d_La_law_295 : decode code 295 = .ok (.iaload, 1) := by decide +kernel
theorem d_La_law_296 : decode code 296 = .ok (.invokevirtual 31, 3) := by decide +kernel
theorem d_La_law_299 : decode code 299 = .ok (.if_icmp .eq 603, 3) := by decide +kernel
theorem d_La_law_302 : decode code 302 = .ok (.iconst 0, 1) := by decide +kernel
theorem d_La_law_303 : decode code 303 = .ok (.ireturn, 1) := by decide +kernel
theorem d_La_law_304 : decode code 304 = .ok (.aload_n 1, 1) := by decide +kernel
theorem d_La_law_305 : decode code 305 = .ok (.invokevirtual 32, 3) := by decide +kernel
theorem d_La_law_308 : decode code 308 = .ok (.aload_n 2, 1) := by decide +kernel
theorem d_La_law_309 : decode code 309 = .ok (.invokevirtual 36, 3) := by decide +kernel
theorem d_La_law_312 : decode code 312 = .ok (.if_icmp .eq 590, 3) := by decide +kernel
theorem d_La_law_315 : decode code 315 = .ok (.iconst 0, 1) := by decide +kernel
theorem d_La_law_316 : decode code 316 = .ok (.ireturn, 1) := by decide +kernel
theorem d_La_law_317 : decode code 317 = .ok (.aload_n 1, 1) := by decide +kernel
theorem d_La_law_318 : decode code 318 = .ok (.invokevirtual 37, 3) := by decide +kernel
theorem d_La_law_321 : decode code 321 = .ok (.aload_n 2, 1) := by decide +kernel
theorem d_La_law_322 : decode code 322 = .ok (.invokevirtual 40, 3) := by decide +kernel
theorem d_La_law_325 : decode code 325 = .ok (.if_icmp .eq 577, 3) := by decide +kernel
theorem d_La_law_328 : decode code 328 = .ok (.iconst 0, 1) := by decide +kernel
theorem d_La_law_329 : decode code 329 = .ok (.ireturn, 1) := by decide +kernel
theorem d_La_law_330 : decode code 330 = .ok (.aload_n 1, 1) := by decide +kernel
theorem d_La_law_331 : decode code 331 = .ok (.aload_n 0, 1) := by decide +kernel
theorem d_La_law_332 : decode code 332 = .ok (.iload_n 3, 1) := by decide +kernel
theorem d_La_law_333 : decode code 333 = .ok (.iconst 1, 1) := by decide +kernel
theorem d_La_law_334 : decode code 334 = .ok (.iadd, 1) := by decide +kernel
theorem d_La_law_335 : decode code 335 = .ok (.iaload, 1) := by decide +kernel
theorem d_La_law_336 : decode code 336 = .ok (.invokevirtual 41, 3) := by decide +kernel
theorem d_La_law_339 : decode code 339 = .ok (.aload_n 2, 1) := by decide +kernel
theorem d_La_law_340 : decode code 340 = .ok (.aload_n 0, 1) := by decide +kernel
theorem d_La_law_341 : decode code 341 = .ok (.iload_n 3, 1) := by decide +kernel
theorem d_La_law_342 : decode code 342 = .ok (.iconst 1, 1) := by decide +kernel
theorem d_La_law_343 : decode code 343 = .ok (.iadd, 1) := by decide +kernel
theorem d_La_law_344 : decode code 344 = .ok (.iaload, 1) := by decide +kernel
theorem d_La_law_345 : decode code 345 = .ok (.invokevirtual 44, 3) := by decide +kernel
theorem d_La_law_348 : decode code 348 = .ok (.if_icmp .eq 554, 3) := by decide +kernel
theorem d_La_law_351 : decode code 351 = .ok (.iconst 0, 1) := by decide +kernel
theorem d_La_law_352 : decode code 352 = .ok (.ireturn, 1) := by decide +kernel
theorem d_La_law_353 : decode code 353 = .ok (.aload_n 1, 1) := by decide +kernel
theorem d_La_law_354 : decode code 354 = .ok (.aload_n 0, 1) := by decide +kernel
theorem d_La_law_355 : decode code 355 = .ok (.iload_n 3, 1) := by decide +kernel
theorem d_La_law_356 : decode code 356 = .ok (.iconst 1, 1) := by decide +kernel
theorem d_La_law_357 : decode code 357 = .ok (.iadd, 1) := by decide +kernel
theorem d_La_law_358 : decode code 358 = .ok (.iaload, 1) := by decide +kernel
theorem d_La_law_359 : decode code 359 = .ok (.invokevirtual 45, 3) := by decide +kernel
theorem d_La_law_362 : decode code 362 = .ok (.aload_n 2, 1) := by decide +kernel
theorem d_La_law_363 : decode code 363 = .ok (.aload_n 0, 1) := by decide +kernel
theorem d_La_law_364 : decode code 364 = .ok (.iload_n 3, 1) := by decide +kernel
theorem d_La_law_365 : decode code 365 = .ok (.iconst 1, 1) := by decide +kernel
theorem d_La_law_366 : decode code 366 = .ok (.iadd, 1) := by decide +kernel
theorem d_La_law_367 : decode code 367 = .ok (.iaload, 1) := by decide +kernel
theorem d_La_law_368 : decode code 368 = .ok (.invokevirtual 48, 3) := by decide +kernel
theorem d_La_law_371 : decode code 371 = .ok (.if_icmp .eq 531, 3) := by decide +kernel
theorem d_La_law_374 : decode code 374 = .ok (.iconst 0, 1) := by decide +kernel
theorem d_La_law_375 : decode code 375 = .ok (.ireturn, 1) := by decide +kernel
theorem d_La_law_376 : decode code 376 = .ok (.aload_n 1, 1) := by decide +kernel
theorem d_La_law_377 : decode code 377 = .ok (.aload_n 0, 1) := by decide +kernel
theorem d_La_law_378 : decode code 378 = .ok (.iload_n 3, 1) := by decide +kernel
theorem d_La_law_379 : decode code 379 = .ok (.iconst 1, 1) := by decide +kernel
theorem d_La_law_380 : decode code 380 = .ok (.iadd, 1) := by decide +kernel
theorem d_La_law_381 : decode code 381 = .ok (.iaload, 1) := by decide +kernel
theorem d_La_law_382 : decode code 382 = .ok (.invokevirtual 49, 3) := by decide +kernel
theorem d_La_law_385 : decode code 385 = .ok (.aload_n 2, 1) := by decide +kernel
theorem d_La_law_386 : decode code 386 = .ok (.aload_n 0, 1) := by decide +kernel
theorem d_La_law_387 : decode code 387 = .ok (.iload_n 3, 1) := by decide +kernel
theorem d_La_law_388 : decode code 388 = .ok (.iconst 1, 1) := by decide +kernel
theorem d_La_law_389 : decode code 389 = .ok (.iadd, 1) := by decide +kernel
theorem d_La_law_390 : decode code 390 = .ok (.iaload, 1) := by decide +kernel
theorem d_La_law_391 : decode code 391 = .ok (.invokevirtual 52, 3) := by decide +kernel
theorem d_La_law_394 : decode code 394 = .ok (.if_icmp .eq 508, 3) := by decide +kernel
theorem d_La_law_397 : decode code 397 = .ok (.iconst 0, 1) := by decide +kernel
theorem d_La_law_398 : decode code 398 = .ok (.ireturn, 1) := by decide +kernel
theorem d_La_law_399 : decode code 399 = .ok (.aload_n 1, 1) := by decide +kernel
theorem d_La_law_400 : decode code 400 = .ok (.aload_n 0, 1) := by decide +kernel
theorem d_La_law_401 : decode code 401 = .ok (.iload_n 3, 1) := by decide +kernel
theorem d_La_law_402 : decode code 402 = .ok (.iconst 1, 1) := by decide +kernel
theorem d_La_law_403 : decode code 403 = .ok (.iadd, 1) := by decide +kernel
theorem d_La_law_404 : decode code 404 = .ok (.iaload, 1) := by decide +kernel
theorem d_La_law_405 : decode code 405 = .ok (.aload_n 0, 1) := by decide +kernel
theorem d_La_law_406 : decode code 406 = .ok (.iload_n 3, 1) := by decide +kernel
theorem d_La_law_407 : decode code 407 = .ok (.iconst 2, 1) := by decide +kernel
theorem d_La_law_408 : decode code 408 = .ok (.iadd, 1) := by decide +kernel
theorem d_La_law_409 : decode code 409 = .ok (.iaload, 1) := by decide +kernel
theorem d_La_law_410 : decode code 410 = .ok (.aload_n 0, 1) := by decide +kernel
theorem d_La_law_411 : decode code 411 = .ok (.iload_n 3, 1) := by decide +kernel
theorem d_La_law_412 : decode code 412 = .ok (.iconst 3, 1) := by decide +kernel
theorem d_La_law_413 : decode code 413 = .ok (.iadd, 1) := by decide +kernel
theorem d_La_law_414 : decode code 414 = .ok (.iaload, 1) := by decide +kernel
theorem d_La_law_415 : decode code 415 = .ok (.aload_n 0, 1) := by decide +kernel
theorem d_La_law_416 : decode code 416 = .ok (.iload_n 3, 1) := by decide +kernel
theorem d_La_law_417 : decode code 417 = .ok (.iconst 4, 1) := by decide +kernel
theorem d_La_law_418 : decode code 418 = .ok (.iadd, 1) := by decide +kernel
theorem d_La_law_419 : decode code 419 = .ok (.iaload, 1) := by decide +kernel
theorem d_La_law_420 : decode code 420 = .ok (.aload_n 0, 1) := by decide +kernel
theorem d_La_law_421 : decode code 421 = .ok (.iload_n 3, 1) := by decide +kernel
theorem d_La_law_422 : decode code 422 = .ok (.iconst 5, 1) := by decide +kernel
theorem d_La_law_423 : decode code 423 = .ok (.iadd, 1) := by decide +kernel
theorem d_La_law_424 : decode code 424 = .ok (.iaload, 1) := by decide +kernel
theorem d_La_law_425 : decode code 425 = .ok (.aload_n 0, 1) := by decide +kernel
theorem d_La_law_426 : decode code 426 = .ok (.iload_n 3, 1) := by decide +kernel
theorem d_La_law_427 : decode code 427 = .ok (.bipush 6, 2) := by decide +kernel
theorem d_La_law_429 : decode code 429 = .ok (.iadd, 1) := by decide +kernel
theorem d_La_law_430 : decode code 430 = .ok (.iaload, 1) := by decide +kernel
theorem d_La_law_431 : decode code 431 = .ok (.invokevirtual 53, 3) := by decide +kernel
theorem d_La_law_434 : decode code 434 = .ok (.aload_n 2, 1) := by decide +kernel
theorem d_La_law_435 : decode code 435 = .ok (.aload_n 0, 1) := by decide +kernel
theorem d_La_law_436 : decode code 436 = .ok (.iload_n 3, 1) := by decide +kernel
theorem d_La_law_437 : decode code 437 = .ok (.iconst 1, 1) := by decide +kernel
theorem d_La_law_438 : decode code 438 = .ok (.iadd, 1) := by decide +kernel
theorem d_La_law_439 : decode code 439 = .ok (.iaload, 1) := by decide +kernel
theorem d_La_law_440 : decode code 440 = .ok (.aload_n 0, 1) := by decide +kernel
theorem d_La_law_441 : decode code 441 = .ok (.iload_n 3, 1) := by decide +kernel
theorem d_La_law_442 : decode code 442 = .ok (.iconst 2, 1) := by decide +kernel
theorem d_La_law_443 : decode code 443 = .ok (.iadd, 1) := by decide +kernel
theorem d_La_law_444 : decode code 444 = .ok (.iaload, 1) := by decide +kernel
theorem d_La_law_445 : decode code 445 = .ok (.aload_n 0, 1) := by decide +kernel
theorem d_La_law_446 : decode code 446 = .ok (.iload_n 3, 1) := by decide +kernel
theorem d_La_law_447 : decode code 447 = .ok (.iconst 3, 1) := by decide +kernel
theorem d_La_law_448 : decode code 448 = .ok (.iadd, 1) := by decide +kernel
theorem d_La_law_449 : decode code 449 = .ok (.iaload, 1) := by decide +kernel
theorem d_La_law_450 : decode code 450 = .ok (.aload_n 0, 1) := by decide +kernel
theorem d_La_law_451 : decode code 451 = .ok (.iload_n 3, 1) := by decide +kernel
theorem d_La_law_452 : decode code 452 = .ok (.iconst 4, 1) := by decide +kernel
theorem d_La_law_453 : decode code 453 = .ok (.iadd, 1) := by decide +kernel
theorem d_La_law_454 : decode code 454 = .ok (.iaload, 1) := by decide +kernel
theorem d_La_law_455 : decode code 455 = .ok (.aload_n 0, 1) := by decide +kernel
theorem d_La_law_456 : decode code 456 = .ok (.iload_n 3, 1) := by decide +kernel
theorem d_La_law_457 : decode code 457 = .ok (.iconst 5, 1) := by decide +kernel
theorem d_La_law_458 : decode code 458 = .ok (.iadd, 1) := by decide +kernel
theorem d_La_law_459 : decode code 459 = .ok (.iaload, 1) := by decide +kernel
theorem d_La_law_460 : decode code 460 = .ok (.aload_n 0, 1) := by decide +kernel
theorem d_La_law_461 : decode code 461 = .ok (.iload_n 3, 1) := by decide +kernel
theorem d_La_law_462 : decode code 462 = .ok (.bipush 6, 2) := by decide +kernel
theorem d_La_law_464 : decode code 464 = .ok (.iadd, 1) := by decide +kernel
theorem d_La_law_465 : decode code 465 = .ok (.iaload, 1) := by decide +kernel
theorem d_La_law_466 : decode code 466 = .ok (.invokevirtual 57, 3) := by decide +kernel
theorem d_La_law_469 : decode code 469 = .ok (.if_icmp .eq 433, 3) := by decide +kernel
theorem d_La_law_472 : decode code 472 = .ok (.iconst 0, 1) := by decide +kernel
theorem d_La_law_473 : decode code 473 = .ok (.ireturn, 1) := by decide +kernel
theorem d_La_law_474 : decode code 474 = .ok (.aload_n 1, 1) := by decide +kernel
theorem d_La_law_475 : decode code 475 = .ok (.aload_n 0, 1) := by decide +kernel
theorem d_La_law_476 : decode code 476 = .ok (.iload_n 3, 1) := by decide +kernel
theorem d_La_law_477 : decode code 477 = .ok (.iconst 1, 1) := by decide +kernel
theorem d_La_law_478 : decode code 478 = .ok (.iadd, 1) := by decide +kernel
theorem d_La_law_479 : decode code 479 = .ok (.iaload, 1) := by decide +kernel
theorem d_La_law_480 : decode code 480 = .ok (.invokevirtual 58, 3) := by decide +kernel
theorem d_La_law_483 : decode code 483 = .ok (.aload_n 2, 1) := by decide +kernel
theorem d_La_law_484 : decode code 484 = .ok (.aload_n 0, 1) := by decide +kernel
theorem d_La_law_485 : decode code 485 = .ok (.iload_n 3, 1) := by decide +kernel
theorem d_La_law_486 : decode code 486 = .ok (.iconst 1, 1) := by decide +kernel
theorem d_La_law_487 : decode code 487 = .ok (.iadd, 1) := by decide +kernel
theorem d_La_law_488 : decode code 488 = .ok (.iaload, 1) := by decide +kernel
theorem d_La_law_489 : decode code 489 = .ok (.invokevirtual 61, 3) := by decide +kernel
theorem d_La_law_492 : decode code 492 = .ok (.if_icmp .eq 410, 3) := by decide +kernel
theorem d_La_law_495 : decode code 495 = .ok (.iconst 0, 1) := by decide +kernel
theorem d_La_law_496 : decode code 496 = .ok (.ireturn, 1) := by decide +kernel
theorem d_La_law_497 : decode code 497 = .ok (.aload_n 1, 1) := by decide +kernel
theorem d_La_law_498 : decode code 498 = .ok (.aload_n 0, 1) := by decide +kernel
theorem d_La_law_499 : decode code 499 = .ok (.iload_n 3, 1) := by decide +kernel
theorem d_La_law_500 : decode code 500 = .ok (.iconst 1, 1) := by decide +kernel
theorem d_La_law_501 : decode code 501 = .ok (.iadd, 1) := by decide +kernel
theorem d_La_law_502 : decode code 502 = .ok (.iaload, 1) := by decide +kernel
theorem d_La_law_503 : decode code 503 = .ok (.aload_n 0, 1) := by decide +kernel
theorem d_La_law_504 : decode code 504 = .ok (.iload_n 3, 1) := by decide +kernel
theorem d_La_law_505 : decode code 505 = .ok (.iconst 2, 1) := by decide +kernel
theorem d_La_law_506 : decode code 506 = .ok (.iadd, 1) := by decide +kernel
theorem d_La_law_507 : decode code 507 = .ok (.iaload, 1) := by decide +kernel
theorem d_La_law_508 : decode code 508 = .ok (.aload_n 0, 1) := by decide +kernel
theorem d_La_law_509 : decode code 509 = .ok (.iload_n 3, 1) := by decide +kernel
theorem d_La_law_510 : decode code 510 = .ok (.iconst 3, 1) := by decide +kernel
theorem d_La_law_511 : decode code 511 = .ok (.iadd, 1) := by decide +kernel
theorem d_La_law_512 : decode code 512 = .ok (.iaload, 1) := by decide +kernel
theorem d_La_law_513 : decode code 513 = .ok (.invokevirtual 62, 3) := by decide +kernel
theorem d_La_law_516 : decode code 516 = .ok (.aload_n 2, 1) := by decide +kernel
theorem d_La_law_517 : decode code 517 = .ok (.aload_n 0, 1) := by decide +kernel
theorem d_La_law_518 : decode code 518 = .ok (.iload_n 3, 1) := by decide +kernel
theorem d_La_law_519 : decode code 519 = .ok (.iconst 1, 1) := by decide +kernel
theorem d_La_law_520 : decode code 520 = .ok (.iadd, 1) := by decide +kernel
theorem d_La_law_521 : decode code 521 = .ok (.iaload, 1) := by decide +kernel
theorem d_La_law_522 : decode code 522 = .ok (.aload_n 0, 1) := by decide +kernel
theorem d_La_law_523 : decode code 523 = .ok (.iload_n 3, 1) := by decide +kernel
theorem d_La_law_524 : decode code 524 = .ok (.iconst 2, 1) := by decide +kernel
theorem d_La_law_525 : decode code 525 = .ok (.iadd, 1) := by decide +kernel
theorem d_La_law_526 : decode code 526 = .ok (.iaload, 1) := by decide +kernel
theorem d_La_law_527 : decode code 527 = .ok (.aload_n 0, 1) := by decide +kernel
theorem d_La_law_528 : decode code 528 = .ok (.iload_n 3, 1) := by decide +kernel
theorem d_La_law_529 : decode code 529 = .ok (.iconst 3, 1) := by decide +kernel
theorem d_La_law_530 : decode code 530 = .ok (.iadd, 1) := by decide +kernel
theorem d_La_law_531 : decode code 531 = .ok (.iaload, 1) := by decide +kernel
theorem d_La_law_532 : decode code 532 = .ok (.invokevirtual 65, 3) := by decide +kernel
theorem d_La_law_535 : decode code 535 = .ok (.if_icmp .eq 367, 3) := by decide +kernel
theorem d_La_law_538 : decode code 538 = .ok (.iconst 0, 1) := by decide +kernel
theorem d_La_law_539 : decode code 539 = .ok (.ireturn, 1) := by decide +kernel
theorem d_La_law_540 : decode code 540 = .ok (.aload_n 1, 1) := by decide +kernel
theorem d_La_law_541 : decode code 541 = .ok (.aload_n 0, 1) := by decide +kernel
theorem d_La_law_542 : decode code 542 = .ok (.iload_n 3, 1) := by decide +kernel
theorem d_La_law_543 : decode code 543 = .ok (.iconst 1, 1) := by decide +kernel
theorem d_La_law_544 : decode code 544 = .ok (.iadd, 1) := by decide +kernel
theorem d_La_law_545 : decode code 545 = .ok (.iaload, 1) := by decide +kernel
theorem d_La_law_546 : decode code 546 = .ok (.invokevirtual 66, 3) := by decide +kernel
theorem d_La_law_549 : decode code 549 = .ok (.aload_n 2, 1) := by decide +kernel
theorem d_La_law_550 : decode code 550 = .ok (.aload_n 0, 1) := by decide +kernel
theorem d_La_law_551 : decode code 551 = .ok (.iload_n 3, 1) := by decide +kernel
theorem d_La_law_552 : decode code 552 = .ok (.iconst 1, 1) := by decide +kernel
theorem d_La_law_553 : decode code 553 = .ok (.iadd, 1) := by decide +kernel
theorem d_La_law_554 : decode code 554 = .ok (.iaload, 1) := by decide +kernel
theorem d_La_law_555 : decode code 555 = .ok (.invokevirtual 69, 3) := by decide +kernel
theorem d_La_law_558 : decode code 558 = .ok (.if_icmp .eq 344, 3) := by decide +kernel
theorem d_La_law_561 : decode code 561 = .ok (.iconst 0, 1) := by decide +kernel
theorem d_La_law_562 : decode code 562 = .ok (.ireturn, 1) := by decide +kernel
theorem d_La_law_563 : decode code 563 = .ok (.aload_n 1, 1) := by decide +kernel
theorem d_La_law_564 : decode code 564 = .ok (.aload_n 0, 1) := by decide +kernel
theorem d_La_law_565 : decode code 565 = .ok (.iload_n 3, 1) := by decide +kernel
theorem d_La_law_566 : decode code 566 = .ok (.iconst 1, 1) := by decide +kernel
theorem d_La_law_567 : decode code 567 = .ok (.iadd, 1) := by decide +kernel
theorem d_La_law_568 : decode code 568 = .ok (.iaload, 1) := by decide +kernel
theorem d_La_law_569 : decode code 569 = .ok (.aload_n 0, 1) := by decide +kernel
theorem d_La_law_570 : decode code 570 = .ok (.iload_n 3, 1) := by decide +kernel
theorem d_La_law_571 : decode code 571 = .ok (.iconst 2, 1) := by decide +kernel
theorem d_La_law_572 : decode code 572 = .ok (.iadd, 1) := by decide +kernel
theorem d_La_law_573 : decode code 573 = .ok (.iaload, 1) := by decide +kernel
theorem d_La_law_574 : decode code 574 = .ok (.invokevirtual 70, 3) := by decide +kernel
theorem d_La_law_577 : decode code 577 = .ok (.aload_n 2, 1) := by decide +kernel
theorem d_La_law_578 : decode code 578 = .ok (.aload_n 0, 1) := by decide +kernel
theorem d_La_law_579 : decode code 579 = .ok (.iload_n 3, 1) := by decide +kernel
theorem d_La_law_580 : decode code 580 = .ok (.iconst 1, 1) := by decide +kernel
theorem d_La_law_581 : decode code 581 = .ok (.iadd, 1) := by decide +kernel
theorem d_La_law_582 : decode code 582 = .ok (.iaload, 1) := by decide +kernel
theorem d_La_law_583 : decode code 583 = .ok (.aload_n 0, 1) := by decide +kernel
theorem d_La_law_584 : decode code 584 = .ok (.iload_n 3, 1) := by decide +kernel
theorem d_La_law_585 : decode code 585 = .ok (.iconst 2, 1) := by decide +kernel
theorem d_La_law_586 : decode code 586 = .ok (.iadd, 1) := by decide +kernel
theorem d_La_law_587 : decode code 587 = .ok (.iaload, 1) := by decide +kernel
theorem d_La_law_588 : decode code 588 = .ok (.invokevirtual 74, 3) := by decide +kernel
theorem d_La_law_591 : decode code 591 = .ok (.if_icmp .eq 311, 3) := by decide +kernel
theorem d_La_law_594 : decode code 594 = .ok (.iconst 0, 1) := by decide +kernel
theorem d_La_law_595 : decode code 595 = .ok (.ireturn, 1) := by decide +kernel
theorem d_La_law_596 : decode code 596 = .ok (.aload_n 1, 1) := by decide +kernel
theorem d_La_law_597 : decode code 597 = .ok (.aload_n 0, 1) := by decide +kernel
theorem d_La_law_598 : decode code 598 = .ok (.iload_n 3, 1) := by decide +kernel
theorem d_La_law_599 : decode code 599 = .ok (.iconst 1, 1) := by decide +kernel
theorem d_La_law_600 : decode code 600 = .ok (.iadd, 1) := by decide +kernel
theorem d_La_law_601 : decode code 601 = .ok (.iaload, 1) := by decide +kernel
theorem d_La_law_602 : decode code 602 = .ok (.invokevirtual 75, 3) := by decide +kernel
theorem d_La_law_605 : decode code 605 = .ok (.aload_n 2, 1) := by decide +kernel
theorem d_La_law_606 : decode code 606 = .ok (.aload_n 0, 1) := by decide +kernel
theorem d_La_law_607 : decode code 607 = .ok (.iload_n 3, 1) := by decide +kernel
theorem d_La_law_608 : decode code 608 = .ok (.iconst 1, 1) := by decide +kernel
theorem d_La_law_609 : decode code 609 = .ok (.iadd, 1) := by decide +kernel
theorem d_La_law_610 : decode code 610 = .ok (.iaload, 1) := by decide +kernel
theorem d_La_law_611 : decode code 611 = .ok (.invokevirtual 78, 3) := by decide +kernel
theorem d_La_law_614 : decode code 614 = .ok (.if_icmp .eq 288, 3) := by decide +kernel
theorem d_La_law_617 : decode code 617 = .ok (.iconst 0, 1) := by decide +kernel
theorem d_La_law_618 : decode code 618 = .ok (.ireturn, 1) := by decide +kernel
theorem d_La_law_619 : decode code 619 = .ok (.aload_n 1, 1) := by decide +kernel
theorem d_La_law_620 : decode code 620 = .ok (.aload_n 0, 1) := by decide +kernel
theorem d_La_law_621 : decode code 621 = .ok (.iload_n 3, 1) := by decide +kernel
theorem d_La_law_622 : decode code 622 = .ok (.iconst 1, 1) := by decide +kernel
theorem d_La_law_623 : decode code 623 = .ok (.iadd, 1) := by decide +kernel
theorem d_La_law_624 : decode code 624 = .ok (.iaload, 1) := by decide +kernel
theorem d_La_law_625 : decode code 625 = .ok (.aload_n 0, 1) := by decide +kernel
theorem d_La_law_626 : decode code 626 = .ok (.iload_n 3, 1) := by decide +kernel
theorem d_La_law_627 : decode code 627 = .ok (.iconst 2, 1) := by decide +kernel
theorem d_La_law_628 : decode code 628 = .ok (.iadd, 1) := by decide +kernel
theorem d_La_law_629 : decode code 629 = .ok (.iaload, 1) := by decide +kernel
theorem d_La_law_630 : decode code 630 = .ok (.invokevirtual 79, 3) := by decide +kernel
theorem d_La_law_633 : decode code 633 = .ok (.aload_n 2, 1) := by decide +kernel
theorem d_La_law_634 : decode code 634 = .ok (.aload_n 0, 1) := by decide +kernel
theorem d_La_law_635 : decode code 635 = .ok (.iload_n 3, 1) := by decide +kernel
theorem d_La_law_636 : decode code 636 = .ok (.iconst 1, 1) := by decide +kernel
theorem d_La_law_637 : decode code 637 = .ok (.iadd, 1) := by decide +kernel
theorem d_La_law_638 : decode code 638 = .ok (.iaload, 1) := by decide +kernel
theorem d_La_law_639 : decode code 639 = .ok (.aload_n 0, 1) := by decide +kernel
theorem d_La_law_640 : decode code 640 = .ok (.iload_n 3, 1) := by decide +kernel
theorem d_La_law_641 : decode code 641 = .ok (.iconst 2, 1) := by decide +kernel
theorem d_La_law_642 : decode code 642 = .ok (.iadd, 1) := by decide +kernel
theorem d_La_law_643 : decode code 643 = .ok (.iaload, 1) := by decide +kernel
theorem d_La_law_644 : decode code 644 = .ok (.invokevirtual 82, 3) := by decide +kernel
theorem d_La_law_647 : decode code 647 = .ok (.if_icmp .eq 255, 3) := by decide +kernel
theorem d_La_law_650 : decode code 650 = .ok (.iconst 0, 1) := by decide +kernel
theorem d_La_law_651 : decode code 651 = .ok (.ireturn, 1) := by decide +kernel
theorem d_La_law_652 : decode code 652 = .ok (.aload_n 1, 1) := by decide +kernel
theorem d_La_law_653 : decode code 653 = .ok (.aload_n 0, 1) := by decide +kernel
theorem d_La_law_654 : decode code 654 = .ok (.iload_n 3, 1) := by decide +kernel
theorem d_La_law_655 : decode code 655 = .ok (.iconst 1, 1) := by decide +kernel
theorem d_La_law_656 : decode code 656 = .ok (.iadd, 1) := by decide +kernel
theorem d_La_law_657 : decode code 657 = .ok (.iaload, 1) := by decide +kernel
theorem d_La_law_658 : decode code 658 = .ok (.aload_n 0, 1) := by decide +kernel
theorem d_La_law_659 : decode code 659 = .ok (.iload_n 3, 1) := by decide +kernel
theorem d_La_law_660 : decode code 660 = .ok (.iconst 2, 1) := by decide +kernel
theorem d_La_law_661 : decode code 661 = .ok (.iadd, 1) := by decide +kernel
theorem d_La_law_662 : decode code 662 = .ok (.iaload, 1) := by decide +kernel
theorem d_La_law_663 : decode code 663 = .ok (.aload_n 0, 1) := by decide +kernel
theorem d_La_law_664 : decode code 664 = .ok (.iload_n 3, 1) := by decide +kernel
theorem d_La_law_665 : decode code 665 = .ok (.iconst 3, 1) := by decide +kernel
theorem d_La_law_666 : decode code 666 = .ok (.iadd, 1) := by decide +kernel
theorem d_La_law_667 : decode code 667 = .ok (.iaload, 1) := by decide +kernel
theorem d_La_law_668 : decode code 668 = .ok (.aload_n 0, 1) := by decide +kernel
theorem d_La_law_669 : decode code 669 = .ok (.iload_n 3, 1) := by decide +kernel
theorem d_La_law_670 : decode code 670 = .ok (.iconst 4, 1) := by decide +kernel
theorem d_La_law_671 : decode code 671 = .ok (.iadd, 1) := by decide +kernel
theorem d_La_law_672 : decode code 672 = .ok (.iaload, 1) := by decide +kernel
theorem d_La_law_673 : decode code 673 = .ok (.aload_n 0, 1) := by decide +kernel
theorem d_La_law_674 : decode code 674 = .ok (.iload_n 3, 1) := by decide +kernel
theorem d_La_law_675 : decode code 675 = .ok (.iconst 5, 1) := by decide +kernel
theorem d_La_law_676 : decode code 676 = .ok (.iadd, 1) := by decide +kernel
theorem d_La_law_677 : decode code 677 = .ok (.iaload, 1) := by decide +kernel
theorem d_La_law_678 : decode code 678 = .ok (.invokevirtual 83, 3) := by decide +kernel
theorem d_La_law_681 : decode code 681 = .ok (.aload_n 2, 1) := by decide +kernel
theorem d_La_law_682 : decode code 682 = .ok (.aload_n 0, 1) := by decide +kernel
theorem d_La_law_683 : decode code 683 = .ok (.iload_n 3, 1) := by decide +kernel
theorem d_La_law_684 : decode code 684 = .ok (.iconst 1, 1) := by decide +kernel
theorem d_La_law_685 : decode code 685 = .ok (.iadd, 1) := by decide +kernel
theorem d_La_law_686 : decode code 686 = .ok (.iaload, 1) := by decide +kernel
theorem d_La_law_687 : decode code 687 = .ok (.aload_n 0, 1) := by decide +kernel
theorem d_La_law_688 : decode code 688 = .ok (.iload_n 3, 1) := by decide +kernel
theorem d_La_law_689 : decode code 689 = .ok (.iconst 2, 1) := by decide +kernel
theorem d_La_law_690 : decode code 690 = .ok (.iadd, 1) := by decide +kernel
theorem d_La_law_691 : decode code 691 = .ok (.iaload, 1) := by decide +kernel
theorem d_La_law_692 : decode code 692 = .ok (.aload_n 0, 1) := by decide +kernel
theorem d_La_law_693 : decode code 693 = .ok (.iload_n 3, 1) := by decide +kernel
theorem d_La_law_694 : decode code 694 = .ok (.iconst 3, 1) := by decide +kernel
theorem d_La_law_695 : decode code 695 = .ok (.iadd, 1) := by decide +kernel
theorem d_La_law_696 : decode code 696 = .ok (.iaload, 1) := by decide +kernel
theorem d_La_law_697 : decode code 697 = .ok (.aload_n 0, 1) := by decide +kernel
theorem d_La_law_698 : decode code 698 = .ok (.iload_n 3, 1) := by decide +kernel
theorem d_La_law_699 : decode code 699 = .ok (.iconst 4, 1) := by decide +kernel
theorem d_La_law_700 : decode code 700 = .ok (.iadd, 1) := by decide +kernel
theorem d_La_law_701 : decode code 701 = .ok (.iaload, 1) := by decide +kernel
theorem d_La_law_702 : decode code 702 = .ok (.aload_n 0, 1) := by decide +kernel
theorem d_La_law_703 : decode code 703 = .ok (.iload_n 3, 1) := by decide +kernel
theorem d_La_law_704 : decode code 704 = .ok (.iconst 5, 1) := by decide +kernel
theorem d_La_law_705 : decode code 705 = .ok (.iadd, 1) := by decide +kernel
theorem d_La_law_706 : decode code 706 = .ok (.iaload, 1) := by decide +kernel
theorem d_La_law_707 : decode code 707 = .ok (.invokevirtual 86, 3) := by decide +kernel
theorem d_La_law_710 : decode code 710 = .ok (.if_icmp .eq 192, 3) := by decide +kernel
theorem d_La_law_713 : decode code 713 = .ok (.iconst 0, 1) := by decide +kernel
theorem d_La_law_714 : decode code 714 = .ok (.ireturn, 1) := by decide +kernel
theorem d_La_law_715 : decode code 715 = .ok (.aload_n 1, 1) := by decide +kernel
theorem d_La_law_716 : decode code 716 = .ok (.aload_n 0, 1) := by decide +kernel
theorem d_La_law_717 : decode code 717 = .ok (.iload_n 3, 1) := by decide +kernel
theorem d_La_law_718 : decode code 718 = .ok (.iconst 1, 1) := by decide +kernel
theorem d_La_law_719 : decode code 719 = .ok (.iadd, 1) := by decide +kernel
theorem d_La_law_720 : decode code 720 = .ok (.iaload, 1) := by decide +kernel
theorem d_La_law_721 : decode code 721 = .ok (.invokevirtual 87, 3) := by decide +kernel
theorem d_La_law_724 : decode code 724 = .ok (.aload_n 2, 1) := by decide +kernel
theorem d_La_law_725 : decode code 725 = .ok (.aload_n 0, 1) := by decide +kernel
theorem d_La_law_726 : decode code 726 = .ok (.iload_n 3, 1) := by decide +kernel
theorem d_La_law_727 : decode code 727 = .ok (.iconst 1, 1) := by decide +kernel
theorem d_La_law_728 : decode code 728 = .ok (.iadd, 1) := by decide +kernel
theorem d_La_law_729 : decode code 729 = .ok (.iaload, 1) := by decide +kernel
theorem d_La_law_730 : decode code 730 = .ok (.invokevirtual 90, 3) := by decide +kernel
theorem d_La_law_733 : decode code 733 = .ok (.if_icmp .eq 169, 3) := by decide +kernel
theorem d_La_law_736 : decode code 736 = .ok (.iconst 0, 1) := by decide +kernel
theorem d_La_law_737 : decode code 737 = .ok (.ireturn, 1) := by decide +kernel
theorem d_La_law_738 : decode code 738 = .ok (.aload_n 1, 1) := by decide +kernel
theorem d_La_law_739 : decode code 739 = .ok (.aload_n 0, 1) := by decide +kernel
theorem d_La_law_740 : decode code 740 = .ok (.iload_n 3, 1) := by decide +kernel
theorem d_La_law_741 : decode code 741 = .ok (.iconst 1, 1) := by decide +kernel
theorem d_La_law_742 : decode code 742 = .ok (.iadd, 1) := by decide +kernel
theorem d_La_law_743 : decode code 743 = .ok (.iaload, 1) := by decide +kernel
theorem d_La_law_744 : decode code 744 = .ok (.aload_n 0, 1) := by decide +kernel
theorem d_La_law_745 : decode code 745 = .ok (.iload_n 3, 1) := by decide +kernel
theorem d_La_law_746 : decode code 746 = .ok (.iconst 2, 1) := by decide +kernel
theorem d_La_law_747 : decode code 747 = .ok (.iadd, 1) := by decide +kernel
theorem d_La_law_748 : decode code 748 = .ok (.iaload, 1) := by decide +kernel
theorem d_La_law_749 : decode code 749 = .ok (.invokevirtual 91, 3) := by decide +kernel
theorem d_La_law_752 : decode code 752 = .ok (.aload_n 2, 1) := by decide +kernel
theorem d_La_law_753 : decode code 753 = .ok (.aload_n 0, 1) := by decide +kernel
theorem d_La_law_754 : decode code 754 = .ok (.iload_n 3, 1) := by decide +kernel
theorem d_La_law_755 : decode code 755 = .ok (.iconst 1, 1) := by decide +kernel
theorem d_La_law_756 : decode code 756 = .ok (.iadd, 1) := by decide +kernel
theorem d_La_law_757 : decode code 757 = .ok (.iaload, 1) := by decide +kernel
theorem d_La_law_758 : decode code 758 = .ok (.aload_n 0, 1) := by decide +kernel
theorem d_La_law_759 : decode code 759 = .ok (.iload_n 3, 1) := by decide +kernel
theorem d_La_law_760 : decode code 760 = .ok (.iconst 2, 1) := by decide +kernel
theorem d_La_law_761 : decode code 761 = .ok (.iadd, 1) := by decide +kernel
theorem d_La_law_762 : decode code 762 = .ok (.iaload, 1) := by decide +kernel
theorem d_La_law_763 : decode code 763 = .ok (.invokevirtual 94, 3) := by decide +kernel
theorem d_La_law_766 : decode code 766 = .ok (.if_icmp .eq 136, 3) := by decide +kernel
theorem d_La_law_769 : decode code 769 = .ok (.iconst 0, 1) := by decide +kernel
theorem d_La_law_770 : decode code 770 = .ok (.ireturn, 1) := by decide +kernel
theorem d_La_law_771 : decode code 771 = .ok (.aload_n 1, 1) := by decide +kernel
theorem d_La_law_772 : decode code 772 = .ok (.aload_n 0, 1) := by decide +kernel
theorem d_La_law_773 : decode code 773 = .ok (.iload_n 3, 1) := by decide +kernel
theorem d_La_law_774 : decode code 774 = .ok (.iconst 1, 1) := by decide +kernel
theorem d_La_law_775 : decode code 775 = .ok (.iadd, 1) := by decide +kernel
theorem d_La_law_776 : decode code 776 = .ok (.iaload, 1) := by decide +kernel
theorem d_La_law_777 : decode code 777 = .ok (.aload_n 0, 1) := by decide +kernel
theorem d_La_law_778 : decode code 778 = .ok (.iload_n 3, 1) := by decide +kernel
theorem d_La_law_779 : decode code 779 = .ok (.iconst 2, 1) := by decide +kernel
theorem d_La_law_780 : decode code 780 = .ok (.iadd, 1) := by decide +kernel
theorem d_La_law_781 : decode code 781 = .ok (.iaload, 1) := by decide +kernel
theorem d_La_law_782 : decode code 782 = .ok (.invokevirtual 95, 3) := by decide +kernel
theorem d_La_law_785 : decode code 785 = .ok (.aload_n 2, 1) := by decide +kernel
theorem d_La_law_786 : decode code 786 = .ok (.aload_n 0, 1) := by decide +kernel
theorem d_La_law_787 : decode code 787 = .ok (.iload_n 3, 1) := by decide +kernel
theorem d_La_law_788 : decode code 788 = .ok (.iconst 1, 1) := by decide +kernel
theorem d_La_law_789 : decode code 789 = .ok (.iadd, 1) := by decide +kernel
theorem d_La_law_790 : decode code 790 = .ok (.iaload, 1) := by decide +kernel
theorem d_La_law_791 : decode code 791 = .ok (.aload_n 0, 1) := by decide +kernel
theorem d_La_law_792 : decode code 792 = .ok (.iload_n 3, 1) := by decide +kernel
theorem d_La_law_793 : decode code 793 = .ok (.iconst 2, 1) := by decide +kernel
theorem d_La_law_794 : decode code 794 = .ok (.iadd, 1) := by decide +kernel
theorem d_La_law_795 : decode code 795 = .ok (.iaload, 1) := by decide +kernel
theorem d_La_law_796 : decode code 796 = .ok (.invokevirtual 98, 3) := by decide +kernel
theorem d_La_law_799 : decode code 799 = .ok (.if_icmp .eq 103, 3) := by decide +kernel
theorem d_La_law_802 : decode code 802 = .ok (.iconst 0, 1) := by decide +kernel
theorem d_La_law_803 : decode code 803 = .ok (.ireturn, 1) := by decide +kernel
theorem d_La_law_804 : decode code 804 = .ok (.aload_n 1, 1) := by decide +kernel
theorem d_La_law_805 : decode code 805 = .ok (.invokevirtual 99, 3) := by decide +kernel
theorem d_La_law_808 : decode code 808 = .ok (.aload_n 2, 1) := by decide +kernel
theorem d_La_law_809 : decode code 809 = .ok (.invokevirtual 102, 3) := by decide +kernel
theorem d_La_law_812 : decode code 812 = .ok (.if_icmp .eq 90, 3) := by decide +kernel
theorem d_La_law_815 : decode code 815 = .ok (.iconst 0, 1) := by decide +kernel
theorem d_La_law_816 : decode code 816 = .ok (.ireturn, 1) := by decide +kernel
theorem d_La_law_817 : decode code 817 = .ok (.aload_n 1, 1) := by decide +kernel
theorem d_La_law_818 : decode code 818 = .ok (.aload_n 0, 1) := by decide +kernel
theorem d_La_law_819 : decode code 819 = .ok (.iload_n 3, 1) := by decide +kernel
theorem d_La_law_820 : decode code 820 = .ok (.iconst 1, 1) := by decide +kernel
theorem d_La_law_821 : decode code 821 = .ok (.iadd, 1) := by decide +kernel
theorem d_La_law_822 : decode code 822 = .ok (.iaload, 1) := by decide +kernel
theorem d_La_law_823 : decode code 823 = .ok (.invokevirtual 103, 3) := by decide +kernel
theorem d_La_law_826 : decode code 826 = .ok (.aload_n 2, 1) := by decide +kernel
theorem d_La_law_827 : decode code 827 = .ok (.aload_n 0, 1) := by decide +kernel
theorem d_La_law_828 : decode code 828 = .ok (.iload_n 3, 1) := by decide +kernel
theorem d_La_law_829 : decode code 829 = .ok (.iconst 1, 1) := by decide +kernel
theorem d_La_law_830 : decode code 830 = .ok (.iadd, 1) := by decide +kernel
theorem d_La_law_831 : decode code 831 = .ok (.iaload, 1) := by decide +kernel
theorem d_La_law_832 : decode code 832 = .ok (.invokevirtual 106, 3) := by decide +kernel
theorem d_La_law_835 : decode code 835 = .ok (.if_icmp .eq 67, 3) := by decide +kernel
theorem d_La_law_838 : decode code 838 = .ok (.iconst 0, 1) := by decide +kernel
theorem d_La_law_839 : decode code 839 = .ok (.ireturn, 1) := by decide +kernel
theorem d_La_law_840 : decode code 840 = .ok (.aload_n 1, 1) := by decide +kernel
theorem d_La_law_841 : decode code 841 = .ok (.invokevirtual 107, 3) := by decide +kernel
theorem d_La_law_844 : decode code 844 = .ok (.aload_n 2, 1) := by decide +kernel
theorem d_La_law_845 : decode code 845 = .ok (.invokevirtual 110, 3) := by decide +kernel
theorem d_La_law_848 : decode code 848 = .ok (.if_icmp .eq 54, 3) := by decide +kernel
theorem d_La_law_851 : decode code 851 = .ok (.iconst 0, 1) := by decide +kernel
theorem d_La_law_852 : decode code 852 = .ok (.ireturn, 1) := by decide +kernel
theorem d_La_law_853 : decode code 853 = .ok (.aload_n 1, 1) := by decide +kernel
theorem d_La_law_854 : decode code 854 = .ok (.invokevirtual 111, 3) := by decide +kernel
theorem d_La_law_857 : decode code 857 = .ok (.aload_n 2, 1) := by decide +kernel
theorem d_La_law_858 : decode code 858 = .ok (.invokevirtual 114, 3) := by decide +kernel
theorem d_La_law_861 : decode code 861 = .ok (.if_icmp .eq 41, 3) := by decide +kernel
theorem d_La_law_864 : decode code 864 = .ok (.iconst 0, 1) := by decide +kernel
theorem d_La_law_865 : decode code 865 = .ok (.ireturn, 1) := by decide +kernel
theorem d_La_law_866 : decode code 866 = .ok (.aload_n 1, 1) := by decide +kernel
theorem d_La_law_867 : decode code 867 = .ok (.invokevirtual 115, 3) := by decide +kernel
theorem d_La_law_870 : decode code 870 = .ok (.aload_n 2, 1) := by decide +kernel
theorem d_La_law_871 : decode code 871 = .ok (.invokevirtual 118, 3) := by decide +kernel
theorem d_La_law_874 : decode code 874 = .ok (.if_icmp .eq 28, 3) := by decide +kernel
theorem d_La_law_877 : decode code 877 = .ok (.iconst 0, 1) := by decide +kernel
theorem d_La_law_878 : decode code 878 = .ok (.ireturn, 1) := by decide +kernel
theorem d_La_law_879 : decode code 879 = .ok (.aload_n 1, 1) := by decide +kernel
theorem d_La_law_880 : decode code 880 = .ok (.aload_n 0, 1) := by decide +kernel
theorem d_La_law_881 : decode code 881 = .ok (.iload_n 3, 1) := by decide +kernel
theorem d_La_law_882 : decode code 882 = .ok (.iconst 1, 1) := by decide +kernel
theorem d_La_law_883 : decode code 883 = .ok (.iadd, 1) := by decide +kernel
theorem d_La_law_884 : decode code 884 = .ok (.iaload, 1) := by decide +kernel
theorem d_La_law_885 : decode code 885 = .ok (.invokevirtual 119, 3) := by decide +kernel
theorem d_La_law_888 : decode code 888 = .ok (.aload_n 2, 1) := by decide +kernel
theorem d_La_law_889 : decode code 889 = .ok (.aload_n 0, 1) := by decide +kernel
theorem d_La_law_890 : decode code 890 = .ok (.iload_n 3, 1) := by decide +kernel
theorem d_La_law_891 : decode code 891 = .ok (.iconst 1, 1) := by decide +kernel
theorem d_La_law_892 : decode code 892 = .ok (.iadd, 1) := by decide +kernel
theorem d_La_law_893 : decode code 893 = .ok (.iaload, 1) := by decide +kernel
theorem d_La_law_894 : decode code 894 = .ok (.invokevirtual 122, 3) := by decide +kernel
theorem d_La_law_897 : decode code 897 = .ok (.if_icmp .eq 5, 3) := by decide +kernel
theorem d_La_law_900 : decode code 900 = .ok (.iconst 0, 1) := by decide +kernel
theorem d_La_law_901 : decode code 901 = .ok (.ireturn, 1) := by decide +kernel
theorem d_La_law_902 : decode code 902 = .ok (.iinc 3 7, 3) := by decide +kernel
theorem d_La_law_905 : decode code 905 = .ok (.goto (-887), 3) := by decide +kernel
theorem d_La_law_908 : decode code 908 = .ok (.iconst 1, 1) := by decide +kernel
theorem d_La_law_909 : decode code 909 = .ok (.ireturn, 1) := by decide +kernel
def Sc : zX → Nat → Nat → (Nat → Int32) → Prop
  | (_, _, _, _, s, _, _, _, _, _, _, _, _, _, _, A), b, Ln, xs => va_X b Ln xs s s.heap ∧ b < s.heap.size ∧ ¬ A b
def Lw : zX → Nat → Prop
  | (_, _, _, R, s, _, args, below, meth, _, cells, slots, Q, _, _, A), b => R = room_1 ∧ args = #[Value.ref b] ∧ meth.sig.returnType = ret ∧ Q = lw_Z below #[Value.ref b] s ∧ cells ≤ 600000 ∧ slots ≤ 7302250 ∧ A = fun q : Nat => s.heap.size ≤ q
section GLAW
variable {X : zX} {own : String} {cc : ByteArray} {n d : Nat} {c : zY} {w : va_W} {L : List (Nat × Value)} {pc : Nat} {st : List Value}
theorem g_sld {b Ln : Nat} {xs : Nat → Int32} {i : Int32} (hX : Ok X own cc n d c) (hs : Sc X b Ln xs) (hin : vp_in i Ln) (hd : decode cc pc = .ok (.iaload, 1)) (k : Go X w L (pc + 1) (.int (xs i.toNatClampNeg) :: st)) : Go X w L pc (.int i :: .ref b :: st) := by
  obtain ⟨p, l, e, R, s, m, args, below, meth, cd, cells, slots, Q, D, tys, A⟩ := X; obtain ⟨hx, hb, -⟩ := hX; obtain ⟨h1, h2, h3⟩ := hs; intro H locs ls hP hD hS hl
  exact va_sld hx hb h1 h2 h3 hS hin hd (k H locs ls hP hD hS hl)
theorem g_slen {b Ln : Nat} {xs : Nat → Int32} (hX : Ok X own cc n d c) (hs : Sc X b Ln xs) (hd : decode cc pc = .ok (.arraylength, 1)) (k : Go X w L (pc + 1) (.int (Int32.ofNat Ln) :: st)) : Go X w L pc (.ref b :: st) := by
  obtain ⟨p, l, e, R, s, m, args, below, meth, cd, cells, slots, Q, D, tys, A⟩ := X; obtain ⟨hx, hb, -⟩ := hX; obtain ⟨h1, h2, h3⟩ := hs; intro H locs ls hP hD hS hl
  exact va_slen hx hb h1 h2 h3 hS hd (k H locs ls hP hD hS hl)
theorem g_lret {b : Nat} (hX : Ok X own code n d c) (hL : Lw X b) (hd : decode code pc = .ok (.ireturn, 1)) : Go X w L pc [.int 1] := by
  obtain ⟨p, l, e, R, s, m, args, below, meth, cd, cells, slots, Q, D, tys, A⟩ := X; obtain ⟨hx, hb, -, -, hlk, -⟩ := hX; obtain ⟨rfl, rfl, hr, rfl, h1, h2, rfl⟩ := hL; intro H locs ls hP hD hS hl
  exact va_forget (fun q hq => hS.2.2 q hq) (W.widen h1 h2 (lw_ret hx hb hr hlk hd))
end GLAW
theorem zvin {k Ln : Nat} (hk : 7 * k + 7 ≤ Ln) (hL : Ln ≤ 3584) (j : Nat) (hj : j < 7) : vp_in (nI (7 * k) + nI j) Ln := by
  rw [nI_add]
  exact vp_in_nI (by omega) (by omega)

def OP_add (R : Nat → zsX → zsM → Prop) : Prop := ∀ (k : Nat) (x : zsX) (m : zsM) (a1 a2 a3 a4 a5 : Int32), k < 512 → R k x m → ∃ (v : Int32) (x2 : zsX) (m2 : zsM), k_EL_add x a1 a2 a3 a4 a5 = some (v, x2) ∧ k_Mo_add m a1 a2 a3 a4 a5 = some (v, m2) ∧ R (k + 1) x2 m2
def OP_wall (R : Nat → zsX → zsM → Prop) : Prop := ∀ (k : Nat) (x : zsX) (m : zsM) (a1 : Int32), k < 512 → R k x m → ∃ (v : Int32) (x2 : zsX) (m2 : zsM), k_EL_wall x a1 = some (v, x2) ∧ k_Mo_wall m a1 = some (v, m2) ∧ R (k + 1) x2 m2
def OP_amount (R : Nat → zsX → zsM → Prop) : Prop := ∀ (k : Nat) (x : zsX) (m : zsM) (a1 a2 a3 : Int32), k < 512 → R k x m → ∃ (v : Int32) (x2 : zsX) (m2 : zsM), k_EL_amount x a1 a2 a3 = some (v, x2) ∧ k_Mo_amount m a1 a2 a3 = some (v, m2) ∧ R (k + 1) x2 m2
def OP_begin (R : Nat → zsX → zsM → Prop) : Prop := ∀ (k : Nat) (x : zsX) (m : zsM) (a1 : Int32), k < 512 → R k x m → ∃ (v : Int32) (x2 : zsX) (m2 : zsM), k_EL_begin x a1 = some (v, x2) ∧ k_Mo_begin m a1 = some (v, m2) ∧ R (k + 1) x2 m2
def OP_finish (R : Nat → zsX → zsM → Prop) : Prop := ∀ (k : Nat) (x : zsX) (m : zsM), k < 512 → R k x m → ∃ (v : Int32) (x2 : zsX) (m2 : zsM), k_EL_finish x = some (v, x2) ∧ k_Mo_finish m = some (v, m2) ∧ R (k + 1) x2 m2
def OP_endTurn (R : Nat → zsX → zsM → Prop) : Prop := ∀ (k : Nat) (x : zsX) (m : zsM), k < 512 → R k x m → ∃ (v : Int32) (x2 : zsX) (m2 : zsM), k_EL_endTurn x = some (v, x2) ∧ k_Mo_endTurn m = some (v, m2) ∧ R (k + 1) x2 m2
def OP_delay (R : Nat → zsX → zsM → Prop) : Prop := ∀ (k : Nat) (x : zsX) (m : zsM) (a1 : Int32), k < 512 → R k x m → ∃ (v : Int32) (x2 : zsX) (m2 : zsM), k_EL_delay x a1 = some (v, x2) ∧ k_Mo_delay m a1 = some (v, m2) ∧ R (k + 1) x2 m2
def OP_move (R : Nat → zsX → zsM → Prop) : Prop := ∀ (k : Nat) (x : zsX) (m : zsM) (a1 : Int32), k < 512 → R k x m → ∃ (v : Int32) (x2 : zsX) (m2 : zsM), k_EL_move x a1 = some (v, x2) ∧ k_Mo_move m a1 = some (v, m2) ∧ R (k + 1) x2 m2
def OP_strike (R : Nat → zsX → zsM → Prop) : Prop := ∀ (k : Nat) (x : zsX) (m : zsM) (a1 : Int32), k < 512 → R k x m → ∃ (v : Int32) (x2 : zsX) (m2 : zsM), k_EL_strike x a1 = some (v, x2) ∧ k_Mo_strike m a1 = some (v, m2) ∧ R (k + 1) x2 m2
def OP_feed (R : Nat → zsX → zsM → Prop) : Prop := ∀ (k : Nat) (x : zsX) (m : zsM) (a1 a2 a3 a4 a5 a6 : Int32), k < 512 → R k x m → ∃ (v : Int32) (x2 : zsX) (m2 : zsM), k_EL_feed x a1 a2 a3 a4 a5 a6 = some (v, x2) ∧ k_Mo_feed m a1 a2 a3 a4 a5 a6 = some (v, m2) ∧ R (k + 1) x2 m2
def OP_power (R : Nat → zsX → zsM → Prop) : Prop := ∀ (k : Nat) (x : zsX) (m : zsM) (a1 : Int32), k < 512 → R k x m → ∃ (v : Int32) (x2 : zsX) (m2 : zsM), k_EL_power x a1 = some (v, x2) ∧ k_Mo_power m a1 = some (v, m2) ∧ R (k + 1) x2 m2
def OP_cast (R : Nat → zsX → zsM → Prop) : Prop := ∀ (k : Nat) (x : zsX) (m : zsM) (a1 a2 a3 : Int32), k < 512 → R k x m → ∃ (v : Int32) (x2 : zsX) (m2 : zsM), k_EL_cast x a1 a2 a3 = some (v, x2) ∧ k_Mo_cast m a1 a2 a3 = some (v, m2) ∧ R (k + 1) x2 m2
def OP_rest (R : Nat → zsX → zsM → Prop) : Prop := ∀ (k : Nat) (x : zsX) (m : zsM) (a1 : Int32), k < 512 → R k x m → ∃ (v : Int32) (x2 : zsX) (m2 : zsM), k_EL_rest x a1 = some (v, x2) ∧ k_Mo_rest m a1 = some (v, m2) ∧ R (k + 1) x2 m2
def OP_fighter (R : Nat → zsX → zsM → Prop) : Prop := ∀ (k : Nat) (x : zsX) (m : zsM) (a1 a2 : Int32), k < 512 → R k x m → ∃ (v : Int32), k_EL_fighter x a1 a2 = some v ∧ k_Mo_fighter m a1 a2 = some v ∧ R (k + 1) x m
def OP_turn (R : Nat → zsX → zsM → Prop) : Prop := ∀ (k : Nat) (x : zsX) (m : zsM) (a1 : Int32), k < 512 → R k x m → ∃ (v : Int32), k_EL_turn x a1 = some v ∧ k_Mo_turn m a1 = some v ∧ R (k + 1) x m
def OP_condition (R : Nat → zsX → zsM → Prop) : Prop := ∀ (k : Nat) (x : zsX) (m : zsM) (a1 a2 : Int32), k < 512 → R k x m → ∃ (v : Int32), k_EL_condition x a1 a2 = some v ∧ k_Mo_condition m a1 a2 = some v ∧ R (k + 1) x m
def OP_area (R : Nat → zsX → zsM → Prop) : Prop := ∀ (k : Nat) (x : zsX) (m : zsM) (a1 a2 a3 a4 a5 : Int32), k < 512 → R k x m → ∃ (v : Int32) (m2 : zsM), k_EL_area x a1 a2 a3 a4 a5 = some v ∧ k_Mo_area m a1 a2 a3 a4 a5 = some (v, m2) ∧ R (k + 1) x m2
def OP_way (R : Nat → zsX → zsM → Prop) : Prop := ∀ (k : Nat) (x : zsX) (m : zsM) (a1 : Int32), k < 512 → R k x m → ∃ (v : Int32) (x2 : zsX) (m2 : zsM), k_EL_way x a1 = some (v, x2) ∧ k_Mo_way m a1 = some (v, m2) ∧ R (k + 1) x2 m2
def OP_entry (R : Nat → zsX → zsM → Prop) : Prop := ∀ (k : Nat) (x : zsX) (m : zsM) (a1 a2 : Int32), k < 512 → R k x m → ∃ (v : Int32), k_EL_entry x a1 a2 = some v ∧ k_Mo_entry m a1 a2 = some v ∧ R (k + 1) x m
def OP_replayed (R : Nat → zsX → zsM → Prop) : Prop := ∀ (k : Nat) (x : zsX) (m : zsM) (a1 a2 : Int32), k < 512 → R k x m → ∃ (v : Int32) (x2 : zsX) (m2 : zsM), k_EL_replayed x a1 a2 = some (v, x2) ∧ k_Mo_replayed m a1 a2 = some (v, m2) ∧ R (k + 1) x2 m2
def OP_reason (R : Nat → zsX → zsM → Prop) : Prop := ∀ (k : Nat) (x : zsX) (m : zsM), k < 512 → R k x m → ∃ (v : Int32), k_EL_reason x = some v ∧ k_Mo_reason m = some v ∧ R (k + 1) x m
def OP_account (R : Nat → zsX → zsM → Prop) : Prop := ∀ (k : Nat) (x : zsX) (m : zsM) (a1 : Int32), k < 512 → R k x m → ∃ (v : Int32), k_EL_account x a1 = some v ∧ k_Mo_account m a1 = some v ∧ R (k + 1) x m
def OP_back (R : Nat → zsX → zsM → Prop) : Prop := ∀ (k : Nat) (x : zsX) (m : zsM), k < 512 → R k x m → ∃ (v : Int32) (x2 : zsX) (m2 : zsM), k_EL_back x = some (v, x2) ∧ k_Mo_back m = some (v, m2) ∧ R (k + 1) x2 m2
def OP_image (R : Nat → zsX → zsM → Prop) : Prop := ∀ (k : Nat) (x : zsX) (m : zsM), k < 512 → R k x m → ∃ (v : Int32) (x2 : zsX) (m2 : zsM), k_EL_image x = some (v, x2) ∧ k_Mo_image m = some (v, m2) ∧ R (k + 1) x2 m2
def OP_undo (R : Nat → zsX → zsM → Prop) : Prop := ∀ (k : Nat) (x : zsX) (m : zsM), k < 512 → R k x m → ∃ (v : Int32) (x2 : zsX) (m2 : zsM), k_EL_undo x = some (v, x2) ∧ k_Mo_undo m = some (v, m2) ∧ R (k + 1) x2 m2
def OP_count (R : Nat → zsX → zsM → Prop) : Prop := ∀ (k : Nat) (x : zsX) (m : zsM) (a1 : Int32), k < 512 → R k x m → ∃ (v : Int32), k_EL_count x a1 = some v ∧ k_Mo_count m a1 = some v ∧ R (k + 1) x m
set_option maxRecDepth 20000 in
theorem lc_add {X : zX} {c : zY} {b Ln : Nat} {xs : Nat → Int32} {q r : Nat → Nat} (hX : Ok X zr_La code 4 10 c) (hs : Sc X b Ln xs) {R : Nat → zsX → zsM → Prop} (hop : OP_add R) {k : Nat} (hk : 7 * k + 7 ≤ Ln) (hLn : Ln ≤ 3584) {x : zsX} {m : zsM} (hR : R k x m) (kk : ∀ (x2 : zsX) (m2 : zsM), R (k + 1) x2 m2 → Go X (zwM c r m2 ++ zwX c q x2) [(0, .ref b), (1, .ref (q 17)), (2, .ref (r 0)), (3, .int (nI (7 * k)))] 902 []) : Go X (zwM c r m ++ zwX c q x) [(0, .ref b), (1, .ref (q 17)), (2, .ref (r 0)), (3, .int (nI (7 * k)))] 152 [] := by
  obtain ⟨v, x2, m2, e1, e2, hR2⟩ := hop k x m (xs (nI (7 * k) + nI 1).toNatClampNeg) (xs (nI (7 * k) + nI 2).toNatClampNeg) (xs (nI (7 * k) + nI 3).toNatClampNeg) (xs (nI (7 * k) + nI 4).toNatClampNeg) (xs (nI (7 * k) + nI 5).toNatClampNeg) (by omega) hR
  refine g_aload_n (pc := 152) hX d_La_law_152 rfl 1 rfl ?_
  refine g_aload_n (pc := 153) hX d_La_law_153 rfl 0 rfl ?_
  refine g_iload_n (pc := 154) hX d_La_law_154 rfl 3 rfl ?_
  refine g_iconst (pc := 155) (v := nI 1) hX d_La_law_155 zc_1 ?_
  refine g_iadd (pc := 156) hX d_La_law_156 ?_
  refine g_sld (pc := 157) hX hs (zvin hk hLn 1 (by omega)) d_La_law_157 ?_
  refine g_aload_n (pc := 158) hX d_La_law_158 rfl 0 rfl ?_
  refine g_iload_n (pc := 159) hX d_La_law_159 rfl 3 rfl ?_
  refine g_iconst (pc := 160) (v := nI 2) hX d_La_law_160 zc_2 ?_
  refine g_iadd (pc := 161) hX d_La_law_161 ?_
  refine g_sld (pc := 162) hX hs (zvin hk hLn 2 (by omega)) d_La_law_162 ?_
  refine g_aload_n (pc := 163) hX d_La_law_163 rfl 0 rfl ?_
  refine g_iload_n (pc := 164) hX d_La_law_164 rfl 3 rfl ?_
  refine g_iconst (pc := 165) (v := nI 3) hX d_La_law_165 zc_3 ?_
  refine g_iadd (pc := 166) hX d_La_law_166 ?_
  refine g_sld (pc := 167) hX hs (zvin hk hLn 3 (by omega)) d_La_law_167 ?_
  refine g_aload_n (pc := 168) hX d_La_law_168 rfl 0 rfl ?_
  refine g_iload_n (pc := 169) hX d_La_law_169 rfl 3 rfl ?_
  refine g_iconst (pc := 170) (v := nI 4) hX d_La_law_170 zc_4 ?_
  refine g_iadd (pc := 171) hX d_La_law_171 ?_
  refine g_sld (pc := 172) hX hs (zvin hk hLn 4 (by omega)) d_La_law_172 ?_
  refine g_aload_n (pc := 173) hX d_La_law_173 rfl 0 rfl ?_
  refine g_iload_n (pc := 174) hX d_La_law_174 rfl 3 rfl ?_
  refine g_iconst (pc := 175) (v := nI 5) hX d_La_law_175 zc_5 ?_
  refine g_iadd (pc := 176) hX d_La_law_176 ?_
  refine g_sld (pc := 177) hX hs (zvin hk hLn 5 (by omega)) d_La_law_177 ?_
  refine g_cvI (pc := 178) (w1 := zwM c r m) (w2 := []) (st := []) (w' := (zwM c r m ++ zwX c q x2)) hX zk_EL_add zs_EL_add zL_La_13 (c_EL_add c q x (xs (nI (7 * k) + nI 1).toNatClampNeg) (xs (nI (7 * k) + nI 2).toNatClampNeg) (xs (nI (7 * k) + nI 3).toNatClampNeg) (xs (nI (7 * k) + nI 4).toNatClampNeg) (xs (nI (7 * k) + nI 5).toNatClampNeg) e1) rfl rfl rfl rfl (by rw [List.append_nil]) (by rw [List.append_nil]) 26 9 rfl rfl rfl d_La_law_178 ?_
  refine g_aload_n (pc := 181) hX d_La_law_181 rfl 2 rfl ?_
  refine g_aload_n (pc := 182) hX d_La_law_182 rfl 0 rfl ?_
  refine g_iload_n (pc := 183) hX d_La_law_183 rfl 3 rfl ?_
  refine g_iconst (pc := 184) (v := nI 1) hX d_La_law_184 zc_1 ?_
  refine g_iadd (pc := 185) hX d_La_law_185 ?_
  refine g_sld (pc := 186) hX hs (zvin hk hLn 1 (by omega)) d_La_law_186 ?_
  refine g_aload_n (pc := 187) hX d_La_law_187 rfl 0 rfl ?_
  refine g_iload_n (pc := 188) hX d_La_law_188 rfl 3 rfl ?_
  refine g_iconst (pc := 189) (v := nI 2) hX d_La_law_189 zc_2 ?_
  refine g_iadd (pc := 190) hX d_La_law_190 ?_
  refine g_sld (pc := 191) hX hs (zvin hk hLn 2 (by omega)) d_La_law_191 ?_
  refine g_aload_n (pc := 192) hX d_La_law_192 rfl 0 rfl ?_
  refine g_iload_n (pc := 193) hX d_La_law_193 rfl 3 rfl ?_
  refine g_iconst (pc := 194) (v := nI 3) hX d_La_law_194 zc_3 ?_
  refine g_iadd (pc := 195) hX d_La_law_195 ?_
  refine g_sld (pc := 196) hX hs (zvin hk hLn 3 (by omega)) d_La_law_196 ?_
  refine g_aload_n (pc := 197) hX d_La_law_197 rfl 0 rfl ?_
  refine g_iload_n (pc := 198) hX d_La_law_198 rfl 3 rfl ?_
  refine g_iconst (pc := 199) (v := nI 4) hX d_La_law_199 zc_4 ?_
  refine g_iadd (pc := 200) hX d_La_law_200 ?_
  refine g_sld (pc := 201) hX hs (zvin hk hLn 4 (by omega)) d_La_law_201 ?_
  refine g_aload_n (pc := 202) hX d_La_law_202 rfl 0 rfl ?_
  refine g_iload_n (pc := 203) hX d_La_law_203 rfl 3 rfl ?_
  refine g_iconst (pc := 204) (v := nI 5) hX d_La_law_204 zc_5 ?_
  refine g_iadd (pc := 205) hX d_La_law_205 ?_
  refine g_sld (pc := 206) hX hs (zvin hk hLn 5 (by omega)) d_La_law_206 ?_
  refine g_cvI (pc := 207) (w1 := []) (w2 := zwX c q x2) (st := [.int v]) (w' := (zwM c r m2 ++ zwX c q x2)) hX zk_Mo_add zs_Mo_add zL_La_17 (c_Mo_add c r m (xs (nI (7 * k) + nI 1).toNatClampNeg) (xs (nI (7 * k) + nI 2).toNatClampNeg) (xs (nI (7 * k) + nI 3).toNatClampNeg) (xs (nI (7 * k) + nI 4).toNatClampNeg) (xs (nI (7 * k) + nI 5).toNatClampNeg) e2) rfl rfl rfl rfl rfl rfl 0 10 rfl rfl rfl d_La_law_207 ?_
  refine g_icmp_eq (pc := 210) (tgt := 902) (K := some ()) (K2 := some ()) (o := ()) hX d_La_law_210 (by decide) (by split <;> rfl) (fun _ _ => ?_) (fun c9 _ => absurd rfl c9)
  exact kk x2 m2 hR2
set_option maxRecDepth 20000 in
theorem lc_wall {X : zX} {c : zY} {b Ln : Nat} {xs : Nat → Int32} {q r : Nat → Nat} (hX : Ok X zr_La code 4 10 c) (hs : Sc X b Ln xs) {R : Nat → zsX → zsM → Prop} (hop : OP_wall R) {k : Nat} (hk : 7 * k + 7 ≤ Ln) (hLn : Ln ≤ 3584) {x : zsX} {m : zsM} (hR : R k x m) (kk : ∀ (x2 : zsX) (m2 : zsM), R (k + 1) x2 m2 → Go X (zwM c r m2 ++ zwX c q x2) [(0, .ref b), (1, .ref (q 17)), (2, .ref (r 0)), (3, .int (nI (7 * k)))] 902 []) : Go X (zwM c r m ++ zwX c q x) [(0, .ref b), (1, .ref (q 17)), (2, .ref (r 0)), (3, .int (nI (7 * k)))] 215 [] := by
  obtain ⟨v, x2, m2, e1, e2, hR2⟩ := hop k x m (xs (nI (7 * k) + nI 1).toNatClampNeg) (by omega) hR
  refine g_aload_n (pc := 215) hX d_La_law_215 rfl 1 rfl ?_
  refine g_aload_n (pc := 216) hX d_La_law_216 rfl 0 rfl ?_
  refine g_iload_n (pc := 217) hX d_La_law_217 rfl 3 rfl ?_
  refine g_iconst (pc := 218) (v := nI 1) hX d_La_law_218 zc_1 ?_
  refine g_iadd (pc := 219) hX d_La_law_219 ?_
  refine g_sld (pc := 220) hX hs (zvin hk hLn 1 (by omega)) d_La_law_220 ?_
  refine g_cvI (pc := 221) (w1 := zwM c r m) (w2 := []) (st := []) (w' := (zwM c r m ++ zwX c q x2)) hX zk_EL_wall zs_EL_wall zL_La_18 (c_EL_wall c q x (xs (nI (7 * k) + nI 1).toNatClampNeg) e1) rfl rfl rfl rfl (by rw [List.append_nil]) (by rw [List.append_nil]) 26 9 rfl rfl rfl d_La_law_221 ?_
  refine g_aload_n (pc := 224) hX d_La_law_224 rfl 2 rfl ?_
  refine g_aload_n (pc := 225) hX d_La_law_225 rfl 0 rfl ?_
  refine g_iload_n (pc := 226) hX d_La_law_226 rfl 3 rfl ?_
  refine g_iconst (pc := 227) (v := nI 1) hX d_La_law_227 zc_1 ?_
  refine g_iadd (pc := 228) hX d_La_law_228 ?_
  refine g_sld (pc := 229) hX hs (zvin hk hLn 1 (by omega)) d_La_law_229 ?_
  refine g_cvI (pc := 230) (w1 := []) (w2 := zwX c q x2) (st := [.int v]) (w' := (zwM c r m2 ++ zwX c q x2)) hX zk_Mo_wall zs_Mo_wall zL_La_22 (c_Mo_wall c r m (xs (nI (7 * k) + nI 1).toNatClampNeg) e2) rfl rfl rfl rfl rfl rfl 0 10 rfl rfl rfl d_La_law_230 ?_
  refine g_icmp_eq (pc := 233) (tgt := 902) (K := some ()) (K2 := some ()) (o := ()) hX d_La_law_233 (by decide) (by split <;> rfl) (fun _ _ => ?_) (fun c9 _ => absurd rfl c9)
  exact kk x2 m2 hR2
set_option maxRecDepth 20000 in
theorem lc_amount {X : zX} {c : zY} {b Ln : Nat} {xs : Nat → Int32} {q r : Nat → Nat} (hX : Ok X zr_La code 4 10 c) (hs : Sc X b Ln xs) {R : Nat → zsX → zsM → Prop} (hop : OP_amount R) {k : Nat} (hk : 7 * k + 7 ≤ Ln) (hLn : Ln ≤ 3584) {x : zsX} {m : zsM} (hR : R k x m) (kk : ∀ (x2 : zsX) (m2 : zsM), R (k + 1) x2 m2 → Go X (zwM c r m2 ++ zwX c q x2) [(0, .ref b), (1, .ref (q 17)), (2, .ref (r 0)), (3, .int (nI (7 * k)))] 902 []) : Go X (zwM c r m ++ zwX c q x) [(0, .ref b), (1, .ref (q 17)), (2, .ref (r 0)), (3, .int (nI (7 * k)))] 238 [] := by
  obtain ⟨v, x2, m2, e1, e2, hR2⟩ := hop k x m (xs (nI (7 * k) + nI 1).toNatClampNeg) (xs (nI (7 * k) + nI 2).toNatClampNeg) (xs (nI (7 * k) + nI 3).toNatClampNeg) (by omega) hR
  refine g_aload_n (pc := 238) hX d_La_law_238 rfl 1 rfl ?_
  refine g_aload_n (pc := 239) hX d_La_law_239 rfl 0 rfl ?_
  refine g_iload_n (pc := 240) hX d_La_law_240 rfl 3 rfl ?_
  refine g_iconst (pc := 241) (v := nI 1) hX d_La_law_241 zc_1 ?_
  refine g_iadd (pc := 242) hX d_La_law_242 ?_
  refine g_sld (pc := 243) hX hs (zvin hk hLn 1 (by omega)) d_La_law_243 ?_
  refine g_aload_n (pc := 244) hX d_La_law_244 rfl 0 rfl ?_
  refine g_iload_n (pc := 245) hX d_La_law_245 rfl 3 rfl ?_
  refine g_iconst (pc := 246) (v := nI 2) hX d_La_law_246 zc_2 ?_
  refine g_iadd (pc := 247) hX d_La_law_247 ?_
  refine g_sld (pc := 248) hX hs (zvin hk hLn 2 (by omega)) d_La_law_248 ?_
  refine g_aload_n (pc := 249) hX d_La_law_249 rfl 0 rfl ?_
  refine g_iload_n (pc := 250) hX d_La_law_250 rfl 3 rfl ?_
  refine g_iconst (pc := 251) (v := nI 3) hX d_La_law_251 zc_3 ?_
  refine g_iadd (pc := 252) hX d_La_law_252 ?_
  refine g_sld (pc := 253) hX hs (zvin hk hLn 3 (by omega)) d_La_law_253 ?_
  refine g_cvI (pc := 254) (w1 := zwM c r m) (w2 := []) (st := []) (w' := (zwM c r m ++ zwX c q x2)) hX zk_EL_amount zs_EL_amount zL_La_23 (c_EL_amount c q x (xs (nI (7 * k) + nI 1).toNatClampNeg) (xs (nI (7 * k) + nI 2).toNatClampNeg) (xs (nI (7 * k) + nI 3).toNatClampNeg) e1) rfl rfl rfl rfl (by rw [List.append_nil]) (by rw [List.append_nil]) 26 9 rfl rfl rfl d_La_law_254 ?_
  refine g_aload_n (pc := 257) hX d_La_law_257 rfl 2 rfl ?_
  refine g_aload_n (pc := 258) hX d_La_law_258 rfl 0 rfl ?_
  refine g_iload_n (pc := 259) hX d_La_law_259 rfl 3 rfl ?_
  refine g_iconst (pc := 260) (v := nI 1) hX d_La_law_260 zc_1 ?_
  refine g_iadd (pc := 261) hX d_La_law_261 ?_
  refine g_sld (pc := 262) hX hs (zvin hk hLn 1 (by omega)) d_La_law_262 ?_
  refine g_aload_n (pc := 263) hX d_La_law_263 rfl 0 rfl ?_
  refine g_iload_n (pc := 264) hX d_La_law_264 rfl 3 rfl ?_
  refine g_iconst (pc := 265) (v := nI 2) hX d_La_law_265 zc_2 ?_
  refine g_iadd (pc := 266) hX d_La_law_266 ?_
  refine g_sld (pc := 267) hX hs (zvin hk hLn 2 (by omega)) d_La_law_267 ?_
  refine g_aload_n (pc := 268) hX d_La_law_268 rfl 0 rfl ?_
  refine g_iload_n (pc := 269) hX d_La_law_269 rfl 3 rfl ?_
  refine g_iconst (pc := 270) (v := nI 3) hX d_La_law_270 zc_3 ?_
  refine g_iadd (pc := 271) hX d_La_law_271 ?_
  refine g_sld (pc := 272) hX hs (zvin hk hLn 3 (by omega)) d_La_law_272 ?_
  refine g_cvI (pc := 273) (w1 := []) (w2 := zwX c q x2) (st := [.int v]) (w' := (zwM c r m2 ++ zwX c q x2)) hX zk_Mo_amount zs_Mo_amount zL_La_27 (c_Mo_amount c r m (xs (nI (7 * k) + nI 1).toNatClampNeg) (xs (nI (7 * k) + nI 2).toNatClampNeg) (xs (nI (7 * k) + nI 3).toNatClampNeg) e2) rfl rfl rfl rfl rfl rfl 0 10 rfl rfl rfl d_La_law_273 ?_
  refine g_icmp_eq (pc := 276) (tgt := 902) (K := some ()) (K2 := some ()) (o := ()) hX d_La_law_276 (by decide) (by split <;> rfl) (fun _ _ => ?_) (fun c9 _ => absurd rfl c9)
  exact kk x2 m2 hR2
set_option maxRecDepth 20000 in
theorem lc_begin {X : zX} {c : zY} {b Ln : Nat} {xs : Nat → Int32} {q r : Nat → Nat} (hX : Ok X zr_La code 4 10 c) (hs : Sc X b Ln xs) {R : Nat → zsX → zsM → Prop} (hop : OP_begin R) {k : Nat} (hk : 7 * k + 7 ≤ Ln) (hLn : Ln ≤ 3584) {x : zsX} {m : zsM} (hR : R k x m) (kk : ∀ (x2 : zsX) (m2 : zsM), R (k + 1) x2 m2 → Go X (zwM c r m2 ++ zwX c q x2) [(0, .ref b), (1, .ref (q 17)), (2, .ref (r 0)), (3, .int (nI (7 * k)))] 902 []) : Go X (zwM c r m ++ zwX c q x) [(0, .ref b), (1, .ref (q 17)), (2, .ref (r 0)), (3, .int (nI (7 * k)))] 281 [] := by
  obtain ⟨v, x2, m2, e1, e2, hR2⟩ := hop k x m (xs (nI (7 * k) + nI 1).toNatClampNeg) (by omega) hR
  refine g_aload_n (pc := 281) hX d_La_law_281 rfl 1 rfl ?_
  refine g_aload_n (pc := 282) hX d_La_law_282 rfl 0 rfl ?_
  refine g_iload_n (pc := 283) hX d_La_law_283 rfl 3 rfl ?_
  refine g_iconst (pc := 284) (v := nI 1) hX d_La_law_284 zc_1 ?_
  refine g_iadd (pc := 285) hX d_La_law_285 ?_
  refine g_sld (pc := 286) hX hs (zvin hk hLn 1 (by omega)) d_La_law_286 ?_
  refine g_cvI (pc := 287) (w1 := zwM c r m) (w2 := []) (st := []) (w' := (zwM c r m ++ zwX c q x2)) hX zk_EL_begin zs_EL_begin zL_La_28 (c_EL_begin c q x (xs (nI (7 * k) + nI 1).toNatClampNeg) e1) rfl rfl rfl rfl (by rw [List.append_nil]) (by rw [List.append_nil]) 26 9 rfl rfl rfl d_La_law_287 ?_
  refine g_aload_n (pc := 290) hX d_La_law_290 rfl 2 rfl ?_
  refine g_aload_n (pc := 291) hX d_La_law_291 rfl 0 rfl ?_
  refine g_iload_n (pc := 292) hX d_La_law_292 rfl 3 rfl ?_
  refine g_iconst (pc := 293) (v := nI 1) hX d_La_law_293 zc_1 ?_
  refine g_iadd (pc := 294) hX d_La_law_294 ?_
  refine g_sld (pc := 295) hX hs (zvin hk hLn 1 (by omega)) d_La_law_295 ?_
  refine g_cvI (pc := 296) (w1 := []) (w2 := zwX c q x2) (st := [.int v]) (w' := (zwM c r m2 ++ zwX c q x2)) hX zk_Mo_begin zs_Mo_begin zL_La_31 (c_Mo_begin c r m (xs (nI (7 * k) + nI 1).toNatClampNeg) e2) rfl rfl rfl rfl rfl rfl 0 10 rfl rfl rfl d_La_law_296 ?_
  refine g_icmp_eq (pc := 299) (tgt := 902) (K := some ()) (K2 := some ()) (o := ()) hX d_La_law_299 (by decide) (by split <;> rfl) (fun _ _ => ?_) (fun c9 _ => absurd rfl c9)
  exact kk x2 m2 hR2
set_option maxRecDepth 20000 in
theorem lc_finish {X : zX} {c : zY} {b Ln : Nat} {xs : Nat → Int32} {q r : Nat → Nat} (hX : Ok X zr_La code 4 10 c) (hs : Sc X b Ln xs) {R : Nat → zsX → zsM → Prop} (hop : OP_finish R) {k : Nat} (hk : 7 * k + 7 ≤ Ln) (hLn : Ln ≤ 3584) {x : zsX} {m : zsM} (hR : R k x m) (kk : ∀ (x2 : zsX) (m2 : zsM), R (k + 1) x2 m2 → Go X (zwM c r m2 ++ zwX c q x2) [(0, .ref b), (1, .ref (q 17)), (2, .ref (r 0)), (3, .int (nI (7 * k)))] 902 []) : Go X (zwM c r m ++ zwX c q x) [(0, .ref b), (1, .ref (q 17)), (2, .ref (r 0)), (3, .int (nI (7 * k)))] 304 [] := by
  obtain ⟨v, x2, m2, e1, e2, hR2⟩ := hop k x m (by omega) hR
  refine g_aload_n (pc := 304) hX d_La_law_304 rfl 1 rfl ?_
  refine g_cvI (pc := 305) (w1 := zwM c r m) (w2 := []) (st := []) (w' := (zwM c r m ++ zwX c q x2)) hX zk_EL_finish zs_EL_finish zL_La_32 (c_EL_finish c q x e1) rfl rfl rfl rfl (by rw [List.append_nil]) (by rw [List.append_nil]) 26 9 rfl rfl rfl d_La_law_305 ?_
  refine g_aload_n (pc := 308) hX d_La_law_308 rfl 2 rfl ?_
  refine g_cvI (pc := 309) (w1 := []) (w2 := zwX c q x2) (st := [.int v]) (w' := (zwM c r m2 ++ zwX c q x2)) hX zk_Mo_finish zs_Mo_finish zL_La_36 (c_Mo_finish c r m e2) rfl rfl rfl rfl rfl rfl 0 10 rfl rfl rfl d_La_law_309 ?_
  refine g_icmp_eq (pc := 312) (tgt := 902) (K := some ()) (K2 := some ()) (o := ()) hX d_La_law_312 (by decide) (by split <;> rfl) (fun _ _ => ?_) (fun c9 _ => absurd rfl c9)
  exact kk x2 m2 hR2
set_option maxRecDepth 20000 in
theorem lc_endTurn {X : zX} {c : zY} {b Ln : Nat} {xs : Nat → Int32} {q r : Nat → Nat} (hX : Ok X zr_La code 4 10 c) (hs : Sc X b Ln xs) {R : Nat → zsX → zsM → Prop} (hop : OP_endTurn R) {k : Nat} (hk : 7 * k + 7 ≤ Ln) (hLn : Ln ≤ 3584) {x : zsX} {m : zsM} (hR : R k x m) (kk : ∀ (x2 : zsX) (m2 : zsM), R (k + 1) x2 m2 → Go X (zwM c r m2 ++ zwX c q x2) [(0, .ref b), (1, .ref (q 17)), (2, .ref (r 0)), (3, .int (nI (7 * k)))] 902 []) : Go X (zwM c r m ++ zwX c q x) [(0, .ref b), (1, .ref (q 17)), (2, .ref (r 0)), (3, .int (nI (7 * k)))] 317 [] := by
  obtain ⟨v, x2, m2, e1, e2, hR2⟩ := hop k x m (by omega) hR
  refine g_aload_n (pc := 317) hX d_La_law_317 rfl 1 rfl ?_
  refine g_cvI (pc := 318) (w1 := zwM c r m) (w2 := []) (st := []) (w' := (zwM c r m ++ zwX c q x2)) hX zk_EL_endTurn zs_EL_endTurn zL_La_37 (c_EL_endTurn c q x e1) rfl rfl rfl rfl (by rw [List.append_nil]) (by rw [List.append_nil]) 26 9 rfl rfl rfl d_La_law_318 ?_
  refine g_aload_n (pc := 321) hX d_La_law_321 rfl 2 rfl ?_
  refine g_cvI (pc := 322) (w1 := []) (w2 := zwX c q x2) (st := [.int v]) (w' := (zwM c r m2 ++ zwX c q x2)) hX zk_Mo_endTurn zs_Mo_endTurn zL_La_40 (c_Mo_endTurn c r m e2) rfl rfl rfl rfl rfl rfl 0 10 rfl rfl rfl d_La_law_322 ?_
  refine g_icmp_eq (pc := 325) (tgt := 902) (K := some ()) (K2 := some ()) (o := ()) hX d_La_law_325 (by decide) (by split <;> rfl) (fun _ _ => ?_) (fun c9 _ => absurd rfl c9)
  exact kk x2 m2 hR2
set_option maxRecDepth 20000 in
theorem lc_delay {X : zX} {c : zY} {b Ln : Nat} {xs : Nat → Int32} {q r : Nat → Nat} (hX : Ok X zr_La code 4 10 c) (hs : Sc X b Ln xs) {R : Nat → zsX → zsM → Prop} (hop : OP_delay R) {k : Nat} (hk : 7 * k + 7 ≤ Ln) (hLn : Ln ≤ 3584) {x : zsX} {m : zsM} (hR : R k x m) (kk : ∀ (x2 : zsX) (m2 : zsM), R (k + 1) x2 m2 → Go X (zwM c r m2 ++ zwX c q x2) [(0, .ref b), (1, .ref (q 17)), (2, .ref (r 0)), (3, .int (nI (7 * k)))] 902 []) : Go X (zwM c r m ++ zwX c q x) [(0, .ref b), (1, .ref (q 17)), (2, .ref (r 0)), (3, .int (nI (7 * k)))] 330 [] := by
  obtain ⟨v, x2, m2, e1, e2, hR2⟩ := hop k x m (xs (nI (7 * k) + nI 1).toNatClampNeg) (by omega) hR
  refine g_aload_n (pc := 330) hX d_La_law_330 rfl 1 rfl ?_
  refine g_aload_n (pc := 331) hX d_La_law_331 rfl 0 rfl ?_
  refine g_iload_n (pc := 332) hX d_La_law_332 rfl 3 rfl ?_
  refine g_iconst (pc := 333) (v := nI 1) hX d_La_law_333 zc_1 ?_
  refine g_iadd (pc := 334) hX d_La_law_334 ?_
  refine g_sld (pc := 335) hX hs (zvin hk hLn 1 (by omega)) d_La_law_335 ?_
  refine g_cvI (pc := 336) (w1 := zwM c r m) (w2 := []) (st := []) (w' := (zwM c r m ++ zwX c q x2)) hX zk_EL_delay zs_EL_delay zL_La_41 (c_EL_delay c q x (xs (nI (7 * k) + nI 1).toNatClampNeg) e1) rfl rfl rfl rfl (by rw [List.append_nil]) (by rw [List.append_nil]) 26 9 rfl rfl rfl d_La_law_336 ?_
  refine g_aload_n (pc := 339) hX d_La_law_339 rfl 2 rfl ?_
  refine g_aload_n (pc := 340) hX d_La_law_340 rfl 0 rfl ?_
  refine g_iload_n (pc := 341) hX d_La_law_341 rfl 3 rfl ?_
  refine g_iconst (pc := 342) (v := nI 1) hX d_La_law_342 zc_1 ?_
  refine g_iadd (pc := 343) hX d_La_law_343 ?_
  refine g_sld (pc := 344) hX hs (zvin hk hLn 1 (by omega)) d_La_law_344 ?_
  refine g_cvI (pc := 345) (w1 := []) (w2 := zwX c q x2) (st := [.int v]) (w' := (zwM c r m2 ++ zwX c q x2)) hX zk_Mo_delay zs_Mo_delay zL_La_44 (c_Mo_delay c r m (xs (nI (7 * k) + nI 1).toNatClampNeg) e2) rfl rfl rfl rfl rfl rfl 0 10 rfl rfl rfl d_La_law_345 ?_
  refine g_icmp_eq (pc := 348) (tgt := 902) (K := some ()) (K2 := some ()) (o := ()) hX d_La_law_348 (by decide) (by split <;> rfl) (fun _ _ => ?_) (fun c9 _ => absurd rfl c9)
  exact kk x2 m2 hR2
set_option maxRecDepth 20000 in
theorem lc_move {X : zX} {c : zY} {b Ln : Nat} {xs : Nat → Int32} {q r : Nat → Nat} (hX : Ok X zr_La code 4 10 c) (hs : Sc X b Ln xs) {R : Nat → zsX → zsM → Prop} (hop : OP_move R) {k : Nat} (hk : 7 * k + 7 ≤ Ln) (hLn : Ln ≤ 3584) {x : zsX} {m : zsM} (hR : R k x m) (kk : ∀ (x2 : zsX) (m2 : zsM), R (k + 1) x2 m2 → Go X (zwM c r m2 ++ zwX c q x2) [(0, .ref b), (1, .ref (q 17)), (2, .ref (r 0)), (3, .int (nI (7 * k)))] 902 []) : Go X (zwM c r m ++ zwX c q x) [(0, .ref b), (1, .ref (q 17)), (2, .ref (r 0)), (3, .int (nI (7 * k)))] 353 [] := by
  obtain ⟨v, x2, m2, e1, e2, hR2⟩ := hop k x m (xs (nI (7 * k) + nI 1).toNatClampNeg) (by omega) hR
  refine g_aload_n (pc := 353) hX d_La_law_353 rfl 1 rfl ?_
  refine g_aload_n (pc := 354) hX d_La_law_354 rfl 0 rfl ?_
  refine g_iload_n (pc := 355) hX d_La_law_355 rfl 3 rfl ?_
  refine g_iconst (pc := 356) (v := nI 1) hX d_La_law_356 zc_1 ?_
  refine g_iadd (pc := 357) hX d_La_law_357 ?_
  refine g_sld (pc := 358) hX hs (zvin hk hLn 1 (by omega)) d_La_law_358 ?_
  refine g_cvI (pc := 359) (w1 := zwM c r m) (w2 := []) (st := []) (w' := (zwM c r m ++ zwX c q x2)) hX zk_EL_move zs_EL_move zL_La_45 (c_EL_move c q x (xs (nI (7 * k) + nI 1).toNatClampNeg) e1) rfl rfl rfl rfl (by rw [List.append_nil]) (by rw [List.append_nil]) 26 9 rfl rfl rfl d_La_law_359 ?_
  refine g_aload_n (pc := 362) hX d_La_law_362 rfl 2 rfl ?_
  refine g_aload_n (pc := 363) hX d_La_law_363 rfl 0 rfl ?_
  refine g_iload_n (pc := 364) hX d_La_law_364 rfl 3 rfl ?_
  refine g_iconst (pc := 365) (v := nI 1) hX d_La_law_365 zc_1 ?_
  refine g_iadd (pc := 366) hX d_La_law_366 ?_
  refine g_sld (pc := 367) hX hs (zvin hk hLn 1 (by omega)) d_La_law_367 ?_
  refine g_cvI (pc := 368) (w1 := []) (w2 := zwX c q x2) (st := [.int v]) (w' := (zwM c r m2 ++ zwX c q x2)) hX zk_Mo_move zs_Mo_move zL_La_48 (c_Mo_move c r m (xs (nI (7 * k) + nI 1).toNatClampNeg) e2) rfl rfl rfl rfl rfl rfl 0 10 rfl rfl rfl d_La_law_368 ?_
  refine g_icmp_eq (pc := 371) (tgt := 902) (K := some ()) (K2 := some ()) (o := ()) hX d_La_law_371 (by decide) (by split <;> rfl) (fun _ _ => ?_) (fun c9 _ => absurd rfl c9)
  exact kk x2 m2 hR2
set_option maxRecDepth 20000 in
theorem lc_strike {X : zX} {c : zY} {b Ln : Nat} {xs : Nat → Int32} {q r : Nat → Nat} (hX : Ok X zr_La code 4 10 c) (hs : Sc X b Ln xs) {R : Nat → zsX → zsM → Prop} (hop : OP_strike R) {k : Nat} (hk : 7 * k + 7 ≤ Ln) (hLn : Ln ≤ 3584) {x : zsX} {m : zsM} (hR : R k x m) (kk : ∀ (x2 : zsX) (m2 : zsM), R (k + 1) x2 m2 → Go X (zwM c r m2 ++ zwX c q x2) [(0, .ref b), (1, .ref (q 17)), (2, .ref (r 0)), (3, .int (nI (7 * k)))] 902 []) : Go X (zwM c r m ++ zwX c q x) [(0, .ref b), (1, .ref (q 17)), (2, .ref (r 0)), (3, .int (nI (7 * k)))] 376 [] := by
  obtain ⟨v, x2, m2, e1, e2, hR2⟩ := hop k x m (xs (nI (7 * k) + nI 1).toNatClampNeg) (by omega) hR
  refine g_aload_n (pc := 376) hX d_La_law_376 rfl 1 rfl ?_
  refine g_aload_n (pc := 377) hX d_La_law_377 rfl 0 rfl ?_
  refine g_iload_n (pc := 378) hX d_La_law_378 rfl 3 rfl ?_
  refine g_iconst (pc := 379) (v := nI 1) hX d_La_law_379 zc_1 ?_
  refine g_iadd (pc := 380) hX d_La_law_380 ?_
  refine g_sld (pc := 381) hX hs (zvin hk hLn 1 (by omega)) d_La_law_381 ?_
  refine g_cvI (pc := 382) (w1 := zwM c r m) (w2 := []) (st := []) (w' := (zwM c r m ++ zwX c q x2)) hX zk_EL_strike zs_EL_strike zL_La_49 (c_EL_strike c q x (xs (nI (7 * k) + nI 1).toNatClampNeg) e1) rfl rfl rfl rfl (by rw [List.append_nil]) (by rw [List.append_nil]) 26 9 rfl rfl rfl d_La_law_382 ?_
  refine g_aload_n (pc := 385) hX d_La_law_385 rfl 2 rfl ?_
  refine g_aload_n (pc := 386) hX d_La_law_386 rfl 0 rfl ?_
  refine g_iload_n (pc := 387) hX d_La_law_387 rfl 3 rfl ?_
  refine g_iconst (pc := 388) (v := nI 1) hX d_La_law_388 zc_1 ?_
  refine g_iadd (pc := 389) hX d_La_law_389 ?_
  refine g_sld (pc := 390) hX hs (zvin hk hLn 1 (by omega)) d_La_law_390 ?_
  refine g_cvI (pc := 391) (w1 := []) (w2 := zwX c q x2) (st := [.int v]) (w' := (zwM c r m2 ++ zwX c q x2)) hX zk_Mo_strike zs_Mo_strike zL_La_52 (c_Mo_strike c r m (xs (nI (7 * k) + nI 1).toNatClampNeg) e2) rfl rfl rfl rfl rfl rfl 0 10 rfl rfl rfl d_La_law_391 ?_
  refine g_icmp_eq (pc := 394) (tgt := 902) (K := some ()) (K2 := some ()) (o := ()) hX d_La_law_394 (by decide) (by split <;> rfl) (fun _ _ => ?_) (fun c9 _ => absurd rfl c9)
  exact kk x2 m2 hR2
set_option maxRecDepth 20000 in
theorem lc_feed {X : zX} {c : zY} {b Ln : Nat} {xs : Nat → Int32} {q r : Nat → Nat} (hX : Ok X zr_La code 4 10 c) (hs : Sc X b Ln xs) {R : Nat → zsX → zsM → Prop} (hop : OP_feed R) {k : Nat} (hk : 7 * k + 7 ≤ Ln) (hLn : Ln ≤ 3584) {x : zsX} {m : zsM} (hR : R k x m) (kk : ∀ (x2 : zsX) (m2 : zsM), R (k + 1) x2 m2 → Go X (zwM c r m2 ++ zwX c q x2) [(0, .ref b), (1, .ref (q 17)), (2, .ref (r 0)), (3, .int (nI (7 * k)))] 902 []) : Go X (zwM c r m ++ zwX c q x) [(0, .ref b), (1, .ref (q 17)), (2, .ref (r 0)), (3, .int (nI (7 * k)))] 399 [] := by
  obtain ⟨v, x2, m2, e1, e2, hR2⟩ := hop k x m (xs (nI (7 * k) + nI 1).toNatClampNeg) (xs (nI (7 * k) + nI 2).toNatClampNeg) (xs (nI (7 * k) + nI 3).toNatClampNeg) (xs (nI (7 * k) + nI 4).toNatClampNeg) (xs (nI (7 * k) + nI 5).toNatClampNeg) (xs (nI (7 * k) + nI 6).toNatClampNeg) (by omega) hR
  refine g_aload_n (pc := 399) hX d_La_law_399 rfl 1 rfl ?_
  refine g_aload_n (pc := 400) hX d_La_law_400 rfl 0 rfl ?_
  refine g_iload_n (pc := 401) hX d_La_law_401 rfl 3 rfl ?_
  refine g_iconst (pc := 402) (v := nI 1) hX d_La_law_402 zc_1 ?_
  refine g_iadd (pc := 403) hX d_La_law_403 ?_
  refine g_sld (pc := 404) hX hs (zvin hk hLn 1 (by omega)) d_La_law_404 ?_
  refine g_aload_n (pc := 405) hX d_La_law_405 rfl 0 rfl ?_
  refine g_iload_n (pc := 406) hX d_La_law_406 rfl 3 rfl ?_
  refine g_iconst (pc := 407) (v := nI 2) hX d_La_law_407 zc_2 ?_
  refine g_iadd (pc := 408) hX d_La_law_408 ?_
  refine g_sld (pc := 409) hX hs (zvin hk hLn 2 (by omega)) d_La_law_409 ?_
  refine g_aload_n (pc := 410) hX d_La_law_410 rfl 0 rfl ?_
  refine g_iload_n (pc := 411) hX d_La_law_411 rfl 3 rfl ?_
  refine g_iconst (pc := 412) (v := nI 3) hX d_La_law_412 zc_3 ?_
  refine g_iadd (pc := 413) hX d_La_law_413 ?_
  refine g_sld (pc := 414) hX hs (zvin hk hLn 3 (by omega)) d_La_law_414 ?_
  refine g_aload_n (pc := 415) hX d_La_law_415 rfl 0 rfl ?_
  refine g_iload_n (pc := 416) hX d_La_law_416 rfl 3 rfl ?_
  refine g_iconst (pc := 417) (v := nI 4) hX d_La_law_417 zc_4 ?_
  refine g_iadd (pc := 418) hX d_La_law_418 ?_
  refine g_sld (pc := 419) hX hs (zvin hk hLn 4 (by omega)) d_La_law_419 ?_
  refine g_aload_n (pc := 420) hX d_La_law_420 rfl 0 rfl ?_
  refine g_iload_n (pc := 421) hX d_La_law_421 rfl 3 rfl ?_
  refine g_iconst (pc := 422) (v := nI 5) hX d_La_law_422 zc_5 ?_
  refine g_iadd (pc := 423) hX d_La_law_423 ?_
  refine g_sld (pc := 424) hX hs (zvin hk hLn 5 (by omega)) d_La_law_424 ?_
  refine g_aload_n (pc := 425) hX d_La_law_425 rfl 0 rfl ?_
  refine g_iload_n (pc := 426) hX d_La_law_426 rfl 3 rfl ?_
  refine g_bipush (pc := 427) (v := nI 6) hX d_La_law_427 ze_6 ?_
  refine g_iadd (pc := 429) hX d_La_law_429 ?_
  refine g_sld (pc := 430) hX hs (zvin hk hLn 6 (by omega)) d_La_law_430 ?_
  refine g_cvI (pc := 431) (w1 := zwM c r m) (w2 := []) (st := []) (w' := (zwM c r m ++ zwX c q x2)) hX zk_EL_feed zs_EL_feed zL_La_53 (c_EL_feed c q x (xs (nI (7 * k) + nI 1).toNatClampNeg) (xs (nI (7 * k) + nI 2).toNatClampNeg) (xs (nI (7 * k) + nI 3).toNatClampNeg) (xs (nI (7 * k) + nI 4).toNatClampNeg) (xs (nI (7 * k) + nI 5).toNatClampNeg) (xs (nI (7 * k) + nI 6).toNatClampNeg) e1) rfl rfl rfl rfl (by rw [List.append_nil]) (by rw [List.append_nil]) 26 9 rfl rfl rfl d_La_law_431 ?_
  refine g_aload_n (pc := 434) hX d_La_law_434 rfl 2 rfl ?_
  refine g_aload_n (pc := 435) hX d_La_law_435 rfl 0 rfl ?_
  refine g_iload_n (pc := 436) hX d_La_law_436 rfl 3 rfl ?_
  refine g_iconst (pc := 437) (v := nI 1) hX d_La_law_437 zc_1 ?_
  refine g_iadd (pc := 438) hX d_La_law_438 ?_
  refine g_sld (pc := 439) hX hs (zvin hk hLn 1 (by omega)) d_La_law_439 ?_
  refine g_aload_n (pc := 440) hX d_La_law_440 rfl 0 rfl ?_
  refine g_iload_n (pc := 441) hX d_La_law_441 rfl 3 rfl ?_
  refine g_iconst (pc := 442) (v := nI 2) hX d_La_law_442 zc_2 ?_
  refine g_iadd (pc := 443) hX d_La_law_443 ?_
  refine g_sld (pc := 444) hX hs (zvin hk hLn 2 (by omega)) d_La_law_444 ?_
  refine g_aload_n (pc := 445) hX d_La_law_445 rfl 0 rfl ?_
  refine g_iload_n (pc := 446) hX d_La_law_446 rfl 3 rfl ?_
  refine g_iconst (pc := 447) (v := nI 3) hX d_La_law_447 zc_3 ?_
  refine g_iadd (pc := 448) hX d_La_law_448 ?_
  refine g_sld (pc := 449) hX hs (zvin hk hLn 3 (by omega)) d_La_law_449 ?_
  refine g_aload_n (pc := 450) hX d_La_law_450 rfl 0 rfl ?_
  refine g_iload_n (pc := 451) hX d_La_law_451 rfl 3 rfl ?_
  refine g_iconst (pc := 452) (v := nI 4) hX d_La_law_452 zc_4 ?_
  refine g_iadd (pc := 453) hX d_La_law_453 ?_
  refine g_sld (pc := 454) hX hs (zvin hk hLn 4 (by omega)) d_La_law_454 ?_
  refine g_aload_n (pc := 455) hX d_La_law_455 rfl 0 rfl ?_
  refine g_iload_n (pc := 456) hX d_La_law_456 rfl 3 rfl ?_
  refine g_iconst (pc := 457) (v := nI 5) hX d_La_law_457 zc_5 ?_
  refine g_iadd (pc := 458) hX d_La_law_458 ?_
  refine g_sld (pc := 459) hX hs (zvin hk hLn 5 (by omega)) d_La_law_459 ?_
  refine g_aload_n (pc := 460) hX d_La_law_460 rfl 0 rfl ?_
  refine g_iload_n (pc := 461) hX d_La_law_461 rfl 3 rfl ?_
  refine g_bipush (pc := 462) (v := nI 6) hX d_La_law_462 ze_6 ?_
  refine g_iadd (pc := 464) hX d_La_law_464 ?_
  refine g_sld (pc := 465) hX hs (zvin hk hLn 6 (by omega)) d_La_law_465 ?_
  refine g_cvI (pc := 466) (w1 := []) (w2 := zwX c q x2) (st := [.int v]) (w' := (zwM c r m2 ++ zwX c q x2)) hX zk_Mo_feed zs_Mo_feed zL_La_57 (c_Mo_feed c r m (xs (nI (7 * k) + nI 1).toNatClampNeg) (xs (nI (7 * k) + nI 2).toNatClampNeg) (xs (nI (7 * k) + nI 3).toNatClampNeg) (xs (nI (7 * k) + nI 4).toNatClampNeg) (xs (nI (7 * k) + nI 5).toNatClampNeg) (xs (nI (7 * k) + nI 6).toNatClampNeg) e2) rfl rfl rfl rfl rfl rfl 0 10 rfl rfl rfl d_La_law_466 ?_
  refine g_icmp_eq (pc := 469) (tgt := 902) (K := some ()) (K2 := some ()) (o := ()) hX d_La_law_469 (by decide) (by split <;> rfl) (fun _ _ => ?_) (fun c9 _ => absurd rfl c9)
  exact kk x2 m2 hR2
set_option maxRecDepth 20000 in
theorem lc_power {X : zX} {c : zY} {b Ln : Nat} {xs : Nat → Int32} {q r : Nat → Nat} (hX : Ok X zr_La code 4 10 c) (hs : Sc X b Ln xs) {R : Nat → zsX → zsM → Prop} (hop : OP_power R) {k : Nat} (hk : 7 * k + 7 ≤ Ln) (hLn : Ln ≤ 3584) {x : zsX} {m : zsM} (hR : R k x m) (kk : ∀ (x2 : zsX) (m2 : zsM), R (k + 1) x2 m2 → Go X (zwM c r m2 ++ zwX c q x2) [(0, .ref b), (1, .ref (q 17)), (2, .ref (r 0)), (3, .int (nI (7 * k)))] 902 []) : Go X (zwM c r m ++ zwX c q x) [(0, .ref b), (1, .ref (q 17)), (2, .ref (r 0)), (3, .int (nI (7 * k)))] 474 [] := by
  obtain ⟨v, x2, m2, e1, e2, hR2⟩ := hop k x m (xs (nI (7 * k) + nI 1).toNatClampNeg) (by omega) hR
  refine g_aload_n (pc := 474) hX d_La_law_474 rfl 1 rfl ?_
  refine g_aload_n (pc := 475) hX d_La_law_475 rfl 0 rfl ?_
  refine g_iload_n (pc := 476) hX d_La_law_476 rfl 3 rfl ?_
  refine g_iconst (pc := 477) (v := nI 1) hX d_La_law_477 zc_1 ?_
  refine g_iadd (pc := 478) hX d_La_law_478 ?_
  refine g_sld (pc := 479) hX hs (zvin hk hLn 1 (by omega)) d_La_law_479 ?_
  refine g_cvI (pc := 480) (w1 := zwM c r m) (w2 := []) (st := []) (w' := (zwM c r m ++ zwX c q x2)) hX zk_EL_power zs_EL_power zL_La_58 (c_EL_power c q x (xs (nI (7 * k) + nI 1).toNatClampNeg) e1) rfl rfl rfl rfl (by rw [List.append_nil]) (by rw [List.append_nil]) 26 9 rfl rfl rfl d_La_law_480 ?_
  refine g_aload_n (pc := 483) hX d_La_law_483 rfl 2 rfl ?_
  refine g_aload_n (pc := 484) hX d_La_law_484 rfl 0 rfl ?_
  refine g_iload_n (pc := 485) hX d_La_law_485 rfl 3 rfl ?_
  refine g_iconst (pc := 486) (v := nI 1) hX d_La_law_486 zc_1 ?_
  refine g_iadd (pc := 487) hX d_La_law_487 ?_
  refine g_sld (pc := 488) hX hs (zvin hk hLn 1 (by omega)) d_La_law_488 ?_
  refine g_cvI (pc := 489) (w1 := []) (w2 := zwX c q x2) (st := [.int v]) (w' := (zwM c r m2 ++ zwX c q x2)) hX zk_Mo_power zs_Mo_power zL_La_61 (c_Mo_power c r m (xs (nI (7 * k) + nI 1).toNatClampNeg) e2) rfl rfl rfl rfl rfl rfl 0 10 rfl rfl rfl d_La_law_489 ?_
  refine g_icmp_eq (pc := 492) (tgt := 902) (K := some ()) (K2 := some ()) (o := ()) hX d_La_law_492 (by decide) (by split <;> rfl) (fun _ _ => ?_) (fun c9 _ => absurd rfl c9)
  exact kk x2 m2 hR2
set_option maxRecDepth 20000 in
theorem lc_cast {X : zX} {c : zY} {b Ln : Nat} {xs : Nat → Int32} {q r : Nat → Nat} (hX : Ok X zr_La code 4 10 c) (hs : Sc X b Ln xs) {R : Nat → zsX → zsM → Prop} (hop : OP_cast R) {k : Nat} (hk : 7 * k + 7 ≤ Ln) (hLn : Ln ≤ 3584) {x : zsX} {m : zsM} (hR : R k x m) (kk : ∀ (x2 : zsX) (m2 : zsM), R (k + 1) x2 m2 → Go X (zwM c r m2 ++ zwX c q x2) [(0, .ref b), (1, .ref (q 17)), (2, .ref (r 0)), (3, .int (nI (7 * k)))] 902 []) : Go X (zwM c r m ++ zwX c q x) [(0, .ref b), (1, .ref (q 17)), (2, .ref (r 0)), (3, .int (nI (7 * k)))] 497 [] := by
  obtain ⟨v, x2, m2, e1, e2, hR2⟩ := hop k x m (xs (nI (7 * k) + nI 1).toNatClampNeg) (xs (nI (7 * k) + nI 2).toNatClampNeg) (xs (nI (7 * k) + nI 3).toNatClampNeg) (by omega) hR
  refine g_aload_n (pc := 497) hX d_La_law_497 rfl 1 rfl ?_
  refine g_aload_n (pc := 498) hX d_La_law_498 rfl 0 rfl ?_
  refine g_iload_n (pc := 499) hX d_La_law_499 rfl 3 rfl ?_
  refine g_iconst (pc := 500) (v := nI 1) hX d_La_law_500 zc_1 ?_
  refine g_iadd (pc := 501) hX d_La_law_501 ?_
  refine g_sld (pc := 502) hX hs (zvin hk hLn 1 (by omega)) d_La_law_502 ?_
  refine g_aload_n (pc := 503) hX d_La_law_503 rfl 0 rfl ?_
  refine g_iload_n (pc := 504) hX d_La_law_504 rfl 3 rfl ?_
  refine g_iconst (pc := 505) (v := nI 2) hX d_La_law_505 zc_2 ?_
  refine g_iadd (pc := 506) hX d_La_law_506 ?_
  refine g_sld (pc := 507) hX hs (zvin hk hLn 2 (by omega)) d_La_law_507 ?_
  refine g_aload_n (pc := 508) hX d_La_law_508 rfl 0 rfl ?_
  refine g_iload_n (pc := 509) hX d_La_law_509 rfl 3 rfl ?_
  refine g_iconst (pc := 510) (v := nI 3) hX d_La_law_510 zc_3 ?_
  refine g_iadd (pc := 511) hX d_La_law_511 ?_
  refine g_sld (pc := 512) hX hs (zvin hk hLn 3 (by omega)) d_La_law_512 ?_
  refine g_cvI (pc := 513) (w1 := zwM c r m) (w2 := []) (st := []) (w' := (zwM c r m ++ zwX c q x2)) hX zk_EL_cast zs_EL_cast zL_La_62 (c_EL_cast c q x (xs (nI (7 * k) + nI 1).toNatClampNeg) (xs (nI (7 * k) + nI 2).toNatClampNeg) (xs (nI (7 * k) + nI 3).toNatClampNeg) e1) rfl rfl rfl rfl (by rw [List.append_nil]) (by rw [List.append_nil]) 26 9 rfl rfl rfl d_La_law_513 ?_
  refine g_aload_n (pc := 516) hX d_La_law_516 rfl 2 rfl ?_
  refine g_aload_n (pc := 517) hX d_La_law_517 rfl 0 rfl ?_
  refine g_iload_n (pc := 518) hX d_La_law_518 rfl 3 rfl ?_
  refine g_iconst (pc := 519) (v := nI 1) hX d_La_law_519 zc_1 ?_
  refine g_iadd (pc := 520) hX d_La_law_520 ?_
  refine g_sld (pc := 521) hX hs (zvin hk hLn 1 (by omega)) d_La_law_521 ?_
  refine g_aload_n (pc := 522) hX d_La_law_522 rfl 0 rfl ?_
  refine g_iload_n (pc := 523) hX d_La_law_523 rfl 3 rfl ?_
  refine g_iconst (pc := 524) (v := nI 2) hX d_La_law_524 zc_2 ?_
  refine g_iadd (pc := 525) hX d_La_law_525 ?_
  refine g_sld (pc := 526) hX hs (zvin hk hLn 2 (by omega)) d_La_law_526 ?_
  refine g_aload_n (pc := 527) hX d_La_law_527 rfl 0 rfl ?_
  refine g_iload_n (pc := 528) hX d_La_law_528 rfl 3 rfl ?_
  refine g_iconst (pc := 529) (v := nI 3) hX d_La_law_529 zc_3 ?_
  refine g_iadd (pc := 530) hX d_La_law_530 ?_
  refine g_sld (pc := 531) hX hs (zvin hk hLn 3 (by omega)) d_La_law_531 ?_
  refine g_cvI (pc := 532) (w1 := []) (w2 := zwX c q x2) (st := [.int v]) (w' := (zwM c r m2 ++ zwX c q x2)) hX zk_Mo_cast zs_Mo_cast zL_La_65 (c_Mo_cast c r m (xs (nI (7 * k) + nI 1).toNatClampNeg) (xs (nI (7 * k) + nI 2).toNatClampNeg) (xs (nI (7 * k) + nI 3).toNatClampNeg) e2) rfl rfl rfl rfl rfl rfl 0 10 rfl rfl rfl d_La_law_532 ?_
  refine g_icmp_eq (pc := 535) (tgt := 902) (K := some ()) (K2 := some ()) (o := ()) hX d_La_law_535 (by decide) (by split <;> rfl) (fun _ _ => ?_) (fun c9 _ => absurd rfl c9)
  exact kk x2 m2 hR2
set_option maxRecDepth 20000 in
theorem lc_rest {X : zX} {c : zY} {b Ln : Nat} {xs : Nat → Int32} {q r : Nat → Nat} (hX : Ok X zr_La code 4 10 c) (hs : Sc X b Ln xs) {R : Nat → zsX → zsM → Prop} (hop : OP_rest R) {k : Nat} (hk : 7 * k + 7 ≤ Ln) (hLn : Ln ≤ 3584) {x : zsX} {m : zsM} (hR : R k x m) (kk : ∀ (x2 : zsX) (m2 : zsM), R (k + 1) x2 m2 → Go X (zwM c r m2 ++ zwX c q x2) [(0, .ref b), (1, .ref (q 17)), (2, .ref (r 0)), (3, .int (nI (7 * k)))] 902 []) : Go X (zwM c r m ++ zwX c q x) [(0, .ref b), (1, .ref (q 17)), (2, .ref (r 0)), (3, .int (nI (7 * k)))] 540 [] := by
  obtain ⟨v, x2, m2, e1, e2, hR2⟩ := hop k x m (xs (nI (7 * k) + nI 1).toNatClampNeg) (by omega) hR
  refine g_aload_n (pc := 540) hX d_La_law_540 rfl 1 rfl ?_
  refine g_aload_n (pc := 541) hX d_La_law_541 rfl 0 rfl ?_
  refine g_iload_n (pc := 542) hX d_La_law_542 rfl 3 rfl ?_
  refine g_iconst (pc := 543) (v := nI 1) hX d_La_law_543 zc_1 ?_
  refine g_iadd (pc := 544) hX d_La_law_544 ?_
  refine g_sld (pc := 545) hX hs (zvin hk hLn 1 (by omega)) d_La_law_545 ?_
  refine g_cvI (pc := 546) (w1 := zwM c r m) (w2 := []) (st := []) (w' := (zwM c r m ++ zwX c q x2)) hX zk_EL_rest zs_EL_rest zL_La_66 (c_EL_rest c q x (xs (nI (7 * k) + nI 1).toNatClampNeg) e1) rfl rfl rfl rfl (by rw [List.append_nil]) (by rw [List.append_nil]) 26 9 rfl rfl rfl d_La_law_546 ?_
  refine g_aload_n (pc := 549) hX d_La_law_549 rfl 2 rfl ?_
  refine g_aload_n (pc := 550) hX d_La_law_550 rfl 0 rfl ?_
  refine g_iload_n (pc := 551) hX d_La_law_551 rfl 3 rfl ?_
  refine g_iconst (pc := 552) (v := nI 1) hX d_La_law_552 zc_1 ?_
  refine g_iadd (pc := 553) hX d_La_law_553 ?_
  refine g_sld (pc := 554) hX hs (zvin hk hLn 1 (by omega)) d_La_law_554 ?_
  refine g_cvI (pc := 555) (w1 := []) (w2 := zwX c q x2) (st := [.int v]) (w' := (zwM c r m2 ++ zwX c q x2)) hX zk_Mo_rest zs_Mo_rest zL_La_69 (c_Mo_rest c r m (xs (nI (7 * k) + nI 1).toNatClampNeg) e2) rfl rfl rfl rfl rfl rfl 0 10 rfl rfl rfl d_La_law_555 ?_
  refine g_icmp_eq (pc := 558) (tgt := 902) (K := some ()) (K2 := some ()) (o := ()) hX d_La_law_558 (by decide) (by split <;> rfl) (fun _ _ => ?_) (fun c9 _ => absurd rfl c9)
  exact kk x2 m2 hR2
set_option maxRecDepth 20000 in
theorem lc_fighter {X : zX} {c : zY} {b Ln : Nat} {xs : Nat → Int32} {q r : Nat → Nat} (hX : Ok X zr_La code 4 10 c) (hs : Sc X b Ln xs) {R : Nat → zsX → zsM → Prop} (hop : OP_fighter R) {k : Nat} (hk : 7 * k + 7 ≤ Ln) (hLn : Ln ≤ 3584) {x : zsX} {m : zsM} (hR : R k x m) (kk : ∀ (x2 : zsX) (m2 : zsM), R (k + 1) x2 m2 → Go X (zwM c r m2 ++ zwX c q x2) [(0, .ref b), (1, .ref (q 17)), (2, .ref (r 0)), (3, .int (nI (7 * k)))] 902 []) : Go X (zwM c r m ++ zwX c q x) [(0, .ref b), (1, .ref (q 17)), (2, .ref (r 0)), (3, .int (nI (7 * k)))] 563 [] := by
  obtain ⟨v, e1, e2, hR2⟩ := hop k x m (xs (nI (7 * k) + nI 1).toNatClampNeg) (xs (nI (7 * k) + nI 2).toNatClampNeg) (by omega) hR
  refine g_aload_n (pc := 563) hX d_La_law_563 rfl 1 rfl ?_
  refine g_aload_n (pc := 564) hX d_La_law_564 rfl 0 rfl ?_
  refine g_iload_n (pc := 565) hX d_La_law_565 rfl 3 rfl ?_
  refine g_iconst (pc := 566) (v := nI 1) hX d_La_law_566 zc_1 ?_
  refine g_iadd (pc := 567) hX d_La_law_567 ?_
  refine g_sld (pc := 568) hX hs (zvin hk hLn 1 (by omega)) d_La_law_568 ?_
  refine g_aload_n (pc := 569) hX d_La_law_569 rfl 0 rfl ?_
  refine g_iload_n (pc := 570) hX d_La_law_570 rfl 3 rfl ?_
  refine g_iconst (pc := 571) (v := nI 2) hX d_La_law_571 zc_2 ?_
  refine g_iadd (pc := 572) hX d_La_law_572 ?_
  refine g_sld (pc := 573) hX hs (zvin hk hLn 2 (by omega)) d_La_law_573 ?_
  refine g_cvI (pc := 574) (w1 := zwM c r m) (w2 := []) (st := []) (w' := (zwM c r m ++ zwX c q x)) hX zk_EL_fighter zs_EL_fighter zL_La_70 (c_EL_fighter c q x (xs (nI (7 * k) + nI 1).toNatClampNeg) (xs (nI (7 * k) + nI 2).toNatClampNeg) e1) rfl rfl rfl rfl (by rw [List.append_nil]) (by rw [List.append_nil]) 26 9 rfl rfl rfl d_La_law_574 ?_
  refine g_aload_n (pc := 577) hX d_La_law_577 rfl 2 rfl ?_
  refine g_aload_n (pc := 578) hX d_La_law_578 rfl 0 rfl ?_
  refine g_iload_n (pc := 579) hX d_La_law_579 rfl 3 rfl ?_
  refine g_iconst (pc := 580) (v := nI 1) hX d_La_law_580 zc_1 ?_
  refine g_iadd (pc := 581) hX d_La_law_581 ?_
  refine g_sld (pc := 582) hX hs (zvin hk hLn 1 (by omega)) d_La_law_582 ?_
  refine g_aload_n (pc := 583) hX d_La_law_583 rfl 0 rfl ?_
  refine g_iload_n (pc := 584) hX d_La_law_584 rfl 3 rfl ?_
  refine g_iconst (pc := 585) (v := nI 2) hX d_La_law_585 zc_2 ?_
  refine g_iadd (pc := 586) hX d_La_law_586 ?_
  refine g_sld (pc := 587) hX hs (zvin hk hLn 2 (by omega)) d_La_law_587 ?_
  refine g_cvI (pc := 588) (w1 := []) (w2 := zwX c q x) (st := [.int v]) (w' := (zwM c r m ++ zwX c q x)) hX zk_Mo_fighter zs_Mo_fighter zL_La_74 (c_Mo_fighter c r m (xs (nI (7 * k) + nI 1).toNatClampNeg) (xs (nI (7 * k) + nI 2).toNatClampNeg) e2) rfl rfl rfl rfl rfl rfl 0 10 rfl rfl rfl d_La_law_588 ?_
  refine g_icmp_eq (pc := 591) (tgt := 902) (K := some ()) (K2 := some ()) (o := ()) hX d_La_law_591 (by decide) (by split <;> rfl) (fun _ _ => ?_) (fun c9 _ => absurd rfl c9)
  exact kk x m hR2
set_option maxRecDepth 20000 in
theorem lc_turn {X : zX} {c : zY} {b Ln : Nat} {xs : Nat → Int32} {q r : Nat → Nat} (hX : Ok X zr_La code 4 10 c) (hs : Sc X b Ln xs) {R : Nat → zsX → zsM → Prop} (hop : OP_turn R) {k : Nat} (hk : 7 * k + 7 ≤ Ln) (hLn : Ln ≤ 3584) {x : zsX} {m : zsM} (hR : R k x m) (kk : ∀ (x2 : zsX) (m2 : zsM), R (k + 1) x2 m2 → Go X (zwM c r m2 ++ zwX c q x2) [(0, .ref b), (1, .ref (q 17)), (2, .ref (r 0)), (3, .int (nI (7 * k)))] 902 []) : Go X (zwM c r m ++ zwX c q x) [(0, .ref b), (1, .ref (q 17)), (2, .ref (r 0)), (3, .int (nI (7 * k)))] 596 [] := by
  obtain ⟨v, e1, e2, hR2⟩ := hop k x m (xs (nI (7 * k) + nI 1).toNatClampNeg) (by omega) hR
  refine g_aload_n (pc := 596) hX d_La_law_596 rfl 1 rfl ?_
  refine g_aload_n (pc := 597) hX d_La_law_597 rfl 0 rfl ?_
  refine g_iload_n (pc := 598) hX d_La_law_598 rfl 3 rfl ?_
  refine g_iconst (pc := 599) (v := nI 1) hX d_La_law_599 zc_1 ?_
  refine g_iadd (pc := 600) hX d_La_law_600 ?_
  refine g_sld (pc := 601) hX hs (zvin hk hLn 1 (by omega)) d_La_law_601 ?_
  refine g_cvI (pc := 602) (w1 := zwM c r m) (w2 := []) (st := []) (w' := (zwM c r m ++ zwX c q x)) hX zk_EL_turn zs_EL_turn zL_La_75 (c_EL_turn c q x (xs (nI (7 * k) + nI 1).toNatClampNeg) e1) rfl rfl rfl rfl (by rw [List.append_nil]) (by rw [List.append_nil]) 26 9 rfl rfl rfl d_La_law_602 ?_
  refine g_aload_n (pc := 605) hX d_La_law_605 rfl 2 rfl ?_
  refine g_aload_n (pc := 606) hX d_La_law_606 rfl 0 rfl ?_
  refine g_iload_n (pc := 607) hX d_La_law_607 rfl 3 rfl ?_
  refine g_iconst (pc := 608) (v := nI 1) hX d_La_law_608 zc_1 ?_
  refine g_iadd (pc := 609) hX d_La_law_609 ?_
  refine g_sld (pc := 610) hX hs (zvin hk hLn 1 (by omega)) d_La_law_610 ?_
  refine g_cvI (pc := 611) (w1 := []) (w2 := zwX c q x) (st := [.int v]) (w' := (zwM c r m ++ zwX c q x)) hX zk_Mo_turn zs_Mo_turn zL_La_78 (c_Mo_turn c r m (xs (nI (7 * k) + nI 1).toNatClampNeg) e2) rfl rfl rfl rfl rfl rfl 0 10 rfl rfl rfl d_La_law_611 ?_
  refine g_icmp_eq (pc := 614) (tgt := 902) (K := some ()) (K2 := some ()) (o := ()) hX d_La_law_614 (by decide) (by split <;> rfl) (fun _ _ => ?_) (fun c9 _ => absurd rfl c9)
  exact kk x m hR2
set_option maxRecDepth 20000 in
theorem lc_condition {X : zX} {c : zY} {b Ln : Nat} {xs : Nat → Int32} {q r : Nat → Nat} (hX : Ok X zr_La code 4 10 c) (hs : Sc X b Ln xs) {R : Nat → zsX → zsM → Prop} (hop : OP_condition R) {k : Nat} (hk : 7 * k + 7 ≤ Ln) (hLn : Ln ≤ 3584) {x : zsX} {m : zsM} (hR : R k x m) (kk : ∀ (x2 : zsX) (m2 : zsM), R (k + 1) x2 m2 → Go X (zwM c r m2 ++ zwX c q x2) [(0, .ref b), (1, .ref (q 17)), (2, .ref (r 0)), (3, .int (nI (7 * k)))] 902 []) : Go X (zwM c r m ++ zwX c q x) [(0, .ref b), (1, .ref (q 17)), (2, .ref (r 0)), (3, .int (nI (7 * k)))] 619 [] := by
  obtain ⟨v, e1, e2, hR2⟩ := hop k x m (xs (nI (7 * k) + nI 1).toNatClampNeg) (xs (nI (7 * k) + nI 2).toNatClampNeg) (by omega) hR
  refine g_aload_n (pc := 619) hX d_La_law_619 rfl 1 rfl ?_
  refine g_aload_n (pc := 620) hX d_La_law_620 rfl 0 rfl ?_
  refine g_iload_n (pc := 621) hX d_La_law_621 rfl 3 rfl ?_
  refine g_iconst (pc := 622) (v := nI 1) hX d_La_law_622 zc_1 ?_
  refine g_iadd (pc := 623) hX d_La_law_623 ?_
  refine g_sld (pc := 624) hX hs (zvin hk hLn 1 (by omega)) d_La_law_624 ?_
  refine g_aload_n (pc := 625) hX d_La_law_625 rfl 0 rfl ?_
  refine g_iload_n (pc := 626) hX d_La_law_626 rfl 3 rfl ?_
  refine g_iconst (pc := 627) (v := nI 2) hX d_La_law_627 zc_2 ?_
  refine g_iadd (pc := 628) hX d_La_law_628 ?_
  refine g_sld (pc := 629) hX hs (zvin hk hLn 2 (by omega)) d_La_law_629 ?_
  refine g_cvI (pc := 630) (w1 := zwM c r m) (w2 := []) (st := []) (w' := (zwM c r m ++ zwX c q x)) hX zk_EL_condition zs_EL_condition zL_La_79 (c_EL_condition c q x (xs (nI (7 * k) + nI 1).toNatClampNeg) (xs (nI (7 * k) + nI 2).toNatClampNeg) e1) rfl rfl rfl rfl (by rw [List.append_nil]) (by rw [List.append_nil]) 26 9 rfl rfl rfl d_La_law_630 ?_
  refine g_aload_n (pc := 633) hX d_La_law_633 rfl 2 rfl ?_
  refine g_aload_n (pc := 634) hX d_La_law_634 rfl 0 rfl ?_
  refine g_iload_n (pc := 635) hX d_La_law_635 rfl 3 rfl ?_
  refine g_iconst (pc := 636) (v := nI 1) hX d_La_law_636 zc_1 ?_
  refine g_iadd (pc := 637) hX d_La_law_637 ?_
  refine g_sld (pc := 638) hX hs (zvin hk hLn 1 (by omega)) d_La_law_638 ?_
  refine g_aload_n (pc := 639) hX d_La_law_639 rfl 0 rfl ?_
  refine g_iload_n (pc := 640) hX d_La_law_640 rfl 3 rfl ?_
  refine g_iconst (pc := 641) (v := nI 2) hX d_La_law_641 zc_2 ?_
  refine g_iadd (pc := 642) hX d_La_law_642 ?_
  refine g_sld (pc := 643) hX hs (zvin hk hLn 2 (by omega)) d_La_law_643 ?_
  refine g_cvI (pc := 644) (w1 := []) (w2 := zwX c q x) (st := [.int v]) (w' := (zwM c r m ++ zwX c q x)) hX zk_Mo_condition zs_Mo_condition zL_La_82 (c_Mo_condition c r m (xs (nI (7 * k) + nI 1).toNatClampNeg) (xs (nI (7 * k) + nI 2).toNatClampNeg) e2) rfl rfl rfl rfl rfl rfl 0 10 rfl rfl rfl d_La_law_644 ?_
  refine g_icmp_eq (pc := 647) (tgt := 902) (K := some ()) (K2 := some ()) (o := ()) hX d_La_law_647 (by decide) (by split <;> rfl) (fun _ _ => ?_) (fun c9 _ => absurd rfl c9)
  exact kk x m hR2
set_option maxRecDepth 20000 in
theorem lc_area {X : zX} {c : zY} {b Ln : Nat} {xs : Nat → Int32} {q r : Nat → Nat} (hX : Ok X zr_La code 4 10 c) (hs : Sc X b Ln xs) {R : Nat → zsX → zsM → Prop} (hop : OP_area R) {k : Nat} (hk : 7 * k + 7 ≤ Ln) (hLn : Ln ≤ 3584) {x : zsX} {m : zsM} (hR : R k x m) (kk : ∀ (x2 : zsX) (m2 : zsM), R (k + 1) x2 m2 → Go X (zwM c r m2 ++ zwX c q x2) [(0, .ref b), (1, .ref (q 17)), (2, .ref (r 0)), (3, .int (nI (7 * k)))] 902 []) : Go X (zwM c r m ++ zwX c q x) [(0, .ref b), (1, .ref (q 17)), (2, .ref (r 0)), (3, .int (nI (7 * k)))] 652 [] := by
  obtain ⟨v, m2, e1, e2, hR2⟩ := hop k x m (xs (nI (7 * k) + nI 1).toNatClampNeg) (xs (nI (7 * k) + nI 2).toNatClampNeg) (xs (nI (7 * k) + nI 3).toNatClampNeg) (xs (nI (7 * k) + nI 4).toNatClampNeg) (xs (nI (7 * k) + nI 5).toNatClampNeg) (by omega) hR
  refine g_aload_n (pc := 652) hX d_La_law_652 rfl 1 rfl ?_
  refine g_aload_n (pc := 653) hX d_La_law_653 rfl 0 rfl ?_
  refine g_iload_n (pc := 654) hX d_La_law_654 rfl 3 rfl ?_
  refine g_iconst (pc := 655) (v := nI 1) hX d_La_law_655 zc_1 ?_
  refine g_iadd (pc := 656) hX d_La_law_656 ?_
  refine g_sld (pc := 657) hX hs (zvin hk hLn 1 (by omega)) d_La_law_657 ?_
  refine g_aload_n (pc := 658) hX d_La_law_658 rfl 0 rfl ?_
  refine g_iload_n (pc := 659) hX d_La_law_659 rfl 3 rfl ?_
  refine g_iconst (pc := 660) (v := nI 2) hX d_La_law_660 zc_2 ?_
  refine g_iadd (pc := 661) hX d_La_law_661 ?_
  refine g_sld (pc := 662) hX hs (zvin hk hLn 2 (by omega)) d_La_law_662 ?_
  refine g_aload_n (pc := 663) hX d_La_law_663 rfl 0 rfl ?_
  refine g_iload_n (pc := 664) hX d_La_law_664 rfl 3 rfl ?_
  refine g_iconst (pc := 665) (v := nI 3) hX d_La_law_665 zc_3 ?_
  refine g_iadd (pc := 666) hX d_La_law_666 ?_
  refine g_sld (pc := 667) hX hs (zvin hk hLn 3 (by omega)) d_La_law_667 ?_
  refine g_aload_n (pc := 668) hX d_La_law_668 rfl 0 rfl ?_
  refine g_iload_n (pc := 669) hX d_La_law_669 rfl 3 rfl ?_
  refine g_iconst (pc := 670) (v := nI 4) hX d_La_law_670 zc_4 ?_
  refine g_iadd (pc := 671) hX d_La_law_671 ?_
  refine g_sld (pc := 672) hX hs (zvin hk hLn 4 (by omega)) d_La_law_672 ?_
  refine g_aload_n (pc := 673) hX d_La_law_673 rfl 0 rfl ?_
  refine g_iload_n (pc := 674) hX d_La_law_674 rfl 3 rfl ?_
  refine g_iconst (pc := 675) (v := nI 5) hX d_La_law_675 zc_5 ?_
  refine g_iadd (pc := 676) hX d_La_law_676 ?_
  refine g_sld (pc := 677) hX hs (zvin hk hLn 5 (by omega)) d_La_law_677 ?_
  refine g_cvI (pc := 678) (w1 := zwM c r m) (w2 := []) (st := []) (w' := (zwM c r m ++ zwX c q x)) hX zk_EL_area zs_EL_area zL_La_83 (c_EL_area c q x (xs (nI (7 * k) + nI 1).toNatClampNeg) (xs (nI (7 * k) + nI 2).toNatClampNeg) (xs (nI (7 * k) + nI 3).toNatClampNeg) (xs (nI (7 * k) + nI 4).toNatClampNeg) (xs (nI (7 * k) + nI 5).toNatClampNeg) e1) rfl rfl rfl rfl (by rw [List.append_nil]) (by rw [List.append_nil]) 26 9 rfl rfl rfl d_La_law_678 ?_
  refine g_aload_n (pc := 681) hX d_La_law_681 rfl 2 rfl ?_
  refine g_aload_n (pc := 682) hX d_La_law_682 rfl 0 rfl ?_
  refine g_iload_n (pc := 683) hX d_La_law_683 rfl 3 rfl ?_
  refine g_iconst (pc := 684) (v := nI 1) hX d_La_law_684 zc_1 ?_
  refine g_iadd (pc := 685) hX d_La_law_685 ?_
  refine g_sld (pc := 686) hX hs (zvin hk hLn 1 (by omega)) d_La_law_686 ?_
  refine g_aload_n (pc := 687) hX d_La_law_687 rfl 0 rfl ?_
  refine g_iload_n (pc := 688) hX d_La_law_688 rfl 3 rfl ?_
  refine g_iconst (pc := 689) (v := nI 2) hX d_La_law_689 zc_2 ?_
  refine g_iadd (pc := 690) hX d_La_law_690 ?_
  refine g_sld (pc := 691) hX hs (zvin hk hLn 2 (by omega)) d_La_law_691 ?_
  refine g_aload_n (pc := 692) hX d_La_law_692 rfl 0 rfl ?_
  refine g_iload_n (pc := 693) hX d_La_law_693 rfl 3 rfl ?_
  refine g_iconst (pc := 694) (v := nI 3) hX d_La_law_694 zc_3 ?_
  refine g_iadd (pc := 695) hX d_La_law_695 ?_
  refine g_sld (pc := 696) hX hs (zvin hk hLn 3 (by omega)) d_La_law_696 ?_
  refine g_aload_n (pc := 697) hX d_La_law_697 rfl 0 rfl ?_
  refine g_iload_n (pc := 698) hX d_La_law_698 rfl 3 rfl ?_
  refine g_iconst (pc := 699) (v := nI 4) hX d_La_law_699 zc_4 ?_
  refine g_iadd (pc := 700) hX d_La_law_700 ?_
  refine g_sld (pc := 701) hX hs (zvin hk hLn 4 (by omega)) d_La_law_701 ?_
  refine g_aload_n (pc := 702) hX d_La_law_702 rfl 0 rfl ?_
  refine g_iload_n (pc := 703) hX d_La_law_703 rfl 3 rfl ?_
  refine g_iconst (pc := 704) (v := nI 5) hX d_La_law_704 zc_5 ?_
  refine g_iadd (pc := 705) hX d_La_law_705 ?_
  refine g_sld (pc := 706) hX hs (zvin hk hLn 5 (by omega)) d_La_law_706 ?_
  refine g_cvI (pc := 707) (w1 := []) (w2 := zwX c q x) (st := [.int v]) (w' := (zwM c r m2 ++ zwX c q x)) hX zk_Mo_area zs_Mo_area zL_La_86 (c_Mo_area c r m (xs (nI (7 * k) + nI 1).toNatClampNeg) (xs (nI (7 * k) + nI 2).toNatClampNeg) (xs (nI (7 * k) + nI 3).toNatClampNeg) (xs (nI (7 * k) + nI 4).toNatClampNeg) (xs (nI (7 * k) + nI 5).toNatClampNeg) e2) rfl rfl rfl rfl rfl rfl 0 10 rfl rfl rfl d_La_law_707 ?_
  refine g_icmp_eq (pc := 710) (tgt := 902) (K := some ()) (K2 := some ()) (o := ()) hX d_La_law_710 (by decide) (by split <;> rfl) (fun _ _ => ?_) (fun c9 _ => absurd rfl c9)
  exact kk x m2 hR2
set_option maxRecDepth 20000 in
theorem lc_way {X : zX} {c : zY} {b Ln : Nat} {xs : Nat → Int32} {q r : Nat → Nat} (hX : Ok X zr_La code 4 10 c) (hs : Sc X b Ln xs) {R : Nat → zsX → zsM → Prop} (hop : OP_way R) {k : Nat} (hk : 7 * k + 7 ≤ Ln) (hLn : Ln ≤ 3584) {x : zsX} {m : zsM} (hR : R k x m) (kk : ∀ (x2 : zsX) (m2 : zsM), R (k + 1) x2 m2 → Go X (zwM c r m2 ++ zwX c q x2) [(0, .ref b), (1, .ref (q 17)), (2, .ref (r 0)), (3, .int (nI (7 * k)))] 902 []) : Go X (zwM c r m ++ zwX c q x) [(0, .ref b), (1, .ref (q 17)), (2, .ref (r 0)), (3, .int (nI (7 * k)))] 715 [] := by
  obtain ⟨v, x2, m2, e1, e2, hR2⟩ := hop k x m (xs (nI (7 * k) + nI 1).toNatClampNeg) (by omega) hR
  refine g_aload_n (pc := 715) hX d_La_law_715 rfl 1 rfl ?_
  refine g_aload_n (pc := 716) hX d_La_law_716 rfl 0 rfl ?_
  refine g_iload_n (pc := 717) hX d_La_law_717 rfl 3 rfl ?_
  refine g_iconst (pc := 718) (v := nI 1) hX d_La_law_718 zc_1 ?_
  refine g_iadd (pc := 719) hX d_La_law_719 ?_
  refine g_sld (pc := 720) hX hs (zvin hk hLn 1 (by omega)) d_La_law_720 ?_
  refine g_cvI (pc := 721) (w1 := zwM c r m) (w2 := []) (st := []) (w' := (zwM c r m ++ zwX c q x2)) hX zk_EL_way zs_EL_way zL_La_87 (c_EL_way c q x (xs (nI (7 * k) + nI 1).toNatClampNeg) e1) rfl rfl rfl rfl (by rw [List.append_nil]) (by rw [List.append_nil]) 26 9 rfl rfl rfl d_La_law_721 ?_
  refine g_aload_n (pc := 724) hX d_La_law_724 rfl 2 rfl ?_
  refine g_aload_n (pc := 725) hX d_La_law_725 rfl 0 rfl ?_
  refine g_iload_n (pc := 726) hX d_La_law_726 rfl 3 rfl ?_
  refine g_iconst (pc := 727) (v := nI 1) hX d_La_law_727 zc_1 ?_
  refine g_iadd (pc := 728) hX d_La_law_728 ?_
  refine g_sld (pc := 729) hX hs (zvin hk hLn 1 (by omega)) d_La_law_729 ?_
  refine g_cvI (pc := 730) (w1 := []) (w2 := zwX c q x2) (st := [.int v]) (w' := (zwM c r m2 ++ zwX c q x2)) hX zk_Mo_way zs_Mo_way zL_La_90 (c_Mo_way c r m (xs (nI (7 * k) + nI 1).toNatClampNeg) e2) rfl rfl rfl rfl rfl rfl 0 10 rfl rfl rfl d_La_law_730 ?_
  refine g_icmp_eq (pc := 733) (tgt := 902) (K := some ()) (K2 := some ()) (o := ()) hX d_La_law_733 (by decide) (by split <;> rfl) (fun _ _ => ?_) (fun c9 _ => absurd rfl c9)
  exact kk x2 m2 hR2
set_option maxRecDepth 20000 in
theorem lc_entry {X : zX} {c : zY} {b Ln : Nat} {xs : Nat → Int32} {q r : Nat → Nat} (hX : Ok X zr_La code 4 10 c) (hs : Sc X b Ln xs) {R : Nat → zsX → zsM → Prop} (hop : OP_entry R) {k : Nat} (hk : 7 * k + 7 ≤ Ln) (hLn : Ln ≤ 3584) {x : zsX} {m : zsM} (hR : R k x m) (kk : ∀ (x2 : zsX) (m2 : zsM), R (k + 1) x2 m2 → Go X (zwM c r m2 ++ zwX c q x2) [(0, .ref b), (1, .ref (q 17)), (2, .ref (r 0)), (3, .int (nI (7 * k)))] 902 []) : Go X (zwM c r m ++ zwX c q x) [(0, .ref b), (1, .ref (q 17)), (2, .ref (r 0)), (3, .int (nI (7 * k)))] 738 [] := by
  obtain ⟨v, e1, e2, hR2⟩ := hop k x m (xs (nI (7 * k) + nI 1).toNatClampNeg) (xs (nI (7 * k) + nI 2).toNatClampNeg) (by omega) hR
  refine g_aload_n (pc := 738) hX d_La_law_738 rfl 1 rfl ?_
  refine g_aload_n (pc := 739) hX d_La_law_739 rfl 0 rfl ?_
  refine g_iload_n (pc := 740) hX d_La_law_740 rfl 3 rfl ?_
  refine g_iconst (pc := 741) (v := nI 1) hX d_La_law_741 zc_1 ?_
  refine g_iadd (pc := 742) hX d_La_law_742 ?_
  refine g_sld (pc := 743) hX hs (zvin hk hLn 1 (by omega)) d_La_law_743 ?_
  refine g_aload_n (pc := 744) hX d_La_law_744 rfl 0 rfl ?_
  refine g_iload_n (pc := 745) hX d_La_law_745 rfl 3 rfl ?_
  refine g_iconst (pc := 746) (v := nI 2) hX d_La_law_746 zc_2 ?_
  refine g_iadd (pc := 747) hX d_La_law_747 ?_
  refine g_sld (pc := 748) hX hs (zvin hk hLn 2 (by omega)) d_La_law_748 ?_
  refine g_cvI (pc := 749) (w1 := zwM c r m) (w2 := []) (st := []) (w' := (zwM c r m ++ zwX c q x)) hX zk_EL_entry zs_EL_entry zL_La_91 (c_EL_entry c q x (xs (nI (7 * k) + nI 1).toNatClampNeg) (xs (nI (7 * k) + nI 2).toNatClampNeg) e1) rfl rfl rfl rfl (by rw [List.append_nil]) (by rw [List.append_nil]) 26 9 rfl rfl rfl d_La_law_749 ?_
  refine g_aload_n (pc := 752) hX d_La_law_752 rfl 2 rfl ?_
  refine g_aload_n (pc := 753) hX d_La_law_753 rfl 0 rfl ?_
  refine g_iload_n (pc := 754) hX d_La_law_754 rfl 3 rfl ?_
  refine g_iconst (pc := 755) (v := nI 1) hX d_La_law_755 zc_1 ?_
  refine g_iadd (pc := 756) hX d_La_law_756 ?_
  refine g_sld (pc := 757) hX hs (zvin hk hLn 1 (by omega)) d_La_law_757 ?_
  refine g_aload_n (pc := 758) hX d_La_law_758 rfl 0 rfl ?_
  refine g_iload_n (pc := 759) hX d_La_law_759 rfl 3 rfl ?_
  refine g_iconst (pc := 760) (v := nI 2) hX d_La_law_760 zc_2 ?_
  refine g_iadd (pc := 761) hX d_La_law_761 ?_
  refine g_sld (pc := 762) hX hs (zvin hk hLn 2 (by omega)) d_La_law_762 ?_
  refine g_cvI (pc := 763) (w1 := []) (w2 := zwX c q x) (st := [.int v]) (w' := (zwM c r m ++ zwX c q x)) hX zk_Mo_entry zs_Mo_entry zL_La_94 (c_Mo_entry c r m (xs (nI (7 * k) + nI 1).toNatClampNeg) (xs (nI (7 * k) + nI 2).toNatClampNeg) e2) rfl rfl rfl rfl rfl rfl 0 10 rfl rfl rfl d_La_law_763 ?_
  refine g_icmp_eq (pc := 766) (tgt := 902) (K := some ()) (K2 := some ()) (o := ()) hX d_La_law_766 (by decide) (by split <;> rfl) (fun _ _ => ?_) (fun c9 _ => absurd rfl c9)
  exact kk x m hR2
set_option maxRecDepth 20000 in
theorem lc_replayed {X : zX} {c : zY} {b Ln : Nat} {xs : Nat → Int32} {q r : Nat → Nat} (hX : Ok X zr_La code 4 10 c) (hs : Sc X b Ln xs) {R : Nat → zsX → zsM → Prop} (hop : OP_replayed R) {k : Nat} (hk : 7 * k + 7 ≤ Ln) (hLn : Ln ≤ 3584) {x : zsX} {m : zsM} (hR : R k x m) (kk : ∀ (x2 : zsX) (m2 : zsM), R (k + 1) x2 m2 → Go X (zwM c r m2 ++ zwX c q x2) [(0, .ref b), (1, .ref (q 17)), (2, .ref (r 0)), (3, .int (nI (7 * k)))] 902 []) : Go X (zwM c r m ++ zwX c q x) [(0, .ref b), (1, .ref (q 17)), (2, .ref (r 0)), (3, .int (nI (7 * k)))] 771 [] := by
  obtain ⟨v, x2, m2, e1, e2, hR2⟩ := hop k x m (xs (nI (7 * k) + nI 1).toNatClampNeg) (xs (nI (7 * k) + nI 2).toNatClampNeg) (by omega) hR
  refine g_aload_n (pc := 771) hX d_La_law_771 rfl 1 rfl ?_
  refine g_aload_n (pc := 772) hX d_La_law_772 rfl 0 rfl ?_
  refine g_iload_n (pc := 773) hX d_La_law_773 rfl 3 rfl ?_
  refine g_iconst (pc := 774) (v := nI 1) hX d_La_law_774 zc_1 ?_
  refine g_iadd (pc := 775) hX d_La_law_775 ?_
  refine g_sld (pc := 776) hX hs (zvin hk hLn 1 (by omega)) d_La_law_776 ?_
  refine g_aload_n (pc := 777) hX d_La_law_777 rfl 0 rfl ?_
  refine g_iload_n (pc := 778) hX d_La_law_778 rfl 3 rfl ?_
  refine g_iconst (pc := 779) (v := nI 2) hX d_La_law_779 zc_2 ?_
  refine g_iadd (pc := 780) hX d_La_law_780 ?_
  refine g_sld (pc := 781) hX hs (zvin hk hLn 2 (by omega)) d_La_law_781 ?_
  refine g_cvI (pc := 782) (w1 := zwM c r m) (w2 := []) (st := []) (w' := (zwM c r m ++ zwX c q x2)) hX zk_EL_replayed zs_EL_replayed zL_La_95 (c_EL_replayed c q x (xs (nI (7 * k) + nI 1).toNatClampNeg) (xs (nI (7 * k) + nI 2).toNatClampNeg) e1) rfl rfl rfl rfl (by rw [List.append_nil]) (by rw [List.append_nil]) 26 9 rfl rfl rfl d_La_law_782 ?_
  refine g_aload_n (pc := 785) hX d_La_law_785 rfl 2 rfl ?_
  refine g_aload_n (pc := 786) hX d_La_law_786 rfl 0 rfl ?_
  refine g_iload_n (pc := 787) hX d_La_law_787 rfl 3 rfl ?_
  refine g_iconst (pc := 788) (v := nI 1) hX d_La_law_788 zc_1 ?_
  refine g_iadd (pc := 789) hX d_La_law_789 ?_
  refine g_sld (pc := 790) hX hs (zvin hk hLn 1 (by omega)) d_La_law_790 ?_
  refine g_aload_n (pc := 791) hX d_La_law_791 rfl 0 rfl ?_
  refine g_iload_n (pc := 792) hX d_La_law_792 rfl 3 rfl ?_
  refine g_iconst (pc := 793) (v := nI 2) hX d_La_law_793 zc_2 ?_
  refine g_iadd (pc := 794) hX d_La_law_794 ?_
  refine g_sld (pc := 795) hX hs (zvin hk hLn 2 (by omega)) d_La_law_795 ?_
  refine g_cvI (pc := 796) (w1 := []) (w2 := zwX c q x2) (st := [.int v]) (w' := (zwM c r m2 ++ zwX c q x2)) hX zk_Mo_replayed zs_Mo_replayed zL_La_98 (c_Mo_replayed c r m (xs (nI (7 * k) + nI 1).toNatClampNeg) (xs (nI (7 * k) + nI 2).toNatClampNeg) e2) rfl rfl rfl rfl rfl rfl 0 10 rfl rfl rfl d_La_law_796 ?_
  refine g_icmp_eq (pc := 799) (tgt := 902) (K := some ()) (K2 := some ()) (o := ()) hX d_La_law_799 (by decide) (by split <;> rfl) (fun _ _ => ?_) (fun c9 _ => absurd rfl c9)
  exact kk x2 m2 hR2
set_option maxRecDepth 20000 in
theorem lc_reason {X : zX} {c : zY} {b Ln : Nat} {xs : Nat → Int32} {q r : Nat → Nat} (hX : Ok X zr_La code 4 10 c) (hs : Sc X b Ln xs) {R : Nat → zsX → zsM → Prop} (hop : OP_reason R) {k : Nat} (hk : 7 * k + 7 ≤ Ln) (hLn : Ln ≤ 3584) {x : zsX} {m : zsM} (hR : R k x m) (kk : ∀ (x2 : zsX) (m2 : zsM), R (k + 1) x2 m2 → Go X (zwM c r m2 ++ zwX c q x2) [(0, .ref b), (1, .ref (q 17)), (2, .ref (r 0)), (3, .int (nI (7 * k)))] 902 []) : Go X (zwM c r m ++ zwX c q x) [(0, .ref b), (1, .ref (q 17)), (2, .ref (r 0)), (3, .int (nI (7 * k)))] 804 [] := by
  obtain ⟨v, e1, e2, hR2⟩ := hop k x m (by omega) hR
  refine g_aload_n (pc := 804) hX d_La_law_804 rfl 1 rfl ?_
  refine g_cvI (pc := 805) (w1 := zwM c r m) (w2 := []) (st := []) (w' := (zwM c r m ++ zwX c q x)) hX zk_EL_reason zs_EL_reason zL_La_99 (c_EL_reason c q x e1) rfl rfl rfl rfl (by rw [List.append_nil]) (by rw [List.append_nil]) 26 9 rfl rfl rfl d_La_law_805 ?_
  refine g_aload_n (pc := 808) hX d_La_law_808 rfl 2 rfl ?_
  refine g_cvI (pc := 809) (w1 := []) (w2 := zwX c q x) (st := [.int v]) (w' := (zwM c r m ++ zwX c q x)) hX zk_Mo_reason zs_Mo_reason zL_La_102 (c_Mo_reason c r m e2) rfl rfl rfl rfl rfl rfl 0 10 rfl rfl rfl d_La_law_809 ?_
  refine g_icmp_eq (pc := 812) (tgt := 902) (K := some ()) (K2 := some ()) (o := ()) hX d_La_law_812 (by decide) (by split <;> rfl) (fun _ _ => ?_) (fun c9 _ => absurd rfl c9)
  exact kk x m hR2
set_option maxRecDepth 20000 in
theorem lc_account {X : zX} {c : zY} {b Ln : Nat} {xs : Nat → Int32} {q r : Nat → Nat} (hX : Ok X zr_La code 4 10 c) (hs : Sc X b Ln xs) {R : Nat → zsX → zsM → Prop} (hop : OP_account R) {k : Nat} (hk : 7 * k + 7 ≤ Ln) (hLn : Ln ≤ 3584) {x : zsX} {m : zsM} (hR : R k x m) (kk : ∀ (x2 : zsX) (m2 : zsM), R (k + 1) x2 m2 → Go X (zwM c r m2 ++ zwX c q x2) [(0, .ref b), (1, .ref (q 17)), (2, .ref (r 0)), (3, .int (nI (7 * k)))] 902 []) : Go X (zwM c r m ++ zwX c q x) [(0, .ref b), (1, .ref (q 17)), (2, .ref (r 0)), (3, .int (nI (7 * k)))] 817 [] := by
  obtain ⟨v, e1, e2, hR2⟩ := hop k x m (xs (nI (7 * k) + nI 1).toNatClampNeg) (by omega) hR
  refine g_aload_n (pc := 817) hX d_La_law_817 rfl 1 rfl ?_
  refine g_aload_n (pc := 818) hX d_La_law_818 rfl 0 rfl ?_
  refine g_iload_n (pc := 819) hX d_La_law_819 rfl 3 rfl ?_
  refine g_iconst (pc := 820) (v := nI 1) hX d_La_law_820 zc_1 ?_
  refine g_iadd (pc := 821) hX d_La_law_821 ?_
  refine g_sld (pc := 822) hX hs (zvin hk hLn 1 (by omega)) d_La_law_822 ?_
  refine g_cvI (pc := 823) (w1 := zwM c r m) (w2 := []) (st := []) (w' := (zwM c r m ++ zwX c q x)) hX zk_EL_account zs_EL_account zL_La_103 (c_EL_account c q x (xs (nI (7 * k) + nI 1).toNatClampNeg) e1) rfl rfl rfl rfl (by rw [List.append_nil]) (by rw [List.append_nil]) 26 9 rfl rfl rfl d_La_law_823 ?_
  refine g_aload_n (pc := 826) hX d_La_law_826 rfl 2 rfl ?_
  refine g_aload_n (pc := 827) hX d_La_law_827 rfl 0 rfl ?_
  refine g_iload_n (pc := 828) hX d_La_law_828 rfl 3 rfl ?_
  refine g_iconst (pc := 829) (v := nI 1) hX d_La_law_829 zc_1 ?_
  refine g_iadd (pc := 830) hX d_La_law_830 ?_
  refine g_sld (pc := 831) hX hs (zvin hk hLn 1 (by omega)) d_La_law_831 ?_
  refine g_cvI (pc := 832) (w1 := []) (w2 := zwX c q x) (st := [.int v]) (w' := (zwM c r m ++ zwX c q x)) hX zk_Mo_account zs_Mo_account zL_La_106 (c_Mo_account c r m (xs (nI (7 * k) + nI 1).toNatClampNeg) e2) rfl rfl rfl rfl rfl rfl 0 10 rfl rfl rfl d_La_law_832 ?_
  refine g_icmp_eq (pc := 835) (tgt := 902) (K := some ()) (K2 := some ()) (o := ()) hX d_La_law_835 (by decide) (by split <;> rfl) (fun _ _ => ?_) (fun c9 _ => absurd rfl c9)
  exact kk x m hR2
set_option maxRecDepth 20000 in
theorem lc_back {X : zX} {c : zY} {b Ln : Nat} {xs : Nat → Int32} {q r : Nat → Nat} (hX : Ok X zr_La code 4 10 c) (hs : Sc X b Ln xs) {R : Nat → zsX → zsM → Prop} (hop : OP_back R) {k : Nat} (hk : 7 * k + 7 ≤ Ln) (hLn : Ln ≤ 3584) {x : zsX} {m : zsM} (hR : R k x m) (kk : ∀ (x2 : zsX) (m2 : zsM), R (k + 1) x2 m2 → Go X (zwM c r m2 ++ zwX c q x2) [(0, .ref b), (1, .ref (q 17)), (2, .ref (r 0)), (3, .int (nI (7 * k)))] 902 []) : Go X (zwM c r m ++ zwX c q x) [(0, .ref b), (1, .ref (q 17)), (2, .ref (r 0)), (3, .int (nI (7 * k)))] 840 [] := by
  obtain ⟨v, x2, m2, e1, e2, hR2⟩ := hop k x m (by omega) hR
  refine g_aload_n (pc := 840) hX d_La_law_840 rfl 1 rfl ?_
  refine g_cvI (pc := 841) (w1 := zwM c r m) (w2 := []) (st := []) (w' := (zwM c r m ++ zwX c q x2)) hX zk_EL_back zs_EL_back zL_La_107 (c_EL_back c q x e1) rfl rfl rfl rfl (by rw [List.append_nil]) (by rw [List.append_nil]) 26 9 rfl rfl rfl d_La_law_841 ?_
  refine g_aload_n (pc := 844) hX d_La_law_844 rfl 2 rfl ?_
  refine g_cvI (pc := 845) (w1 := []) (w2 := zwX c q x2) (st := [.int v]) (w' := (zwM c r m2 ++ zwX c q x2)) hX zk_Mo_back zs_Mo_back zL_La_110 (c_Mo_back c r m e2) rfl rfl rfl rfl rfl rfl 0 10 rfl rfl rfl d_La_law_845 ?_
  refine g_icmp_eq (pc := 848) (tgt := 902) (K := some ()) (K2 := some ()) (o := ()) hX d_La_law_848 (by decide) (by split <;> rfl) (fun _ _ => ?_) (fun c9 _ => absurd rfl c9)
  exact kk x2 m2 hR2
set_option maxRecDepth 20000 in
theorem lc_image {X : zX} {c : zY} {b Ln : Nat} {xs : Nat → Int32} {q r : Nat → Nat} (hX : Ok X zr_La code 4 10 c) (hs : Sc X b Ln xs) {R : Nat → zsX → zsM → Prop} (hop : OP_image R) {k : Nat} (hk : 7 * k + 7 ≤ Ln) (hLn : Ln ≤ 3584) {x : zsX} {m : zsM} (hR : R k x m) (kk : ∀ (x2 : zsX) (m2 : zsM), R (k + 1) x2 m2 → Go X (zwM c r m2 ++ zwX c q x2) [(0, .ref b), (1, .ref (q 17)), (2, .ref (r 0)), (3, .int (nI (7 * k)))] 902 []) : Go X (zwM c r m ++ zwX c q x) [(0, .ref b), (1, .ref (q 17)), (2, .ref (r 0)), (3, .int (nI (7 * k)))] 853 [] := by
  obtain ⟨v, x2, m2, e1, e2, hR2⟩ := hop k x m (by omega) hR
  refine g_aload_n (pc := 853) hX d_La_law_853 rfl 1 rfl ?_
  refine g_cvI (pc := 854) (w1 := zwM c r m) (w2 := []) (st := []) (w' := (zwM c r m ++ zwX c q x2)) hX zk_EL_image zs_EL_image zL_La_111 (c_EL_image c q x e1) rfl rfl rfl rfl (by rw [List.append_nil]) (by rw [List.append_nil]) 26 9 rfl rfl rfl d_La_law_854 ?_
  refine g_aload_n (pc := 857) hX d_La_law_857 rfl 2 rfl ?_
  refine g_cvI (pc := 858) (w1 := []) (w2 := zwX c q x2) (st := [.int v]) (w' := (zwM c r m2 ++ zwX c q x2)) hX zk_Mo_image zs_Mo_image zL_La_114 (c_Mo_image c r m e2) rfl rfl rfl rfl rfl rfl 0 10 rfl rfl rfl d_La_law_858 ?_
  refine g_icmp_eq (pc := 861) (tgt := 902) (K := some ()) (K2 := some ()) (o := ()) hX d_La_law_861 (by decide) (by split <;> rfl) (fun _ _ => ?_) (fun c9 _ => absurd rfl c9)
  exact kk x2 m2 hR2
set_option maxRecDepth 20000 in
theorem lc_undo {X : zX} {c : zY} {b Ln : Nat} {xs : Nat → Int32} {q r : Nat → Nat} (hX : Ok X zr_La code 4 10 c) (hs : Sc X b Ln xs) {R : Nat → zsX → zsM → Prop} (hop : OP_undo R) {k : Nat} (hk : 7 * k + 7 ≤ Ln) (hLn : Ln ≤ 3584) {x : zsX} {m : zsM} (hR : R k x m) (kk : ∀ (x2 : zsX) (m2 : zsM), R (k + 1) x2 m2 → Go X (zwM c r m2 ++ zwX c q x2) [(0, .ref b), (1, .ref (q 17)), (2, .ref (r 0)), (3, .int (nI (7 * k)))] 902 []) : Go X (zwM c r m ++ zwX c q x) [(0, .ref b), (1, .ref (q 17)), (2, .ref (r 0)), (3, .int (nI (7 * k)))] 866 [] := by
  obtain ⟨v, x2, m2, e1, e2, hR2⟩ := hop k x m (by omega) hR
  refine g_aload_n (pc := 866) hX d_La_law_866 rfl 1 rfl ?_
  refine g_cvI (pc := 867) (w1 := zwM c r m) (w2 := []) (st := []) (w' := (zwM c r m ++ zwX c q x2)) hX zk_EL_undo zs_EL_undo zL_La_115 (c_EL_undo c q x e1) rfl rfl rfl rfl (by rw [List.append_nil]) (by rw [List.append_nil]) 26 9 rfl rfl rfl d_La_law_867 ?_
  refine g_aload_n (pc := 870) hX d_La_law_870 rfl 2 rfl ?_
  refine g_cvI (pc := 871) (w1 := []) (w2 := zwX c q x2) (st := [.int v]) (w' := (zwM c r m2 ++ zwX c q x2)) hX zk_Mo_undo zs_Mo_undo zL_La_118 (c_Mo_undo c r m e2) rfl rfl rfl rfl rfl rfl 0 10 rfl rfl rfl d_La_law_871 ?_
  refine g_icmp_eq (pc := 874) (tgt := 902) (K := some ()) (K2 := some ()) (o := ()) hX d_La_law_874 (by decide) (by split <;> rfl) (fun _ _ => ?_) (fun c9 _ => absurd rfl c9)
  exact kk x2 m2 hR2
set_option maxRecDepth 20000 in
theorem lc_count {X : zX} {c : zY} {b Ln : Nat} {xs : Nat → Int32} {q r : Nat → Nat} (hX : Ok X zr_La code 4 10 c) (hs : Sc X b Ln xs) {R : Nat → zsX → zsM → Prop} (hop : OP_count R) {k : Nat} (hk : 7 * k + 7 ≤ Ln) (hLn : Ln ≤ 3584) {x : zsX} {m : zsM} (hR : R k x m) (kk : ∀ (x2 : zsX) (m2 : zsM), R (k + 1) x2 m2 → Go X (zwM c r m2 ++ zwX c q x2) [(0, .ref b), (1, .ref (q 17)), (2, .ref (r 0)), (3, .int (nI (7 * k)))] 902 []) : Go X (zwM c r m ++ zwX c q x) [(0, .ref b), (1, .ref (q 17)), (2, .ref (r 0)), (3, .int (nI (7 * k)))] 879 [] := by
  obtain ⟨v, e1, e2, hR2⟩ := hop k x m (xs (nI (7 * k) + nI 1).toNatClampNeg) (by omega) hR
  refine g_aload_n (pc := 879) hX d_La_law_879 rfl 1 rfl ?_
  refine g_aload_n (pc := 880) hX d_La_law_880 rfl 0 rfl ?_
  refine g_iload_n (pc := 881) hX d_La_law_881 rfl 3 rfl ?_
  refine g_iconst (pc := 882) (v := nI 1) hX d_La_law_882 zc_1 ?_
  refine g_iadd (pc := 883) hX d_La_law_883 ?_
  refine g_sld (pc := 884) hX hs (zvin hk hLn 1 (by omega)) d_La_law_884 ?_
  refine g_cvI (pc := 885) (w1 := zwM c r m) (w2 := []) (st := []) (w' := (zwM c r m ++ zwX c q x)) hX zk_EL_count zs_EL_count zL_La_119 (c_EL_count c q x (xs (nI (7 * k) + nI 1).toNatClampNeg) e1) rfl rfl rfl rfl (by rw [List.append_nil]) (by rw [List.append_nil]) 26 9 rfl rfl rfl d_La_law_885 ?_
  refine g_aload_n (pc := 888) hX d_La_law_888 rfl 2 rfl ?_
  refine g_aload_n (pc := 889) hX d_La_law_889 rfl 0 rfl ?_
  refine g_iload_n (pc := 890) hX d_La_law_890 rfl 3 rfl ?_
  refine g_iconst (pc := 891) (v := nI 1) hX d_La_law_891 zc_1 ?_
  refine g_iadd (pc := 892) hX d_La_law_892 ?_
  refine g_sld (pc := 893) hX hs (zvin hk hLn 1 (by omega)) d_La_law_893 ?_
  refine g_cvI (pc := 894) (w1 := []) (w2 := zwX c q x) (st := [.int v]) (w' := (zwM c r m ++ zwX c q x)) hX zk_Mo_count zs_Mo_count zL_La_122 (c_Mo_count c r m (xs (nI (7 * k) + nI 1).toNatClampNeg) e2) rfl rfl rfl rfl rfl rfl 0 10 rfl rfl rfl d_La_law_894 ?_
  refine g_icmp_eq (pc := 897) (tgt := 902) (K := some ()) (K2 := some ()) (o := ()) hX d_La_law_897 (by decide) (by split <;> rfl) (fun _ _ => ?_) (fun c9 _ => absurd rfl c9)
  exact kk x m hR2
def OpsOK (R : Nat → zsX → zsM → Prop) : Prop := OP_add R ∧ OP_wall R ∧ OP_amount R ∧ OP_begin R ∧ OP_finish R ∧ OP_endTurn R ∧ OP_delay R ∧ OP_move R ∧ OP_strike R ∧ OP_feed R ∧ OP_power R ∧ OP_cast R ∧ OP_rest R ∧ OP_fighter R ∧ OP_turn R ∧ OP_condition R ∧ OP_area R ∧ OP_way R ∧ OP_entry R ∧ OP_replayed R ∧ OP_reason R ∧ OP_account R ∧ OP_back R ∧ OP_image R ∧ OP_undo R ∧ OP_count R ∧ ∀ (k : Nat) (x : zsX) (m : zsM), R k x m → R (k + 1) x m
set_option maxRecDepth 20000 in
theorem law_902 {X : zX} {c : zY} {b : Nat} {q r : Nat → Nat} {w : va_W} (hX : Ok X zr_La code 4 10 c) {k : Nat} (kk : Go X w [(0, .ref b), (1, .ref (q 17)), (2, .ref (r 0)), (3, .int (nI (7 * (k + 1))))] 18 []) : Go X w [(0, .ref b), (1, .ref (q 17)), (2, .ref (r 0)), (3, .int (nI (7 * k)))] 902 [] := by
  have e : nI (7 * k) + (7 : Int32) = nI (7 * (k + 1)) := nI_add (7 * k) 7
  refine g_iinc (pc := 902) (q := 3) (L' := [(3, .int (nI (7 * k) + (7 : Int32))), (0, .ref b), (1, .ref (q 17)), (2, .ref (r 0))]) hX d_La_law_902 rfl zc_7 rfl rfl ?_
  refine g_goto (pc := 905) (tgt := 18) hX d_La_law_905 (by decide) ?_
  rw [e]
  refine g_ls (L' := [(0, .ref b), (1, .ref (q 17)), (2, .ref (r 0)), (3, .int (nI (7 * (k + 1))))]) [1, 2, 3, 0] rfl ?_
  exact kk
set_option maxRecDepth 20000 in
theorem law_loop {X : zX} {c : zY} {b Ln : Nat} {xs : Nat → Int32} {q r : Nat → Nat} (hX : Ok X zr_La code 4 10 c) (hL : Lw X b) (hs : Sc X b Ln xs) (hLn : Ln ≤ 3584) {R : Nat → zsX → zsM → Prop} (hops : OpsOK R) : ∀ (n k : Nat) (x : zsX) (m : zsM), 7 * k ≤ Ln → Ln < 7 * k + n → R k x m → Go X (zwM c r m ++ zwX c q x) [(0, .ref b), (1, .ref (q 17)), (2, .ref (r 0)), (3, .int (nI (7 * k)))] 18 [] := by
  obtain ⟨h_add, h_wall, h_amount, h_begin, h_finish, h_endTurn, h_delay, h_move, h_strike, h_feed, h_power, h_cast, h_rest, h_fighter, h_turn, h_condition, h_area, h_way, h_entry, h_replayed, h_reason, h_account, h_back, h_image, h_undo, h_count, hskip⟩ := hops
  intro n
  induction n with
  | zero => intro k x m h1 h2; omega
  | succ n ih =>
    intro k x m h1 h2 hR
    refine g_iload_n (pc := 18) hX d_La_law_18 rfl 3 rfl ?_
    refine g_aload_n (pc := 19) hX d_La_law_19 rfl 0 rfl ?_
    refine g_slen (pc := 20) hX hs d_La_law_20 ?_
    refine g_bipush (pc := 21) (v := (7 : Int32)) hX d_La_law_21 ze_7 ?_
    refine g_isub (pc := 23) hX d_La_law_23 ?_
    refine g_icmp_gt (pc := 24) (tgt := 908) (K := some ()) (K2 := some ()) (o := ()) hX d_La_law_24 (by decide) (by split <;> rfl) (fun _ _ => ?_) (fun c1 _ => ?_)
    · refine g_iconst (pc := 908) hX d_La_law_908 zc_1 ?_
      exact g_lret (pc := 909) hX hL d_La_law_909
    have hk : 7 * k + 7 ≤ Ln := by
      have e1 : (Int32.ofNat Ln - (7 : Int32)).toInt = (Ln : Int) - 7 := pk_sub_toInt (a := Ln) (b := 7) (by omega) (by omega)
      have e2 := Int32.le_iff_toInt_le.mp (Int32.not_lt.mp c1)
      rw [e1, nI_toInt (by omega)] at e2
      omega
    have kk : ∀ (x2 : zsX) (m2 : zsM), R (k + 1) x2 m2 → Go X (zwM c r m2 ++ zwX c q x2) [(0, .ref b), (1, .ref (q 17)), (2, .ref (r 0)), (3, .int (nI (7 * k)))] 902 [] := fun x2 m2 h => law_902 hX (ih (k + 1) x2 m2 (by omega) (by omega) h)
    refine g_aload_n (pc := 27) hX d_La_law_27 rfl 0 rfl ?_
    refine g_iload_n (pc := 28) hX d_La_law_28 rfl 3 rfl ?_
    refine g_sld (pc := 29) hX hs (vp_in_nI (by omega) (by omega)) d_La_law_29 ?_
    refine g_bipush (pc := 30) (v := (31 : Int32)) hX d_La_law_30 ze_31 ?_
    refine g_iand (pc := 32) hX d_La_law_32 ?_
    generalize (xs (nI (7 * k)).toNatClampNeg &&& (31 : Int32)) = z
    by_cases c_0 : z = (0 : Int32)
    · refine g_tswIn (pc := 33) (tgt := 152) (off := 119) hX d_La_law_33 (0 : Int32) c_0 (by decide) (by decide) rfl (by decide) ?_
      exact lc_add hX hs h_add hk hLn hR kk
    by_cases c_1 : z = (1 : Int32)
    · refine g_tswIn (pc := 33) (tgt := 215) (off := 182) hX d_La_law_33 (1 : Int32) c_1 (by decide) (by decide) rfl (by decide) ?_
      exact lc_wall hX hs h_wall hk hLn hR kk
    by_cases c_2 : z = (2 : Int32)
    · refine g_tswIn (pc := 33) (tgt := 238) (off := 205) hX d_La_law_33 (2 : Int32) c_2 (by decide) (by decide) rfl (by decide) ?_
      exact lc_amount hX hs h_amount hk hLn hR kk
    by_cases c_3 : z = (3 : Int32)
    · refine g_tswIn (pc := 33) (tgt := 281) (off := 248) hX d_La_law_33 (3 : Int32) c_3 (by decide) (by decide) rfl (by decide) ?_
      exact lc_begin hX hs h_begin hk hLn hR kk
    by_cases c_4 : z = (4 : Int32)
    · refine g_tswIn (pc := 33) (tgt := 304) (off := 271) hX d_La_law_33 (4 : Int32) c_4 (by decide) (by decide) rfl (by decide) ?_
      exact lc_finish hX hs h_finish hk hLn hR kk
    by_cases c_5 : z = (5 : Int32)
    · refine g_tswIn (pc := 33) (tgt := 317) (off := 284) hX d_La_law_33 (5 : Int32) c_5 (by decide) (by decide) rfl (by decide) ?_
      exact lc_endTurn hX hs h_endTurn hk hLn hR kk
    by_cases c_6 : z = (6 : Int32)
    · refine g_tswIn (pc := 33) (tgt := 330) (off := 297) hX d_La_law_33 (6 : Int32) c_6 (by decide) (by decide) rfl (by decide) ?_
      exact lc_delay hX hs h_delay hk hLn hR kk
    by_cases c_7 : z = (7 : Int32)
    · refine g_tswIn (pc := 33) (tgt := 353) (off := 320) hX d_La_law_33 (7 : Int32) c_7 (by decide) (by decide) rfl (by decide) ?_
      exact lc_move hX hs h_move hk hLn hR kk
    by_cases c_8 : z = (8 : Int32)
    · refine g_tswIn (pc := 33) (tgt := 376) (off := 343) hX d_La_law_33 (8 : Int32) c_8 (by decide) (by decide) rfl (by decide) ?_
      exact lc_strike hX hs h_strike hk hLn hR kk
    by_cases c_9 : z = (9 : Int32)
    · refine g_tswIn (pc := 33) (tgt := 399) (off := 366) hX d_La_law_33 (9 : Int32) c_9 (by decide) (by decide) rfl (by decide) ?_
      exact lc_feed hX hs h_feed hk hLn hR kk
    by_cases c_10 : z = (10 : Int32)
    · refine g_tswIn (pc := 33) (tgt := 474) (off := 441) hX d_La_law_33 (10 : Int32) c_10 (by decide) (by decide) rfl (by decide) ?_
      exact lc_power hX hs h_power hk hLn hR kk
    by_cases c_11 : z = (11 : Int32)
    · refine g_tswIn (pc := 33) (tgt := 497) (off := 464) hX d_La_law_33 (11 : Int32) c_11 (by decide) (by decide) rfl (by decide) ?_
      exact lc_cast hX hs h_cast hk hLn hR kk
    by_cases c_12 : z = (12 : Int32)
    · refine g_tswIn (pc := 33) (tgt := 540) (off := 507) hX d_La_law_33 (12 : Int32) c_12 (by decide) (by decide) rfl (by decide) ?_
      exact lc_rest hX hs h_rest hk hLn hR kk
    by_cases c_13 : z = (13 : Int32)
    · refine g_tswIn (pc := 33) (tgt := 563) (off := 530) hX d_La_law_33 (13 : Int32) c_13 (by decide) (by decide) rfl (by decide) ?_
      exact lc_fighter hX hs h_fighter hk hLn hR kk
    by_cases c_14 : z = (14 : Int32)
    · refine g_tswIn (pc := 33) (tgt := 596) (off := 563) hX d_La_law_33 (14 : Int32) c_14 (by decide) (by decide) rfl (by decide) ?_
      exact lc_turn hX hs h_turn hk hLn hR kk
    by_cases c_15 : z = (15 : Int32)
    · refine g_tswIn (pc := 33) (tgt := 619) (off := 586) hX d_La_law_33 (15 : Int32) c_15 (by decide) (by decide) rfl (by decide) ?_
      exact lc_condition hX hs h_condition hk hLn hR kk
    by_cases c_16 : z = (16 : Int32)
    · refine g_tswIn (pc := 33) (tgt := 652) (off := 619) hX d_La_law_33 (16 : Int32) c_16 (by decide) (by decide) rfl (by decide) ?_
      exact lc_area hX hs h_area hk hLn hR kk
    by_cases c_17 : z = (17 : Int32)
    · refine g_tswIn (pc := 33) (tgt := 715) (off := 682) hX d_La_law_33 (17 : Int32) c_17 (by decide) (by decide) rfl (by decide) ?_
      exact lc_way hX hs h_way hk hLn hR kk
    by_cases c_18 : z = (18 : Int32)
    · refine g_tswIn (pc := 33) (tgt := 738) (off := 705) hX d_La_law_33 (18 : Int32) c_18 (by decide) (by decide) rfl (by decide) ?_
      exact lc_entry hX hs h_entry hk hLn hR kk
    by_cases c_19 : z = (19 : Int32)
    · refine g_tswIn (pc := 33) (tgt := 771) (off := 738) hX d_La_law_33 (19 : Int32) c_19 (by decide) (by decide) rfl (by decide) ?_
      exact lc_replayed hX hs h_replayed hk hLn hR kk
    by_cases c_20 : z = (20 : Int32)
    · refine g_tswIn (pc := 33) (tgt := 804) (off := 771) hX d_La_law_33 (20 : Int32) c_20 (by decide) (by decide) rfl (by decide) ?_
      exact lc_reason hX hs h_reason hk hLn hR kk
    by_cases c_21 : z = (21 : Int32)
    · refine g_tswIn (pc := 33) (tgt := 817) (off := 784) hX d_La_law_33 (21 : Int32) c_21 (by decide) (by decide) rfl (by decide) ?_
      exact lc_account hX hs h_account hk hLn hR kk
    by_cases c_22 : z = (22 : Int32)
    · refine g_tswIn (pc := 33) (tgt := 840) (off := 807) hX d_La_law_33 (22 : Int32) c_22 (by decide) (by decide) rfl (by decide) ?_
      exact lc_back hX hs h_back hk hLn hR kk
    by_cases c_23 : z = (23 : Int32)
    · refine g_tswIn (pc := 33) (tgt := 853) (off := 820) hX d_La_law_33 (23 : Int32) c_23 (by decide) (by decide) rfl (by decide) ?_
      exact lc_image hX hs h_image hk hLn hR kk
    by_cases c_24 : z = (24 : Int32)
    · refine g_tswIn (pc := 33) (tgt := 866) (off := 833) hX d_La_law_33 (24 : Int32) c_24 (by decide) (by decide) rfl (by decide) ?_
      exact lc_undo hX hs h_undo hk hLn hR kk
    by_cases c_25 : z = (25 : Int32)
    · refine g_tswIn (pc := 33) (tgt := 879) (off := 846) hX d_La_law_33 (25 : Int32) c_25 (by decide) (by decide) rfl (by decide) ?_
      exact lc_count hX hs h_count hk hLn hR kk
    refine g_tswOut (pc := 33) (tgt := 902) hX d_La_law_33 (by have a0 := lv_neT c_0 (a := 0) (by decide); have a1 := lv_neT c_1 (a := 1) (by decide); have a2 := lv_neT c_2 (a := 2) (by decide); have a3 := lv_neT c_3 (a := 3) (by decide); have a4 := lv_neT c_4 (a := 4) (by decide); have a5 := lv_neT c_5 (a := 5) (by decide); have a6 := lv_neT c_6 (a := 6) (by decide); have a7 := lv_neT c_7 (a := 7) (by decide); have a8 := lv_neT c_8 (a := 8) (by decide); have a9 := lv_neT c_9 (a := 9) (by decide); have a10 := lv_neT c_10 (a := 10) (by decide); have a11 := lv_neT c_11 (a := 11) (by decide); have a12 := lv_neT c_12 (a := 12) (by decide); have a13 := lv_neT c_13 (a := 13) (by decide); have a14 := lv_neT c_14 (a := 14) (by decide); have a15 := lv_neT c_15 (a := 15) (by decide); have a16 := lv_neT c_16 (a := 16) (by decide); have a17 := lv_neT c_17 (a := 17) (by decide); have a18 := lv_neT c_18 (a := 18) (by decide); have a19 := lv_neT c_19 (a := 19) (by decide); have a20 := lv_neT c_20 (a := 20) (by decide); have a21 := lv_neT c_21 (a := 21) (by decide); have a22 := lv_neT c_22 (a := 22) (by decide); have a23 := lv_neT c_23 (a := 23) (by decide); have a24 := lv_neT c_24 (a := 24) (by decide); have a25 := lv_neT c_25 (a := 25) (by decide); omega) (by decide) ?_
    exact kk x m (hskip k x m hR)
set_option maxHeartbeats 4000000 in
set_option maxRecDepth 100000 in
theorem law_go {p : Program} {e : Env} {s : State} {m : MethodId} {below : List Frame} {meth : Method} {c : Code} (l : Launch) {b L : Nat} {xs : Nat → Int32} (hL : L ≤ 3584) (C0 : lw_At p s m meth c b L xs) {R : Nat → zsX → zsM → Prop} (h0 : R 0 zx0 zm0) (hops : OpsOK R) : W p l e room_1 s m #[Value.ref b] below meth c s.heap [] 0 0 (lw_Z below #[Value.ref b] s) (entryFrame m ([Value.ref b] : List Value).toArray 4) := by
  obtain ⟨hx, hb, hr, hml, hown, hts, hX, hbl, hlocks, hgv⟩ := id C0
  have hB := zB_of hts
  obtain ⟨c0, i0, k0⟩ := u_known (C := zr_Ch) (T := zf_Ch) (N := 3) (n := 3) hB zi_Ch (hB _ zN_Ch)
  obtain ⟨c1, i1, k1⟩ := u_known (C := zr_Co) (T := zf_Co) (N := 3) (n := 3) hB zi_Co (hB _ zN_Co)
  obtain ⟨c2, i2, k2⟩ := u_known (C := zr_En) (T := zf_En) (N := 11) (n := 11) hB zi_En (hB _ zN_En)
  obtain ⟨c3, i3, k3⟩ := u_known (C := zr_Fi) (T := zf_Fi) (N := 5) (n := 5) hB zi_Fi (hB _ zN_Fi)
  obtain ⟨c4, i4, k4⟩ := u_known (C := zr_Jo) (T := zf_Jo) (N := 2) (n := 2) hB zi_Jo (hB _ zN_Jo)
  obtain ⟨c5, i5, k5⟩ := u_known (C := zr_St) (T := zf_St) (N := 7) (n := 7) hB zi_St (hB _ zN_St)
  obtain ⟨c6, i6, k6⟩ := u_known (C := zr_Ta) (T := zf_Ta) (N := 3) (n := 3) hB zi_Ta (hB _ zN_Ta)
  obtain ⟨c7, i7, k7⟩ := u_known (C := zr_Tp) (T := zf_Tp) (N := 4) (n := 4) hB zi_Tp (hB _ zN_Tp)
  obtain ⟨c8, i8, k8⟩ := u_known (C := zr_Wa) (T := zf_Wa) (N := 3) (n := 3) hB zi_Wa (hB _ zN_Wa)
  obtain ⟨c9, i9, k9⟩ := u_known (C := zr_EL) (T := zf_EL) (N := 7) (n := 7) hB zi_EL (hB _ zN_EL)
  obtain ⟨c10, i10, k10⟩ := u_known (C := zr_Mo) (T := zf_Mo) (N := 46) (n := 46) hB zi_Mo (hB _ zN_Mo)
  obtain ⟨cI, kI, compI, f1, f2, f3⟩ := Cond.arrayClass_spec (show (Cond.arrayClass .int).holds #[Value.ref b] s none s [] = true from hB _ zA_int)
  obtain ⟨cZ, kZ, compZ, f4, f5, f6⟩ := Cond.arrayClass_spec (show (Cond.arrayClass .boolean).holds #[Value.ref b] s none s [] = true from hB _ zA_boolean)
  have hover := hts _ zA_over
  obtain ⟨compS, cS, kS, f7, f8, f9, f10, f11⟩ := Cond.arrayOver_spec (show (Cond.arrayOver (.object "EncounterLedger$State")).holds #[Value.ref b] s none s [] = true from hover)
  obtain ⟨dC, dI, hKc⟩ : ∃ (dC : Nat → ClassId) (dI : Nat → Nat → Nat), ∀ (k : Nat) (q : vw_C), zCl[k]? = some q → u_Kn s q.1 q.2.1 q.2.2 (dC k) (dI k) := by
    refine ⟨fun k => if k = 0 then c0 else if k = 1 then c1 else if k = 2 then c2 else if k = 3 then c3 else if k = 4 then c4 else if k = 5 then c5 else if k = 6 then c6 else if k = 7 then c7 else if k = 8 then c8 else if k = 9 then c9 else c10, fun k => if k = 0 then i0 else if k = 1 then i1 else if k = 2 then i2 else if k = 3 then i3 else if k = 4 then i4 else if k = 5 then i5 else if k = 6 then i6 else if k = 7 then i7 else if k = 8 then i8 else if k = 9 then i9 else i10, ?_⟩
    intro k q hq
    match k, hq with
    | 0, hq => cases hq; exact k0
    | 1, hq => cases hq; exact k1
    | 2, hq => cases hq; exact k2
    | 3, hq => cases hq; exact k3
    | 4, hq => cases hq; exact k4
    | 5, hq => cases hq; exact k5
    | 6, hq => cases hq; exact k6
    | 7, hq => cases hq; exact k7
    | 8, hq => cases hq; exact k8
    | 9, hq => cases hq; exact k9
    | 10, hq => cases hq; exact k10
    | k + 11, hq => simp [zCl] at hq
  have hK : va_K (dC, dI) zCl (zTy (cI, cZ, cS)) s := by
    refine ⟨hKc, fun k q hq => ?_⟩
    match k, hq with
    | 0, hq => cases hq; exact ⟨fun n z => ⟨fun k h => (by cases h), kI, f2, compI, f3⟩, f1⟩
    | 1, hq => cases hq; exact ⟨fun n z => ⟨fun k h => (by cases h), kZ, f5, compZ, f6⟩, f4⟩
    | 2, hq => cases hq; exact ⟨fun n z => ⟨fun k h => (by cases h), kS, f9, compS, f10⟩, kS, compS, f9, f10, f7, f11⟩
    | k + 3, hq => simp [zTy] at hq
  have hbA : ¬ (fun q : Nat => s.heap.size ≤ q) b := Nat.not_le.mpr hbl
  obtain ⟨X, hXe⟩ : ∃ X : zX, X = (p, l, e, room_1, s, m, #[Value.ref b], below, meth, c, 0, 0, lw_Z below #[Value.ref b] s, (dC, dI), zTy (cI, cZ, cS), fun q : Nat => s.heap.size ≤ q) := ⟨_, rfl⟩
  obtain ⟨cy, hcy⟩ : ∃ y : zY, y = (cI, cZ, cS) := ⟨_, rfl⟩
  have hO : Oc X zr_La code 4 10 cy 600000 7302250 := by
    rw [hXe, hcy]
    exact ⟨⟨hx, hb, hml, hown, hlocks, hB, hK, zNW.of hts, rfl, ⟨Nat.le_refl _, Nat.le_refl _⟩, Nat.zero_le _, Nat.zero_le _⟩, Nat.le_of_eq (Nat.zero_add _), Nat.le_of_eq (Nat.zero_add _), fun _ h => h⟩
  have hV : zOv X := by rw [hXe]; exact va_AO.of hover
  have hsc : ∀ k n : Nat, Sc (zUp X k n) b L xs := by rw [hXe]; exact fun _ _ => ⟨hX, hbl, hbA⟩
  have hlw : ∀ k n : Nat, k ≤ 600000 → n ≤ 7302250 → Lw (zUp X k n) b := by rw [hXe]; exact fun k n h1 h2 => ⟨rfl, rfl, hr, rfl, by rw [Nat.zero_add]; exact h1, by rw [Nat.zero_add]; exact h2, rfl⟩
  have key : Go X [] [(0, .ref b)] 0 [] := by
    refine zUp_0 ?_
    have hO0 := hO.up0
    refine g_newF (pc := 0) (C := zr_EL) (T := zf_EL) (N := 7) (ci := 9) (fs := [.null, .null, .null, .null, .null, .int 0, .int 0]) hO0 zi_EL zt_EL zo_EL zG_La_7 zN_EL zI_EL rfl (by decide +kernel) rfl rfl d_La_law_0 1 7 rfl rfl (fun q1 => ?_)
    have hO1 := hO.up 1 7 rfl rfl
    refine g_dup (pc := 3) hO1.ok d_La_law_3 rfl ?_
    refine g_ctorF (pc := 4) (st := [.ref q1]) (w2 := []) hO1 hV zk_EL_init rfl zL_La_9 (c_EL_init cy q1) rfl rfl rfl rfl rfl rfl rfl rfl d_La_law_4 145 28824 rfl rfl (fun w9 h9 => ?_)
    obtain ⟨q, rfl, rfl⟩ := h9
    have hO2 := hO.up 145 28824 rfl rfl
    rw [List.append_nil]
    refine g_astore_n (pc := 7) (L' := [(1, .ref (q 17)), (0, .ref b)]) hO2.ok d_La_law_7 rfl rfl rfl ?_
    refine g_newF (pc := 8) (C := zr_Mo) (T := zf_Mo) (N := 46) (ci := 10) (fs := [.null, .null, .null, .null, .null, .null, .null, .null, .null, .null, .null, .int 0, .int 0, .null, .int 0, .null, .int 0, .int 0, .int 0, .int 0, .int 0, .int 0, .int 0, .int 0, .int 0, .int 0, .int 0, .int 0, .int 0, .int 0, .null, .null, .null, .null, .null, .null, .int 0, .int 0, .int 0, .null, .null, .null, .int 0, .int 0, .int 0, .int 0]) hO2 zi_Mo zt_Mo zo_Mo zG_La_10 zN_Mo zI_Mo rfl (by decide +kernel) rfl rfl d_La_law_8 146 28870 rfl rfl (fun q2 => ?_)
    have hO3 := hO.up 146 28870 rfl rfl
    refine g_dup (pc := 11) hO3.ok d_La_law_11 rfl ?_
    refine g_ctorF (pc := 12) (st := [.ref q2]) (w2 := zwX cy q zx0) hO3 hV zk_Mo_init rfl zL_La_12 (c_Mo_init cy q2) rfl rfl rfl rfl rfl rfl rfl rfl d_La_law_12 168 37330 rfl rfl (fun w9 h9 => ?_)
    obtain ⟨r, rfl, rfl⟩ := h9
    have hO4 := hO.up 168 37330 rfl rfl
    refine g_astore_n (pc := 15) (L' := [(2, .ref (r 0)), (1, .ref (q 17)), (0, .ref b)]) hO4.ok d_La_law_15 rfl rfl rfl ?_
    refine g_iconst (pc := 16) (v := nI (7 * 0)) hO4.ok d_La_law_16 zc_0 ?_
    refine g_istore_n (pc := 17) (L' := [(3, .int (nI (7 * 0))), (2, .ref (r 0)), (1, .ref (q 17)), (0, .ref b)]) hO4.ok d_La_law_17 rfl rfl rfl ?_
    refine g_ls (L' := [(0, .ref b), (1, .ref (q 17)), (2, .ref (r 0)), (3, .int (nI (7 * 0)))]) [3, 2, 1, 0] rfl ?_
    exact law_loop hO4.ok (hlw _ _ (Nat.le_of_ble_eq_true rfl) (Nat.le_of_ble_eq_true rfl)) (hsc _ _) hL hops (L + 1) 0 zx0 zm0 (by omega) (by omega) h0
  have hl := lv_entry ([.ref b]) (n := 4) (Nat.le_of_ble_eq_true rfl)
  rw [lg_entry_eq]
  rw [hXe] at key
  exact key s.heap [] _ (fun k q h => by simp at h) ⟨fun i j p q h => by simp at h, fun k q h => by simp at h⟩ va_S.rf (by rw [hml]; exact hl)

/-! THE LAW'S LOOP -/
def sv (xs : Nat → Int32) (i : Int) : Int := (xs i.toNat).toInt
section GW
variable {w : Wd} {p : Program} {l : Launch} {e : Env} {R : Room} {s : State} {m : MethodId} {args : Array Value} {below : List Frame} {meth : Method} {c : Code} {A : Nat → Prop} {cells slots : Nat} {Q : State → Prop} {cc : ByteArray} {own : String} {nL pc : Nat} {L : List (Option Value)} {st : List Value} {σ : St}
theorem g_ok (k : ok σ → G w p l e R s m args below meth c A cells slots Q nL pc L st σ) : G w p l e R s m args below meth c A cells slots Q nL pc L st σ := fun ho => k ho ho
theorem g_widen {c1 s1 : Nat} (h1 : cells ≤ c1) (h2 : slots ≤ s1) (k : G w p l e R s m args below meth c A c1 s1 Q nL pc L st σ) : G w p l e R s m args below meth c A cells slots Q nL pc L st σ := fun ho H locs ls hP hD hS hl => W.widen h1 h2 (k ho H locs ls hP hD hS hl)
theorem g_sld {b N : Nat} {xs : Nat → Int32} {i : Int} (C : Cx w p s m args c A cc own nL) (hd : decode cc pc = .ok (.iaload, 1)) (hX : va_X b N xs s s.heap) (hbl : b < s.heap.size) (hbA : ¬ A b) (hi : InI i) (h0 : 0 ≤ i ∧ i < (N : Int)) (k : G w p l e R s m args below meth c A cells slots Q nL (pc + 1) L (iv (sv xs i) :: st) σ) : G w p l e R s m args below meth c A cells slots Q nL pc L (iv i :: .ref b :: st) σ := by
  intro ho H locs ls hP hD hS hl
  have k9 := k ho H locs ls hP hD hS hl
  obtain ⟨v1, v2⟩ := iv_ix (N := N) hi h0 rfl
  unfold sv iv at k9
  rw [oi] at k9
  exact va_sld C.1 C.2.1 hX hbl hbA hS v1 hd (by rw [v2]; exact k9)
theorem g_slen {b N : Nat} {xs : Nat → Int32} (C : Cx w p s m args c A cc own nL) (hd : decode cc pc = .ok (.arraylength, 1)) (hX : va_X b N xs s s.heap) (hbl : b < s.heap.size) (hbA : ¬ A b) (k : G w p l e R s m args below meth c A cells slots Q nL (pc + 1) L (iv (N : Int) :: st) σ) : G w p l e R s m args below meth c A cells slots Q nL pc L (.ref b :: st) σ := by
  intro ho H locs ls hP hD hS hl
  have k9 := k ho H locs ls hP hD hS hl
  exact va_slen C.1 C.2.1 hX hbl hbA hS hd k9
end GW
def lw_Q2 (s : State) (o : Outcome) (t : State) : Prop := o = .returned (some (.int 1)) ∧ Framed s o t [] 601024 7293034
def lw_Z2 (below : List Frame) (s : State) : State → Prop := fun t => ∃ o, t.status = .running ∧ Ended t below o ∧ lw_Q2 s o t
theorem lw_ret2 {p : Program} {l : Launch} {e : Env} {s : State} {m : MethodId} {below : List Frame} {meth : Method} {c : Code} {b : Nat} (hx : p.tables.exec = Jvm.exec) (hb : c.code = code) (hr : meth.sig.returnType = ret) (hlocks : meth.locks = false) {pc : Nat} {H : Heap} {ls : Array Slot} (hdg : decode code pc = .ok (.ireturn, 1)) : W p l e room_1 s m #[Value.ref b] below meth c H [] 601024 7293034 (lw_Z2 below s) (F0 m pc ls [.int 1]) := by
  intro T hT X
  obtain ⟨fs, hret, hrun, hended, hW, hframe⟩ := X.leave (v := some (.int 1)) (hlocks := hlocks) (fun h => by rw [hr] at h; cases h)
  have hmeth' : T.vm.method? m = some meth := X.method'
  refine ⟨T.setFrames fs, ?_, .returned (some (.int 1)), hrun, hended, rfl, ⟨_, rfl⟩, hW, hframe⟩
  jvm_step X.here [X.here.top, hx, hb, hdg, hmeth', hr, ret, narrow_b1]
  (try refine ⟨rfl, ?_⟩); (try refine ⟨rfl, ?_⟩)
  first | (intro acts; rw [hret _ acts rfl rfl rfl]) | rw [hret _ _ rfl rfl rfl]
  exact Steps.refl _
abbrev GL (w : Wd) (p : Program) (l : Launch) (e : Env) (s : State) (m : MethodId) (b : Nat) (below : List Frame) (meth : Method) (c : Code) (cells slots pc : Nat) (L : List (Option Value)) (st : List Value) (σ : St) : Prop := G w p l e room_1 s m #[Value.ref b] below meth c (fun q => s.heap.size ≤ q) cells slots (lw_Z2 below s) 7 pc L st σ
/-- what HushNetLaw.saw's call is to be (its own exception caught within) -/
def SawRule (w : Wd) (l : Launch) : Prop := ∀ (p : Program) (e : Env) (s : State) (m : MethodId) (b : Nat) (below : List Frame) (meth : Method) (c : Code) (cells slots : Nat) (L : List (Option Value)) (st : List Value) (σ σ' : St) (a r : Int), Cx w p s m #[Value.ref b] c (fun q => s.heap.size ≤ q) code RL 7 → (∀ t ∈ lw_tbl, t.before #[Value.ref b] s = true) → (Jvm.Cond.and given_1 narrow_1).before #[Value.ref b] s = true → meth.locks = false → InI a → m_L_saw a σ = some (r, σ') → cells + 1 ≤ 601024 ∧ slots + 64 ≤ 7293034 → (st.map fun v => v.category).sum ≤ 8 → GL w p l e s m b below meth c (cells + 1) (slots + 64) 990 L (iv r :: st) σ' → GL w p l e s m b below meth c cells slots 987 L (rv w 234 :: iv a :: rv w 0 :: st) σ
theorem dL_law_0 : decode code 0 = .ok (.new 8, 3) := by decide +kernel
theorem dL_law_3 : decode code 3 = .ok (.dup, 1) := by decide +kernel
theorem dL_law_4 : decode code 4 = .ok (.invokespecial 15, 3) := by decide +kernel
theorem dL_law_7 : decode code 7 = .ok (.astore_n 1, 1) := by decide +kernel
theorem dL_law_8 : decode code 8 = .ok (.new 16, 3) := by decide +kernel
theorem dL_law_11 : decode code 11 = .ok (.dup, 1) := by decide +kernel
theorem dL_law_12 : decode code 12 = .ok (.invokespecial 18, 3) := by decide +kernel
theorem dL_law_15 : decode code 15 = .ok (.astore_n 2, 1) := by decide +kernel
theorem dL_law_16 : decode code 16 = .ok (.iconst 1, 1) := by decide +kernel
theorem dL_law_17 : decode code 17 = .ok (.newarray .long, 2) := by decide +kernel
theorem dL_law_19 : decode code 19 = .ok (.astore_n 3, 1) := by decide +kernel
theorem dL_law_20 : decode code 20 = .ok (.iconst 0, 1) := by decide +kernel
theorem dL_law_21 : decode code 21 = .ok (.istore 4, 2) := by decide +kernel
theorem dL_law_23 : decode code 23 = .ok (.iload 4, 2) := by decide +kernel
theorem dL_law_25 : decode code 25 = .ok (.aload_n 0, 1) := by decide +kernel
theorem dL_law_26 : decode code 26 = .ok (.arraylength, 1) := by decide +kernel
theorem dL_law_27 : decode code 27 = .ok (.bipush 7, 2) := by decide +kernel
theorem dL_law_29 : decode code 29 = .ok (.isub, 1) := by decide +kernel
theorem dL_law_30 : decode code 30 = .ok (.if_icmp .gt 1589, 3) := by decide +kernel
theorem dL_law_33 : decode code 33 = .ok (.aload_n 0, 1) := by decide +kernel
theorem dL_law_34 : decode code 34 = .ok (.iload 4, 2) := by decide +kernel
theorem dL_law_36 : decode code 36 = .ok (.iaload, 1) := by decide +kernel
theorem dL_law_37 : decode code 37 = .ok (.bipush 63, 2) := by decide +kernel
theorem dL_law_39 : decode code 39 = .ok (.iand, 1) := by decide +kernel
theorem dL_law_40 : decode code 40 = .ok (.tableswitch 1573 0 35 #[160, 233, 258, 271, 284, 297, 346, 383, 420, 481, 530, 567, 592, 629, 654, 691, 728, 777, 814, 839, 876, 901, 926, 939, 995, 1020, 1045, 1082, 1143, 1180, 1269, 1358, 1395, 1498, 1523, 1548], 160) := by decide +kernel
theorem dL_law_200 : decode code 200 = .ok (.aload_n 1, 1) := by decide +kernel
theorem dL_law_201 : decode code 201 = .ok (.aload_n 0, 1) := by decide +kernel
theorem dL_law_202 : decode code 202 = .ok (.iload 4, 2) := by decide +kernel
theorem dL_law_204 : decode code 204 = .ok (.iconst 1, 1) := by decide +kernel
theorem dL_law_205 : decode code 205 = .ok (.iadd, 1) := by decide +kernel
theorem dL_law_206 : decode code 206 = .ok (.iaload, 1) := by decide +kernel
theorem dL_law_207 : decode code 207 = .ok (.aload_n 0, 1) := by decide +kernel
theorem dL_law_208 : decode code 208 = .ok (.iload 4, 2) := by decide +kernel
theorem dL_law_210 : decode code 210 = .ok (.iconst 2, 1) := by decide +kernel
theorem dL_law_211 : decode code 211 = .ok (.iadd, 1) := by decide +kernel
theorem dL_law_212 : decode code 212 = .ok (.iaload, 1) := by decide +kernel
theorem dL_law_213 : decode code 213 = .ok (.aload_n 0, 1) := by decide +kernel
theorem dL_law_214 : decode code 214 = .ok (.iload 4, 2) := by decide +kernel
theorem dL_law_216 : decode code 216 = .ok (.iconst 3, 1) := by decide +kernel
theorem dL_law_217 : decode code 217 = .ok (.iadd, 1) := by decide +kernel
theorem dL_law_218 : decode code 218 = .ok (.iaload, 1) := by decide +kernel
theorem dL_law_219 : decode code 219 = .ok (.aload_n 0, 1) := by decide +kernel
theorem dL_law_220 : decode code 220 = .ok (.iload 4, 2) := by decide +kernel
theorem dL_law_222 : decode code 222 = .ok (.iconst 4, 1) := by decide +kernel
theorem dL_law_223 : decode code 223 = .ok (.iadd, 1) := by decide +kernel
theorem dL_law_224 : decode code 224 = .ok (.iaload, 1) := by decide +kernel
theorem dL_law_225 : decode code 225 = .ok (.aload_n 0, 1) := by decide +kernel
theorem dL_law_226 : decode code 226 = .ok (.iload 4, 2) := by decide +kernel
theorem dL_law_228 : decode code 228 = .ok (.iconst 5, 1) := by decide +kernel
theorem dL_law_229 : decode code 229 = .ok (.iadd, 1) := by decide +kernel
theorem dL_law_230 : decode code 230 = .ok (.iaload, 1) := by decide +kernel
theorem dL_law_231 : decode code 231 = .ok (.invokevirtual 19, 3) := by decide +kernel
theorem dL_law_234 : decode code 234 = .ok (.aload_n 2, 1) := by decide +kernel
theorem dL_law_235 : decode code 235 = .ok (.aload_n 0, 1) := by decide +kernel
theorem dL_law_236 : decode code 236 = .ok (.iload 4, 2) := by decide +kernel
theorem dL_law_238 : decode code 238 = .ok (.iconst 1, 1) := by decide +kernel
theorem dL_law_239 : decode code 239 = .ok (.iadd, 1) := by decide +kernel
theorem dL_law_240 : decode code 240 = .ok (.iaload, 1) := by decide +kernel
theorem dL_law_241 : decode code 241 = .ok (.aload_n 0, 1) := by decide +kernel
theorem dL_law_242 : decode code 242 = .ok (.iload 4, 2) := by decide +kernel
theorem dL_law_244 : decode code 244 = .ok (.iconst 2, 1) := by decide +kernel
theorem dL_law_245 : decode code 245 = .ok (.iadd, 1) := by decide +kernel
theorem dL_law_246 : decode code 246 = .ok (.iaload, 1) := by decide +kernel
theorem dL_law_247 : decode code 247 = .ok (.aload_n 0, 1) := by decide +kernel
theorem dL_law_248 : decode code 248 = .ok (.iload 4, 2) := by decide +kernel
theorem dL_law_250 : decode code 250 = .ok (.iconst 3, 1) := by decide +kernel
theorem dL_law_251 : decode code 251 = .ok (.iadd, 1) := by decide +kernel
theorem dL_law_252 : decode code 252 = .ok (.iaload, 1) := by decide +kernel
theorem dL_law_253 : decode code 253 = .ok (.aload_n 0, 1) := by decide +kernel
theorem dL_law_254 : decode code 254 = .ok (.iload 4, 2) := by decide +kernel
theorem dL_law_256 : decode code 256 = .ok (.iconst 4, 1) := by decide +kernel
theorem dL_law_257 : decode code 257 = .ok (.iadd, 1) := by decide +kernel
theorem dL_law_258 : decode code 258 = .ok (.iaload, 1) := by decide +kernel
theorem dL_law_259 : decode code 259 = .ok (.aload_n 0, 1) := by decide +kernel
theorem dL_law_260 : decode code 260 = .ok (.iload 4, 2) := by decide +kernel
theorem dL_law_262 : decode code 262 = .ok (.iconst 5, 1) := by decide +kernel
theorem dL_law_263 : decode code 263 = .ok (.iadd, 1) := by decide +kernel
theorem dL_law_264 : decode code 264 = .ok (.iaload, 1) := by decide +kernel
theorem dL_law_265 : decode code 265 = .ok (.invokevirtual 23, 3) := by decide +kernel
theorem dL_law_268 : decode code 268 = .ok (.if_icmp .eq 1345, 3) := by decide +kernel
theorem dL_law_271 : decode code 271 = .ok (.iconst 0, 1) := by decide +kernel
theorem dL_law_272 : decode code 272 = .ok (.ireturn, 1) := by decide +kernel
theorem dL_law_273 : decode code 273 = .ok (.aload_n 1, 1) := by decide +kernel
theorem dL_law_274 : decode code 274 = .ok (.aload_n 0, 1) := by decide +kernel
theorem dL_law_275 : decode code 275 = .ok (.iload 4, 2) := by decide +kernel
theorem dL_law_277 : decode code 277 = .ok (.iconst 1, 1) := by decide +kernel
theorem dL_law_278 : decode code 278 = .ok (.iadd, 1) := by decide +kernel
theorem dL_law_279 : decode code 279 = .ok (.iaload, 1) := by decide +kernel
theorem dL_law_280 : decode code 280 = .ok (.invokevirtual 24, 3) := by decide +kernel
theorem dL_law_283 : decode code 283 = .ok (.aload_n 2, 1) := by decide +kernel
theorem dL_law_284 : decode code 284 = .ok (.aload_n 0, 1) := by decide +kernel
theorem dL_law_285 : decode code 285 = .ok (.iload 4, 2) := by decide +kernel
theorem dL_law_287 : decode code 287 = .ok (.iconst 1, 1) := by decide +kernel
theorem dL_law_288 : decode code 288 = .ok (.iadd, 1) := by decide +kernel
theorem dL_law_289 : decode code 289 = .ok (.iaload, 1) := by decide +kernel
theorem dL_law_290 : decode code 290 = .ok (.invokevirtual 27, 3) := by decide +kernel
theorem dL_law_293 : decode code 293 = .ok (.if_icmp .eq 1320, 3) := by decide +kernel
theorem dL_law_296 : decode code 296 = .ok (.iconst 0, 1) := by decide +kernel
theorem dL_law_297 : decode code 297 = .ok (.ireturn, 1) := by decide +kernel
theorem dL_law_298 : decode code 298 = .ok (.aload_n 1, 1) := by decide +kernel
theorem dL_law_299 : decode code 299 = .ok (.invokevirtual 28, 3) := by decide +kernel
theorem dL_law_302 : decode code 302 = .ok (.aload_n 2, 1) := by decide +kernel
theorem dL_law_303 : decode code 303 = .ok (.invokevirtual 32, 3) := by decide +kernel
theorem dL_law_306 : decode code 306 = .ok (.if_icmp .eq 1307, 3) := by decide +kernel
theorem dL_law_309 : decode code 309 = .ok (.iconst 0, 1) := by decide +kernel
theorem dL_law_310 : decode code 310 = .ok (.ireturn, 1) := by decide +kernel
theorem dL_law_311 : decode code 311 = .ok (.aload_n 1, 1) := by decide +kernel
theorem dL_law_312 : decode code 312 = .ok (.invokevirtual 33, 3) := by decide +kernel
theorem dL_law_315 : decode code 315 = .ok (.aload_n 2, 1) := by decide +kernel
theorem dL_law_316 : decode code 316 = .ok (.invokevirtual 36, 3) := by decide +kernel
theorem dL_law_319 : decode code 319 = .ok (.if_icmp .eq 1294, 3) := by decide +kernel
theorem dL_law_322 : decode code 322 = .ok (.iconst 0, 1) := by decide +kernel
theorem dL_law_323 : decode code 323 = .ok (.ireturn, 1) := by decide +kernel
theorem dL_law_324 : decode code 324 = .ok (.aload_n 1, 1) := by decide +kernel
theorem dL_law_325 : decode code 325 = .ok (.invokevirtual 37, 3) := by decide +kernel
theorem dL_law_328 : decode code 328 = .ok (.aload_n 2, 1) := by decide +kernel
theorem dL_law_329 : decode code 329 = .ok (.invokevirtual 40, 3) := by decide +kernel
theorem dL_law_332 : decode code 332 = .ok (.if_icmp .eq 1281, 3) := by decide +kernel
theorem dL_law_335 : decode code 335 = .ok (.iconst 0, 1) := by decide +kernel
theorem dL_law_336 : decode code 336 = .ok (.ireturn, 1) := by decide +kernel
theorem dL_law_337 : decode code 337 = .ok (.aload_n 1, 1) := by decide +kernel
theorem dL_law_338 : decode code 338 = .ok (.aload_n 0, 1) := by decide +kernel
theorem dL_law_339 : decode code 339 = .ok (.iload 4, 2) := by decide +kernel
theorem dL_law_341 : decode code 341 = .ok (.iconst 1, 1) := by decide +kernel
theorem dL_law_342 : decode code 342 = .ok (.iadd, 1) := by decide +kernel
theorem dL_law_343 : decode code 343 = .ok (.iaload, 1) := by decide +kernel
theorem dL_law_344 : decode code 344 = .ok (.aload_n 0, 1) := by decide +kernel
theorem dL_law_345 : decode code 345 = .ok (.iload 4, 2) := by decide +kernel
theorem dL_law_347 : decode code 347 = .ok (.iconst 2, 1) := by decide +kernel
theorem dL_law_348 : decode code 348 = .ok (.iadd, 1) := by decide +kernel
theorem dL_law_349 : decode code 349 = .ok (.iaload, 1) := by decide +kernel
theorem dL_law_350 : decode code 350 = .ok (.aload_n 0, 1) := by decide +kernel
theorem dL_law_351 : decode code 351 = .ok (.iload 4, 2) := by decide +kernel
theorem dL_law_353 : decode code 353 = .ok (.iconst 3, 1) := by decide +kernel
theorem dL_law_354 : decode code 354 = .ok (.iadd, 1) := by decide +kernel
theorem dL_law_355 : decode code 355 = .ok (.iaload, 1) := by decide +kernel
theorem dL_law_356 : decode code 356 = .ok (.invokevirtual 41, 3) := by decide +kernel
theorem dL_law_359 : decode code 359 = .ok (.aload_n 2, 1) := by decide +kernel
theorem dL_law_360 : decode code 360 = .ok (.aload_n 0, 1) := by decide +kernel
theorem dL_law_361 : decode code 361 = .ok (.iload 4, 2) := by decide +kernel
theorem dL_law_363 : decode code 363 = .ok (.iconst 1, 1) := by decide +kernel
theorem dL_law_364 : decode code 364 = .ok (.iadd, 1) := by decide +kernel
theorem dL_law_365 : decode code 365 = .ok (.iaload, 1) := by decide +kernel
theorem dL_law_366 : decode code 366 = .ok (.aload_n 0, 1) := by decide +kernel
theorem dL_law_367 : decode code 367 = .ok (.iload 4, 2) := by decide +kernel
theorem dL_law_369 : decode code 369 = .ok (.iconst 2, 1) := by decide +kernel
theorem dL_law_370 : decode code 370 = .ok (.iadd, 1) := by decide +kernel
theorem dL_law_371 : decode code 371 = .ok (.iaload, 1) := by decide +kernel
theorem dL_law_372 : decode code 372 = .ok (.aload_n 0, 1) := by decide +kernel
theorem dL_law_373 : decode code 373 = .ok (.iload 4, 2) := by decide +kernel
theorem dL_law_375 : decode code 375 = .ok (.iconst 3, 1) := by decide +kernel
theorem dL_law_376 : decode code 376 = .ok (.iadd, 1) := by decide +kernel
theorem dL_law_377 : decode code 377 = .ok (.iaload, 1) := by decide +kernel
theorem dL_law_378 : decode code 378 = .ok (.invokevirtual 45, 3) := by decide +kernel
theorem dL_law_381 : decode code 381 = .ok (.if_icmp .eq 1232, 3) := by decide +kernel
theorem dL_law_384 : decode code 384 = .ok (.iconst 0, 1) := by decide +kernel
theorem dL_law_385 : decode code 385 = .ok (.ireturn, 1) := by decide +kernel
theorem dL_law_386 : decode code 386 = .ok (.aload_n 1, 1) := by decide +kernel
theorem dL_law_387 : decode code 387 = .ok (.aload_n 0, 1) := by decide +kernel
theorem dL_law_388 : decode code 388 = .ok (.iload 4, 2) := by decide +kernel
theorem dL_law_390 : decode code 390 = .ok (.iconst 1, 1) := by decide +kernel
theorem dL_law_391 : decode code 391 = .ok (.iadd, 1) := by decide +kernel
theorem dL_law_392 : decode code 392 = .ok (.iaload, 1) := by decide +kernel
theorem dL_law_393 : decode code 393 = .ok (.aload_n 0, 1) := by decide +kernel
theorem dL_law_394 : decode code 394 = .ok (.iload 4, 2) := by decide +kernel
theorem dL_law_396 : decode code 396 = .ok (.iconst 2, 1) := by decide +kernel
theorem dL_law_397 : decode code 397 = .ok (.iadd, 1) := by decide +kernel
theorem dL_law_398 : decode code 398 = .ok (.iaload, 1) := by decide +kernel
theorem dL_law_399 : decode code 399 = .ok (.invokevirtual 46, 3) := by decide +kernel
theorem dL_law_402 : decode code 402 = .ok (.aload_n 2, 1) := by decide +kernel
theorem dL_law_403 : decode code 403 = .ok (.aload_n 0, 1) := by decide +kernel
theorem dL_law_404 : decode code 404 = .ok (.iload 4, 2) := by decide +kernel
theorem dL_law_406 : decode code 406 = .ok (.iconst 1, 1) := by decide +kernel
theorem dL_law_407 : decode code 407 = .ok (.iadd, 1) := by decide +kernel
theorem dL_law_408 : decode code 408 = .ok (.iaload, 1) := by decide +kernel
theorem dL_law_409 : decode code 409 = .ok (.aload_n 0, 1) := by decide +kernel
theorem dL_law_410 : decode code 410 = .ok (.iload 4, 2) := by decide +kernel
theorem dL_law_412 : decode code 412 = .ok (.iconst 2, 1) := by decide +kernel
theorem dL_law_413 : decode code 413 = .ok (.iadd, 1) := by decide +kernel
theorem dL_law_414 : decode code 414 = .ok (.iaload, 1) := by decide +kernel
theorem dL_law_415 : decode code 415 = .ok (.invokevirtual 50, 3) := by decide +kernel
theorem dL_law_418 : decode code 418 = .ok (.if_icmp .eq 1195, 3) := by decide +kernel
theorem dL_law_421 : decode code 421 = .ok (.iconst 0, 1) := by decide +kernel
theorem dL_law_422 : decode code 422 = .ok (.ireturn, 1) := by decide +kernel
theorem dL_law_423 : decode code 423 = .ok (.aload_n 1, 1) := by decide +kernel
theorem dL_law_424 : decode code 424 = .ok (.aload_n 0, 1) := by decide +kernel
theorem dL_law_425 : decode code 425 = .ok (.iload 4, 2) := by decide +kernel
theorem dL_law_427 : decode code 427 = .ok (.iconst 1, 1) := by decide +kernel
theorem dL_law_428 : decode code 428 = .ok (.iadd, 1) := by decide +kernel
theorem dL_law_429 : decode code 429 = .ok (.iaload, 1) := by decide +kernel
theorem dL_law_430 : decode code 430 = .ok (.aload_n 0, 1) := by decide +kernel
theorem dL_law_431 : decode code 431 = .ok (.iload 4, 2) := by decide +kernel
theorem dL_law_433 : decode code 433 = .ok (.iconst 2, 1) := by decide +kernel
theorem dL_law_434 : decode code 434 = .ok (.iadd, 1) := by decide +kernel
theorem dL_law_435 : decode code 435 = .ok (.iaload, 1) := by decide +kernel
theorem dL_law_436 : decode code 436 = .ok (.invokevirtual 51, 3) := by decide +kernel
theorem dL_law_439 : decode code 439 = .ok (.aload_n 2, 1) := by decide +kernel
theorem dL_law_440 : decode code 440 = .ok (.aload_n 0, 1) := by decide +kernel
theorem dL_law_441 : decode code 441 = .ok (.iload 4, 2) := by decide +kernel
theorem dL_law_443 : decode code 443 = .ok (.iconst 1, 1) := by decide +kernel
theorem dL_law_444 : decode code 444 = .ok (.iadd, 1) := by decide +kernel
theorem dL_law_445 : decode code 445 = .ok (.iaload, 1) := by decide +kernel
theorem dL_law_446 : decode code 446 = .ok (.aload_n 0, 1) := by decide +kernel
theorem dL_law_447 : decode code 447 = .ok (.iload 4, 2) := by decide +kernel
theorem dL_law_449 : decode code 449 = .ok (.iconst 2, 1) := by decide +kernel
theorem dL_law_450 : decode code 450 = .ok (.iadd, 1) := by decide +kernel
theorem dL_law_451 : decode code 451 = .ok (.iaload, 1) := by decide +kernel
theorem dL_law_452 : decode code 452 = .ok (.invokevirtual 55, 3) := by decide +kernel
theorem dL_law_455 : decode code 455 = .ok (.if_icmp .eq 1158, 3) := by decide +kernel
theorem dL_law_458 : decode code 458 = .ok (.iconst 0, 1) := by decide +kernel
theorem dL_law_459 : decode code 459 = .ok (.ireturn, 1) := by decide +kernel
theorem dL_law_460 : decode code 460 = .ok (.aload_n 1, 1) := by decide +kernel
theorem dL_law_461 : decode code 461 = .ok (.aload_n 0, 1) := by decide +kernel
theorem dL_law_462 : decode code 462 = .ok (.iload 4, 2) := by decide +kernel
theorem dL_law_464 : decode code 464 = .ok (.iconst 1, 1) := by decide +kernel
theorem dL_law_465 : decode code 465 = .ok (.iadd, 1) := by decide +kernel
theorem dL_law_466 : decode code 466 = .ok (.iaload, 1) := by decide +kernel
theorem dL_law_467 : decode code 467 = .ok (.aload_n 0, 1) := by decide +kernel
theorem dL_law_468 : decode code 468 = .ok (.iload 4, 2) := by decide +kernel
theorem dL_law_470 : decode code 470 = .ok (.iconst 2, 1) := by decide +kernel
theorem dL_law_471 : decode code 471 = .ok (.iadd, 1) := by decide +kernel
theorem dL_law_472 : decode code 472 = .ok (.iaload, 1) := by decide +kernel
theorem dL_law_473 : decode code 473 = .ok (.aload_n 0, 1) := by decide +kernel
theorem dL_law_474 : decode code 474 = .ok (.iload 4, 2) := by decide +kernel
theorem dL_law_476 : decode code 476 = .ok (.iconst 3, 1) := by decide +kernel
theorem dL_law_477 : decode code 477 = .ok (.iadd, 1) := by decide +kernel
theorem dL_law_478 : decode code 478 = .ok (.iaload, 1) := by decide +kernel
theorem dL_law_479 : decode code 479 = .ok (.aload_n 0, 1) := by decide +kernel
theorem dL_law_480 : decode code 480 = .ok (.iload 4, 2) := by decide +kernel
theorem dL_law_482 : decode code 482 = .ok (.iconst 4, 1) := by decide +kernel
theorem dL_law_483 : decode code 483 = .ok (.iadd, 1) := by decide +kernel
theorem dL_law_484 : decode code 484 = .ok (.iaload, 1) := by decide +kernel
theorem dL_law_485 : decode code 485 = .ok (.invokevirtual 56, 3) := by decide +kernel
theorem dL_law_488 : decode code 488 = .ok (.aload_n 2, 1) := by decide +kernel
theorem dL_law_489 : decode code 489 = .ok (.aload_n 0, 1) := by decide +kernel
theorem dL_law_490 : decode code 490 = .ok (.iload 4, 2) := by decide +kernel
theorem dL_law_492 : decode code 492 = .ok (.iconst 1, 1) := by decide +kernel
theorem dL_law_493 : decode code 493 = .ok (.iadd, 1) := by decide +kernel
theorem dL_law_494 : decode code 494 = .ok (.iaload, 1) := by decide +kernel
theorem dL_law_495 : decode code 495 = .ok (.aload_n 0, 1) := by decide +kernel
theorem dL_law_496 : decode code 496 = .ok (.iload 4, 2) := by decide +kernel
theorem dL_law_498 : decode code 498 = .ok (.iconst 2, 1) := by decide +kernel
theorem dL_law_499 : decode code 499 = .ok (.iadd, 1) := by decide +kernel
theorem dL_law_500 : decode code 500 = .ok (.iaload, 1) := by decide +kernel
theorem dL_law_501 : decode code 501 = .ok (.aload_n 0, 1) := by decide +kernel
theorem dL_law_502 : decode code 502 = .ok (.iload 4, 2) := by decide +kernel
theorem dL_law_504 : decode code 504 = .ok (.iconst 3, 1) := by decide +kernel
theorem dL_law_505 : decode code 505 = .ok (.iadd, 1) := by decide +kernel
theorem dL_law_506 : decode code 506 = .ok (.iaload, 1) := by decide +kernel
theorem dL_law_507 : decode code 507 = .ok (.aload_n 0, 1) := by decide +kernel
theorem dL_law_508 : decode code 508 = .ok (.iload 4, 2) := by decide +kernel
theorem dL_law_510 : decode code 510 = .ok (.iconst 4, 1) := by decide +kernel
theorem dL_law_511 : decode code 511 = .ok (.iadd, 1) := by decide +kernel
theorem dL_law_512 : decode code 512 = .ok (.iaload, 1) := by decide +kernel
theorem dL_law_513 : decode code 513 = .ok (.invokevirtual 60, 3) := by decide +kernel
theorem dL_law_516 : decode code 516 = .ok (.if_icmp .eq 1097, 3) := by decide +kernel
theorem dL_law_519 : decode code 519 = .ok (.iconst 0, 1) := by decide +kernel
theorem dL_law_520 : decode code 520 = .ok (.ireturn, 1) := by decide +kernel
theorem dL_law_521 : decode code 521 = .ok (.aload_n 1, 1) := by decide +kernel
theorem dL_law_522 : decode code 522 = .ok (.aload_n 0, 1) := by decide +kernel
theorem dL_law_523 : decode code 523 = .ok (.iload 4, 2) := by decide +kernel
theorem dL_law_525 : decode code 525 = .ok (.iconst 1, 1) := by decide +kernel
theorem dL_law_526 : decode code 526 = .ok (.iadd, 1) := by decide +kernel
theorem dL_law_527 : decode code 527 = .ok (.iaload, 1) := by decide +kernel
theorem dL_law_528 : decode code 528 = .ok (.aload_n 0, 1) := by decide +kernel
theorem dL_law_529 : decode code 529 = .ok (.iload 4, 2) := by decide +kernel
theorem dL_law_531 : decode code 531 = .ok (.iconst 2, 1) := by decide +kernel
theorem dL_law_532 : decode code 532 = .ok (.iadd, 1) := by decide +kernel
theorem dL_law_533 : decode code 533 = .ok (.iaload, 1) := by decide +kernel
theorem dL_law_534 : decode code 534 = .ok (.aload_n 0, 1) := by decide +kernel
theorem dL_law_535 : decode code 535 = .ok (.iload 4, 2) := by decide +kernel
theorem dL_law_537 : decode code 537 = .ok (.iconst 3, 1) := by decide +kernel
theorem dL_law_538 : decode code 538 = .ok (.iadd, 1) := by decide +kernel
theorem dL_law_539 : decode code 539 = .ok (.iaload, 1) := by decide +kernel
theorem dL_law_540 : decode code 540 = .ok (.invokevirtual 61, 3) := by decide +kernel
theorem dL_law_543 : decode code 543 = .ok (.aload_n 2, 1) := by decide +kernel
theorem dL_law_544 : decode code 544 = .ok (.aload_n 0, 1) := by decide +kernel
theorem dL_law_545 : decode code 545 = .ok (.iload 4, 2) := by decide +kernel
theorem dL_law_547 : decode code 547 = .ok (.iconst 1, 1) := by decide +kernel
theorem dL_law_548 : decode code 548 = .ok (.iadd, 1) := by decide +kernel
theorem dL_law_549 : decode code 549 = .ok (.iaload, 1) := by decide +kernel
theorem dL_law_550 : decode code 550 = .ok (.aload_n 0, 1) := by decide +kernel
theorem dL_law_551 : decode code 551 = .ok (.iload 4, 2) := by decide +kernel
theorem dL_law_553 : decode code 553 = .ok (.iconst 2, 1) := by decide +kernel
theorem dL_law_554 : decode code 554 = .ok (.iadd, 1) := by decide +kernel
theorem dL_law_555 : decode code 555 = .ok (.iaload, 1) := by decide +kernel
theorem dL_law_556 : decode code 556 = .ok (.aload_n 0, 1) := by decide +kernel
theorem dL_law_557 : decode code 557 = .ok (.iload 4, 2) := by decide +kernel
theorem dL_law_559 : decode code 559 = .ok (.iconst 3, 1) := by decide +kernel
theorem dL_law_560 : decode code 560 = .ok (.iadd, 1) := by decide +kernel
theorem dL_law_561 : decode code 561 = .ok (.iaload, 1) := by decide +kernel
theorem dL_law_562 : decode code 562 = .ok (.invokevirtual 64, 3) := by decide +kernel
theorem dL_law_565 : decode code 565 = .ok (.if_icmp .eq 1048, 3) := by decide +kernel
theorem dL_law_568 : decode code 568 = .ok (.iconst 0, 1) := by decide +kernel
theorem dL_law_569 : decode code 569 = .ok (.ireturn, 1) := by decide +kernel
theorem dL_law_570 : decode code 570 = .ok (.aload_n 1, 1) := by decide +kernel
theorem dL_law_571 : decode code 571 = .ok (.aload_n 0, 1) := by decide +kernel
theorem dL_law_572 : decode code 572 = .ok (.iload 4, 2) := by decide +kernel
theorem dL_law_574 : decode code 574 = .ok (.iconst 1, 1) := by decide +kernel
theorem dL_law_575 : decode code 575 = .ok (.iadd, 1) := by decide +kernel
theorem dL_law_576 : decode code 576 = .ok (.iaload, 1) := by decide +kernel
theorem dL_law_577 : decode code 577 = .ok (.aload_n 0, 1) := by decide +kernel
theorem dL_law_578 : decode code 578 = .ok (.iload 4, 2) := by decide +kernel
theorem dL_law_580 : decode code 580 = .ok (.iconst 2, 1) := by decide +kernel
theorem dL_law_581 : decode code 581 = .ok (.iadd, 1) := by decide +kernel
theorem dL_law_582 : decode code 582 = .ok (.iaload, 1) := by decide +kernel
theorem dL_law_583 : decode code 583 = .ok (.invokevirtual 65, 3) := by decide +kernel
theorem dL_law_586 : decode code 586 = .ok (.aload_n 2, 1) := by decide +kernel
theorem dL_law_587 : decode code 587 = .ok (.aload_n 0, 1) := by decide +kernel
theorem dL_law_588 : decode code 588 = .ok (.iload 4, 2) := by decide +kernel
theorem dL_law_590 : decode code 590 = .ok (.iconst 1, 1) := by decide +kernel
theorem dL_law_591 : decode code 591 = .ok (.iadd, 1) := by decide +kernel
theorem dL_law_592 : decode code 592 = .ok (.iaload, 1) := by decide +kernel
theorem dL_law_593 : decode code 593 = .ok (.aload_n 0, 1) := by decide +kernel
theorem dL_law_594 : decode code 594 = .ok (.iload 4, 2) := by decide +kernel
theorem dL_law_596 : decode code 596 = .ok (.iconst 2, 1) := by decide +kernel
theorem dL_law_597 : decode code 597 = .ok (.iadd, 1) := by decide +kernel
theorem dL_law_598 : decode code 598 = .ok (.iaload, 1) := by decide +kernel
theorem dL_law_599 : decode code 599 = .ok (.invokevirtual 68, 3) := by decide +kernel
theorem dL_law_602 : decode code 602 = .ok (.if_icmp .eq 1011, 3) := by decide +kernel
theorem dL_law_605 : decode code 605 = .ok (.iconst 0, 1) := by decide +kernel
theorem dL_law_606 : decode code 606 = .ok (.ireturn, 1) := by decide +kernel
theorem dL_law_607 : decode code 607 = .ok (.aload_n 1, 1) := by decide +kernel
theorem dL_law_608 : decode code 608 = .ok (.aload_n 0, 1) := by decide +kernel
theorem dL_law_609 : decode code 609 = .ok (.iload 4, 2) := by decide +kernel
theorem dL_law_611 : decode code 611 = .ok (.iconst 1, 1) := by decide +kernel
theorem dL_law_612 : decode code 612 = .ok (.iadd, 1) := by decide +kernel
theorem dL_law_613 : decode code 613 = .ok (.iaload, 1) := by decide +kernel
theorem dL_law_614 : decode code 614 = .ok (.invokevirtual 69, 3) := by decide +kernel
theorem dL_law_617 : decode code 617 = .ok (.aload_n 2, 1) := by decide +kernel
theorem dL_law_618 : decode code 618 = .ok (.aload_n 0, 1) := by decide +kernel
theorem dL_law_619 : decode code 619 = .ok (.iload 4, 2) := by decide +kernel
theorem dL_law_621 : decode code 621 = .ok (.iconst 1, 1) := by decide +kernel
theorem dL_law_622 : decode code 622 = .ok (.iadd, 1) := by decide +kernel
theorem dL_law_623 : decode code 623 = .ok (.iaload, 1) := by decide +kernel
theorem dL_law_624 : decode code 624 = .ok (.invokevirtual 72, 3) := by decide +kernel
theorem dL_law_627 : decode code 627 = .ok (.if_icmp .eq 986, 3) := by decide +kernel
theorem dL_law_630 : decode code 630 = .ok (.iconst 0, 1) := by decide +kernel
theorem dL_law_631 : decode code 631 = .ok (.ireturn, 1) := by decide +kernel
theorem dL_law_632 : decode code 632 = .ok (.aload_n 1, 1) := by decide +kernel
theorem dL_law_633 : decode code 633 = .ok (.aload_n 0, 1) := by decide +kernel
theorem dL_law_634 : decode code 634 = .ok (.iload 4, 2) := by decide +kernel
theorem dL_law_636 : decode code 636 = .ok (.iconst 1, 1) := by decide +kernel
theorem dL_law_637 : decode code 637 = .ok (.iadd, 1) := by decide +kernel
theorem dL_law_638 : decode code 638 = .ok (.iaload, 1) := by decide +kernel
theorem dL_law_639 : decode code 639 = .ok (.aload_n 0, 1) := by decide +kernel
theorem dL_law_640 : decode code 640 = .ok (.iload 4, 2) := by decide +kernel
theorem dL_law_642 : decode code 642 = .ok (.iconst 2, 1) := by decide +kernel
theorem dL_law_643 : decode code 643 = .ok (.iadd, 1) := by decide +kernel
theorem dL_law_644 : decode code 644 = .ok (.iaload, 1) := by decide +kernel
theorem dL_law_645 : decode code 645 = .ok (.invokevirtual 73, 3) := by decide +kernel
theorem dL_law_648 : decode code 648 = .ok (.aload_n 2, 1) := by decide +kernel
theorem dL_law_649 : decode code 649 = .ok (.aload_n 0, 1) := by decide +kernel
theorem dL_law_650 : decode code 650 = .ok (.iload 4, 2) := by decide +kernel
theorem dL_law_652 : decode code 652 = .ok (.iconst 1, 1) := by decide +kernel
theorem dL_law_653 : decode code 653 = .ok (.iadd, 1) := by decide +kernel
theorem dL_law_654 : decode code 654 = .ok (.iaload, 1) := by decide +kernel
theorem dL_law_655 : decode code 655 = .ok (.aload_n 0, 1) := by decide +kernel
theorem dL_law_656 : decode code 656 = .ok (.iload 4, 2) := by decide +kernel
theorem dL_law_658 : decode code 658 = .ok (.iconst 2, 1) := by decide +kernel
theorem dL_law_659 : decode code 659 = .ok (.iadd, 1) := by decide +kernel
theorem dL_law_660 : decode code 660 = .ok (.iaload, 1) := by decide +kernel
theorem dL_law_661 : decode code 661 = .ok (.invokevirtual 76, 3) := by decide +kernel
theorem dL_law_664 : decode code 664 = .ok (.if_icmp .eq 949, 3) := by decide +kernel
theorem dL_law_667 : decode code 667 = .ok (.iconst 0, 1) := by decide +kernel
theorem dL_law_668 : decode code 668 = .ok (.ireturn, 1) := by decide +kernel
theorem dL_law_669 : decode code 669 = .ok (.aload_n 1, 1) := by decide +kernel
theorem dL_law_670 : decode code 670 = .ok (.aload_n 0, 1) := by decide +kernel
theorem dL_law_671 : decode code 671 = .ok (.iload 4, 2) := by decide +kernel
theorem dL_law_673 : decode code 673 = .ok (.iconst 1, 1) := by decide +kernel
theorem dL_law_674 : decode code 674 = .ok (.iadd, 1) := by decide +kernel
theorem dL_law_675 : decode code 675 = .ok (.iaload, 1) := by decide +kernel
theorem dL_law_676 : decode code 676 = .ok (.invokevirtual 77, 3) := by decide +kernel
theorem dL_law_679 : decode code 679 = .ok (.aload_n 2, 1) := by decide +kernel
theorem dL_law_680 : decode code 680 = .ok (.aload_n 0, 1) := by decide +kernel
theorem dL_law_681 : decode code 681 = .ok (.iload 4, 2) := by decide +kernel
theorem dL_law_683 : decode code 683 = .ok (.iconst 1, 1) := by decide +kernel
theorem dL_law_684 : decode code 684 = .ok (.iadd, 1) := by decide +kernel
theorem dL_law_685 : decode code 685 = .ok (.iaload, 1) := by decide +kernel
theorem dL_law_686 : decode code 686 = .ok (.invokevirtual 80, 3) := by decide +kernel
theorem dL_law_689 : decode code 689 = .ok (.if_icmp .eq 924, 3) := by decide +kernel
theorem dL_law_692 : decode code 692 = .ok (.iconst 0, 1) := by decide +kernel
theorem dL_law_693 : decode code 693 = .ok (.ireturn, 1) := by decide +kernel
theorem dL_law_694 : decode code 694 = .ok (.aload_n 1, 1) := by decide +kernel
theorem dL_law_695 : decode code 695 = .ok (.aload_n 0, 1) := by decide +kernel
theorem dL_law_696 : decode code 696 = .ok (.iload 4, 2) := by decide +kernel
theorem dL_law_698 : decode code 698 = .ok (.iconst 1, 1) := by decide +kernel
theorem dL_law_699 : decode code 699 = .ok (.iadd, 1) := by decide +kernel
theorem dL_law_700 : decode code 700 = .ok (.iaload, 1) := by decide +kernel
theorem dL_law_701 : decode code 701 = .ok (.aload_n 0, 1) := by decide +kernel
theorem dL_law_702 : decode code 702 = .ok (.iload 4, 2) := by decide +kernel
theorem dL_law_704 : decode code 704 = .ok (.iconst 2, 1) := by decide +kernel
theorem dL_law_705 : decode code 705 = .ok (.iadd, 1) := by decide +kernel
theorem dL_law_706 : decode code 706 = .ok (.iaload, 1) := by decide +kernel
theorem dL_law_707 : decode code 707 = .ok (.invokevirtual 81, 3) := by decide +kernel
theorem dL_law_710 : decode code 710 = .ok (.aload_n 2, 1) := by decide +kernel
theorem dL_law_711 : decode code 711 = .ok (.aload_n 0, 1) := by decide +kernel
theorem dL_law_712 : decode code 712 = .ok (.iload 4, 2) := by decide +kernel
theorem dL_law_714 : decode code 714 = .ok (.iconst 1, 1) := by decide +kernel
theorem dL_law_715 : decode code 715 = .ok (.iadd, 1) := by decide +kernel
theorem dL_law_716 : decode code 716 = .ok (.iaload, 1) := by decide +kernel
theorem dL_law_717 : decode code 717 = .ok (.aload_n 0, 1) := by decide +kernel
theorem dL_law_718 : decode code 718 = .ok (.iload 4, 2) := by decide +kernel
theorem dL_law_720 : decode code 720 = .ok (.iconst 2, 1) := by decide +kernel
theorem dL_law_721 : decode code 721 = .ok (.iadd, 1) := by decide +kernel
theorem dL_law_722 : decode code 722 = .ok (.iaload, 1) := by decide +kernel
theorem dL_law_723 : decode code 723 = .ok (.invokevirtual 84, 3) := by decide +kernel
theorem dL_law_726 : decode code 726 = .ok (.if_icmp .eq 887, 3) := by decide +kernel
theorem dL_law_729 : decode code 729 = .ok (.iconst 0, 1) := by decide +kernel
theorem dL_law_730 : decode code 730 = .ok (.ireturn, 1) := by decide +kernel
theorem dL_law_731 : decode code 731 = .ok (.aload_n 1, 1) := by decide +kernel
theorem dL_law_732 : decode code 732 = .ok (.aload_n 0, 1) := by decide +kernel
theorem dL_law_733 : decode code 733 = .ok (.iload 4, 2) := by decide +kernel
theorem dL_law_735 : decode code 735 = .ok (.iconst 1, 1) := by decide +kernel
theorem dL_law_736 : decode code 736 = .ok (.iadd, 1) := by decide +kernel
theorem dL_law_737 : decode code 737 = .ok (.iaload, 1) := by decide +kernel
theorem dL_law_738 : decode code 738 = .ok (.aload_n 0, 1) := by decide +kernel
theorem dL_law_739 : decode code 739 = .ok (.iload 4, 2) := by decide +kernel
theorem dL_law_741 : decode code 741 = .ok (.iconst 2, 1) := by decide +kernel
theorem dL_law_742 : decode code 742 = .ok (.iadd, 1) := by decide +kernel
theorem dL_law_743 : decode code 743 = .ok (.iaload, 1) := by decide +kernel
theorem dL_law_744 : decode code 744 = .ok (.invokevirtual 85, 3) := by decide +kernel
theorem dL_law_747 : decode code 747 = .ok (.aload_n 2, 1) := by decide +kernel
theorem dL_law_748 : decode code 748 = .ok (.aload_n 0, 1) := by decide +kernel
theorem dL_law_749 : decode code 749 = .ok (.iload 4, 2) := by decide +kernel
theorem dL_law_751 : decode code 751 = .ok (.iconst 1, 1) := by decide +kernel
theorem dL_law_752 : decode code 752 = .ok (.iadd, 1) := by decide +kernel
theorem dL_law_753 : decode code 753 = .ok (.iaload, 1) := by decide +kernel
theorem dL_law_754 : decode code 754 = .ok (.aload_n 0, 1) := by decide +kernel
theorem dL_law_755 : decode code 755 = .ok (.iload 4, 2) := by decide +kernel
theorem dL_law_757 : decode code 757 = .ok (.iconst 2, 1) := by decide +kernel
theorem dL_law_758 : decode code 758 = .ok (.iadd, 1) := by decide +kernel
theorem dL_law_759 : decode code 759 = .ok (.iaload, 1) := by decide +kernel
theorem dL_law_760 : decode code 760 = .ok (.invokevirtual 88, 3) := by decide +kernel
theorem dL_law_763 : decode code 763 = .ok (.if_icmp .eq 850, 3) := by decide +kernel
theorem dL_law_766 : decode code 766 = .ok (.iconst 0, 1) := by decide +kernel
theorem dL_law_767 : decode code 767 = .ok (.ireturn, 1) := by decide +kernel
theorem dL_law_768 : decode code 768 = .ok (.aload_n 1, 1) := by decide +kernel
theorem dL_law_769 : decode code 769 = .ok (.aload_n 0, 1) := by decide +kernel
theorem dL_law_770 : decode code 770 = .ok (.iload 4, 2) := by decide +kernel
theorem dL_law_772 : decode code 772 = .ok (.iconst 1, 1) := by decide +kernel
theorem dL_law_773 : decode code 773 = .ok (.iadd, 1) := by decide +kernel
theorem dL_law_774 : decode code 774 = .ok (.iaload, 1) := by decide +kernel
theorem dL_law_775 : decode code 775 = .ok (.aload_n 0, 1) := by decide +kernel
theorem dL_law_776 : decode code 776 = .ok (.iload 4, 2) := by decide +kernel
theorem dL_law_778 : decode code 778 = .ok (.iconst 2, 1) := by decide +kernel
theorem dL_law_779 : decode code 779 = .ok (.iadd, 1) := by decide +kernel
theorem dL_law_780 : decode code 780 = .ok (.iaload, 1) := by decide +kernel
theorem dL_law_781 : decode code 781 = .ok (.aload_n 0, 1) := by decide +kernel
theorem dL_law_782 : decode code 782 = .ok (.iload 4, 2) := by decide +kernel
theorem dL_law_784 : decode code 784 = .ok (.iconst 3, 1) := by decide +kernel
theorem dL_law_785 : decode code 785 = .ok (.iadd, 1) := by decide +kernel
theorem dL_law_786 : decode code 786 = .ok (.iaload, 1) := by decide +kernel
theorem dL_law_787 : decode code 787 = .ok (.invokevirtual 89, 3) := by decide +kernel
theorem dL_law_790 : decode code 790 = .ok (.aload_n 2, 1) := by decide +kernel
theorem dL_law_791 : decode code 791 = .ok (.aload_n 0, 1) := by decide +kernel
theorem dL_law_792 : decode code 792 = .ok (.iload 4, 2) := by decide +kernel
theorem dL_law_794 : decode code 794 = .ok (.iconst 1, 1) := by decide +kernel
theorem dL_law_795 : decode code 795 = .ok (.iadd, 1) := by decide +kernel
theorem dL_law_796 : decode code 796 = .ok (.iaload, 1) := by decide +kernel
theorem dL_law_797 : decode code 797 = .ok (.aload_n 0, 1) := by decide +kernel
theorem dL_law_798 : decode code 798 = .ok (.iload 4, 2) := by decide +kernel
theorem dL_law_800 : decode code 800 = .ok (.iconst 2, 1) := by decide +kernel
theorem dL_law_801 : decode code 801 = .ok (.iadd, 1) := by decide +kernel
theorem dL_law_802 : decode code 802 = .ok (.iaload, 1) := by decide +kernel
theorem dL_law_803 : decode code 803 = .ok (.aload_n 0, 1) := by decide +kernel
theorem dL_law_804 : decode code 804 = .ok (.iload 4, 2) := by decide +kernel
theorem dL_law_806 : decode code 806 = .ok (.iconst 3, 1) := by decide +kernel
theorem dL_law_807 : decode code 807 = .ok (.iadd, 1) := by decide +kernel
theorem dL_law_808 : decode code 808 = .ok (.iaload, 1) := by decide +kernel
theorem dL_law_809 : decode code 809 = .ok (.invokevirtual 92, 3) := by decide +kernel
theorem dL_law_812 : decode code 812 = .ok (.if_icmp .eq 801, 3) := by decide +kernel
theorem dL_law_815 : decode code 815 = .ok (.iconst 0, 1) := by decide +kernel
theorem dL_law_816 : decode code 816 = .ok (.ireturn, 1) := by decide +kernel
theorem dL_law_817 : decode code 817 = .ok (.aload_n 1, 1) := by decide +kernel
theorem dL_law_818 : decode code 818 = .ok (.aload_n 0, 1) := by decide +kernel
theorem dL_law_819 : decode code 819 = .ok (.iload 4, 2) := by decide +kernel
theorem dL_law_821 : decode code 821 = .ok (.iconst 1, 1) := by decide +kernel
theorem dL_law_822 : decode code 822 = .ok (.iadd, 1) := by decide +kernel
theorem dL_law_823 : decode code 823 = .ok (.iaload, 1) := by decide +kernel
theorem dL_law_824 : decode code 824 = .ok (.aload_n 0, 1) := by decide +kernel
theorem dL_law_825 : decode code 825 = .ok (.iload 4, 2) := by decide +kernel
theorem dL_law_827 : decode code 827 = .ok (.iconst 2, 1) := by decide +kernel
theorem dL_law_828 : decode code 828 = .ok (.iadd, 1) := by decide +kernel
theorem dL_law_829 : decode code 829 = .ok (.iaload, 1) := by decide +kernel
theorem dL_law_830 : decode code 830 = .ok (.invokevirtual 93, 3) := by decide +kernel
theorem dL_law_833 : decode code 833 = .ok (.aload_n 2, 1) := by decide +kernel
theorem dL_law_834 : decode code 834 = .ok (.aload_n 0, 1) := by decide +kernel
theorem dL_law_835 : decode code 835 = .ok (.iload 4, 2) := by decide +kernel
theorem dL_law_837 : decode code 837 = .ok (.iconst 1, 1) := by decide +kernel
theorem dL_law_838 : decode code 838 = .ok (.iadd, 1) := by decide +kernel
theorem dL_law_839 : decode code 839 = .ok (.iaload, 1) := by decide +kernel
theorem dL_law_840 : decode code 840 = .ok (.aload_n 0, 1) := by decide +kernel
theorem dL_law_841 : decode code 841 = .ok (.iload 4, 2) := by decide +kernel
theorem dL_law_843 : decode code 843 = .ok (.iconst 2, 1) := by decide +kernel
theorem dL_law_844 : decode code 844 = .ok (.iadd, 1) := by decide +kernel
theorem dL_law_845 : decode code 845 = .ok (.iaload, 1) := by decide +kernel
theorem dL_law_846 : decode code 846 = .ok (.invokevirtual 96, 3) := by decide +kernel
theorem dL_law_849 : decode code 849 = .ok (.if_icmp .eq 764, 3) := by decide +kernel
theorem dL_law_852 : decode code 852 = .ok (.iconst 0, 1) := by decide +kernel
theorem dL_law_853 : decode code 853 = .ok (.ireturn, 1) := by decide +kernel
theorem dL_law_854 : decode code 854 = .ok (.aload_n 1, 1) := by decide +kernel
theorem dL_law_855 : decode code 855 = .ok (.aload_n 0, 1) := by decide +kernel
theorem dL_law_856 : decode code 856 = .ok (.iload 4, 2) := by decide +kernel
theorem dL_law_858 : decode code 858 = .ok (.iconst 1, 1) := by decide +kernel
theorem dL_law_859 : decode code 859 = .ok (.iadd, 1) := by decide +kernel
theorem dL_law_860 : decode code 860 = .ok (.iaload, 1) := by decide +kernel
theorem dL_law_861 : decode code 861 = .ok (.invokevirtual 97, 3) := by decide +kernel
theorem dL_law_864 : decode code 864 = .ok (.aload_n 2, 1) := by decide +kernel
theorem dL_law_865 : decode code 865 = .ok (.aload_n 0, 1) := by decide +kernel
theorem dL_law_866 : decode code 866 = .ok (.iload 4, 2) := by decide +kernel
theorem dL_law_868 : decode code 868 = .ok (.iconst 1, 1) := by decide +kernel
theorem dL_law_869 : decode code 869 = .ok (.iadd, 1) := by decide +kernel
theorem dL_law_870 : decode code 870 = .ok (.iaload, 1) := by decide +kernel
theorem dL_law_871 : decode code 871 = .ok (.invokevirtual 100, 3) := by decide +kernel
theorem dL_law_874 : decode code 874 = .ok (.if_icmp .eq 739, 3) := by decide +kernel
theorem dL_law_877 : decode code 877 = .ok (.iconst 0, 1) := by decide +kernel
theorem dL_law_878 : decode code 878 = .ok (.ireturn, 1) := by decide +kernel
theorem dL_law_879 : decode code 879 = .ok (.aload_n 1, 1) := by decide +kernel
theorem dL_law_880 : decode code 880 = .ok (.aload_n 0, 1) := by decide +kernel
theorem dL_law_881 : decode code 881 = .ok (.iload 4, 2) := by decide +kernel
theorem dL_law_883 : decode code 883 = .ok (.iconst 1, 1) := by decide +kernel
theorem dL_law_884 : decode code 884 = .ok (.iadd, 1) := by decide +kernel
theorem dL_law_885 : decode code 885 = .ok (.iaload, 1) := by decide +kernel
theorem dL_law_886 : decode code 886 = .ok (.aload_n 0, 1) := by decide +kernel
theorem dL_law_887 : decode code 887 = .ok (.iload 4, 2) := by decide +kernel
theorem dL_law_889 : decode code 889 = .ok (.iconst 2, 1) := by decide +kernel
theorem dL_law_890 : decode code 890 = .ok (.iadd, 1) := by decide +kernel
theorem dL_law_891 : decode code 891 = .ok (.iaload, 1) := by decide +kernel
theorem dL_law_892 : decode code 892 = .ok (.invokevirtual 101, 3) := by decide +kernel
theorem dL_law_895 : decode code 895 = .ok (.aload_n 2, 1) := by decide +kernel
theorem dL_law_896 : decode code 896 = .ok (.aload_n 0, 1) := by decide +kernel
theorem dL_law_897 : decode code 897 = .ok (.iload 4, 2) := by decide +kernel
theorem dL_law_899 : decode code 899 = .ok (.iconst 1, 1) := by decide +kernel
theorem dL_law_900 : decode code 900 = .ok (.iadd, 1) := by decide +kernel
theorem dL_law_901 : decode code 901 = .ok (.iaload, 1) := by decide +kernel
theorem dL_law_902 : decode code 902 = .ok (.aload_n 0, 1) := by decide +kernel
theorem dL_law_903 : decode code 903 = .ok (.iload 4, 2) := by decide +kernel
theorem dL_law_905 : decode code 905 = .ok (.iconst 2, 1) := by decide +kernel
theorem dL_law_906 : decode code 906 = .ok (.iadd, 1) := by decide +kernel
theorem dL_law_907 : decode code 907 = .ok (.iaload, 1) := by decide +kernel
theorem dL_law_908 : decode code 908 = .ok (.invokevirtual 104, 3) := by decide +kernel
theorem dL_law_911 : decode code 911 = .ok (.if_icmp .eq 702, 3) := by decide +kernel
theorem dL_law_914 : decode code 914 = .ok (.iconst 0, 1) := by decide +kernel
theorem dL_law_915 : decode code 915 = .ok (.ireturn, 1) := by decide +kernel
theorem dL_law_916 : decode code 916 = .ok (.aload_n 1, 1) := by decide +kernel
theorem dL_law_917 : decode code 917 = .ok (.aload_n 0, 1) := by decide +kernel
theorem dL_law_918 : decode code 918 = .ok (.iload 4, 2) := by decide +kernel
theorem dL_law_920 : decode code 920 = .ok (.iconst 1, 1) := by decide +kernel
theorem dL_law_921 : decode code 921 = .ok (.iadd, 1) := by decide +kernel
theorem dL_law_922 : decode code 922 = .ok (.iaload, 1) := by decide +kernel
theorem dL_law_923 : decode code 923 = .ok (.invokevirtual 105, 3) := by decide +kernel
theorem dL_law_926 : decode code 926 = .ok (.aload_n 2, 1) := by decide +kernel
theorem dL_law_927 : decode code 927 = .ok (.aload_n 0, 1) := by decide +kernel
theorem dL_law_928 : decode code 928 = .ok (.iload 4, 2) := by decide +kernel
theorem dL_law_930 : decode code 930 = .ok (.iconst 1, 1) := by decide +kernel
theorem dL_law_931 : decode code 931 = .ok (.iadd, 1) := by decide +kernel
theorem dL_law_932 : decode code 932 = .ok (.iaload, 1) := by decide +kernel
theorem dL_law_933 : decode code 933 = .ok (.invokevirtual 108, 3) := by decide +kernel
theorem dL_law_936 : decode code 936 = .ok (.if_icmp .eq 677, 3) := by decide +kernel
theorem dL_law_939 : decode code 939 = .ok (.iconst 0, 1) := by decide +kernel
theorem dL_law_940 : decode code 940 = .ok (.ireturn, 1) := by decide +kernel
theorem dL_law_941 : decode code 941 = .ok (.aload_n 1, 1) := by decide +kernel
theorem dL_law_942 : decode code 942 = .ok (.aload_n 0, 1) := by decide +kernel
theorem dL_law_943 : decode code 943 = .ok (.iload 4, 2) := by decide +kernel
theorem dL_law_945 : decode code 945 = .ok (.iconst 1, 1) := by decide +kernel
theorem dL_law_946 : decode code 946 = .ok (.iadd, 1) := by decide +kernel
theorem dL_law_947 : decode code 947 = .ok (.iaload, 1) := by decide +kernel
theorem dL_law_948 : decode code 948 = .ok (.invokevirtual 109, 3) := by decide +kernel
theorem dL_law_951 : decode code 951 = .ok (.aload_n 2, 1) := by decide +kernel
theorem dL_law_952 : decode code 952 = .ok (.aload_n 0, 1) := by decide +kernel
theorem dL_law_953 : decode code 953 = .ok (.iload 4, 2) := by decide +kernel
theorem dL_law_955 : decode code 955 = .ok (.iconst 1, 1) := by decide +kernel
theorem dL_law_956 : decode code 956 = .ok (.iadd, 1) := by decide +kernel
theorem dL_law_957 : decode code 957 = .ok (.iaload, 1) := by decide +kernel
theorem dL_law_958 : decode code 958 = .ok (.invokevirtual 112, 3) := by decide +kernel
theorem dL_law_961 : decode code 961 = .ok (.if_icmp .eq 652, 3) := by decide +kernel
theorem dL_law_964 : decode code 964 = .ok (.iconst 0, 1) := by decide +kernel
theorem dL_law_965 : decode code 965 = .ok (.ireturn, 1) := by decide +kernel
theorem dL_law_966 : decode code 966 = .ok (.aload_n 1, 1) := by decide +kernel
theorem dL_law_967 : decode code 967 = .ok (.invokevirtual 113, 3) := by decide +kernel
theorem dL_law_970 : decode code 970 = .ok (.aload_n 2, 1) := by decide +kernel
theorem dL_law_971 : decode code 971 = .ok (.invokevirtual 116, 3) := by decide +kernel
theorem dL_law_974 : decode code 974 = .ok (.if_icmp .eq 639, 3) := by decide +kernel
theorem dL_law_977 : decode code 977 = .ok (.iconst 0, 1) := by decide +kernel
theorem dL_law_978 : decode code 978 = .ok (.ireturn, 1) := by decide +kernel
theorem dL_law_979 : decode code 979 = .ok (.aload_n 1, 1) := by decide +kernel
theorem dL_law_980 : decode code 980 = .ok (.aload_n 0, 1) := by decide +kernel
theorem dL_law_981 : decode code 981 = .ok (.iload 4, 2) := by decide +kernel
theorem dL_law_983 : decode code 983 = .ok (.iconst 1, 1) := by decide +kernel
theorem dL_law_984 : decode code 984 = .ok (.iadd, 1) := by decide +kernel
theorem dL_law_985 : decode code 985 = .ok (.iaload, 1) := by decide +kernel
theorem dL_law_986 : decode code 986 = .ok (.aload_n 3, 1) := by decide +kernel
theorem dL_law_987 : decode code 987 = .ok (.invokestatic 117, 3) := by decide +kernel
theorem dL_law_990 : decode code 990 = .ok (.istore 5, 2) := by decide +kernel
theorem dL_law_992 : decode code 992 = .ok (.aload_n 2, 1) := by decide +kernel
theorem dL_law_993 : decode code 993 = .ok (.aload_n 0, 1) := by decide +kernel
theorem dL_law_994 : decode code 994 = .ok (.iload 4, 2) := by decide +kernel
theorem dL_law_996 : decode code 996 = .ok (.iconst 1, 1) := by decide +kernel
theorem dL_law_997 : decode code 997 = .ok (.iadd, 1) := by decide +kernel
theorem dL_law_998 : decode code 998 = .ok (.iaload, 1) := by decide +kernel
theorem dL_law_999 : decode code 999 = .ok (.invokevirtual 122, 3) := by decide +kernel
theorem dL_law_1002 : decode code 1002 = .ok (.istore 6, 2) := by decide +kernel
theorem dL_law_1004 : decode code 1004 = .ok (.aload_n 2, 1) := by decide +kernel
theorem dL_law_1005 : decode code 1005 = .ok (.invokevirtual 123, 3) := by decide +kernel
theorem dL_law_1008 : decode code 1008 = .ok (.iload 5, 2) := by decide +kernel
theorem dL_law_1010 : decode code 1010 = .ok (.if_icmp .eq 5, 3) := by decide +kernel
theorem dL_law_1013 : decode code 1013 = .ok (.iconst 0, 1) := by decide +kernel
theorem dL_law_1014 : decode code 1014 = .ok (.ireturn, 1) := by decide +kernel
theorem dL_law_1015 : decode code 1015 = .ok (.iload 5, 2) := by decide +kernel
theorem dL_law_1017 : decode code 1017 = .ok (.ifCond .ne 15, 3) := by decide +kernel
theorem dL_law_1020 : decode code 1020 = .ok (.aload_n 3, 1) := by decide +kernel
theorem dL_law_1021 : decode code 1021 = .ok (.iconst 0, 1) := by decide +kernel
theorem dL_law_1022 : decode code 1022 = .ok (.laload, 1) := by decide +kernel
theorem dL_law_1023 : decode code 1023 = .ok (.iload 6, 2) := by decide +kernel
theorem dL_law_1025 : decode code 1025 = .ok (.i2l, 1) := by decide +kernel
theorem dL_law_1026 : decode code 1026 = .ok (.lcmp, 1) := by decide +kernel
theorem dL_law_1027 : decode code 1027 = .ok (.ifCond .eq 5, 3) := by decide +kernel
theorem dL_law_1030 : decode code 1030 = .ok (.iconst 0, 1) := by decide +kernel
theorem dL_law_1031 : decode code 1031 = .ok (.ireturn, 1) := by decide +kernel
theorem dL_law_1032 : decode code 1032 = .ok (.goto 581, 3) := by decide +kernel
theorem dL_law_1035 : decode code 1035 = .ok (.aload_n 1, 1) := by decide +kernel
theorem dL_law_1036 : decode code 1036 = .ok (.aload_n 0, 1) := by decide +kernel
theorem dL_law_1037 : decode code 1037 = .ok (.iload 4, 2) := by decide +kernel
theorem dL_law_1039 : decode code 1039 = .ok (.iconst 1, 1) := by decide +kernel
theorem dL_law_1040 : decode code 1040 = .ok (.iadd, 1) := by decide +kernel
theorem dL_law_1041 : decode code 1041 = .ok (.iaload, 1) := by decide +kernel
theorem dL_law_1042 : decode code 1042 = .ok (.invokevirtual 126, 3) := by decide +kernel
theorem dL_law_1045 : decode code 1045 = .ok (.aload_n 2, 1) := by decide +kernel
theorem dL_law_1046 : decode code 1046 = .ok (.aload_n 0, 1) := by decide +kernel
theorem dL_law_1047 : decode code 1047 = .ok (.iload 4, 2) := by decide +kernel
theorem dL_law_1049 : decode code 1049 = .ok (.iconst 1, 1) := by decide +kernel
theorem dL_law_1050 : decode code 1050 = .ok (.iadd, 1) := by decide +kernel
theorem dL_law_1051 : decode code 1051 = .ok (.iaload, 1) := by decide +kernel
theorem dL_law_1052 : decode code 1052 = .ok (.invokevirtual 129, 3) := by decide +kernel
theorem dL_law_1055 : decode code 1055 = .ok (.if_icmp .eq 558, 3) := by decide +kernel
theorem dL_law_1058 : decode code 1058 = .ok (.iconst 0, 1) := by decide +kernel
theorem dL_law_1059 : decode code 1059 = .ok (.ireturn, 1) := by decide +kernel
theorem dL_law_1060 : decode code 1060 = .ok (.aload_n 1, 1) := by decide +kernel
theorem dL_law_1061 : decode code 1061 = .ok (.aload_n 0, 1) := by decide +kernel
theorem dL_law_1062 : decode code 1062 = .ok (.iload 4, 2) := by decide +kernel
theorem dL_law_1064 : decode code 1064 = .ok (.iconst 1, 1) := by decide +kernel
theorem dL_law_1065 : decode code 1065 = .ok (.iadd, 1) := by decide +kernel
theorem dL_law_1066 : decode code 1066 = .ok (.iaload, 1) := by decide +kernel
theorem dL_law_1067 : decode code 1067 = .ok (.invokevirtual 130, 3) := by decide +kernel
theorem dL_law_1070 : decode code 1070 = .ok (.aload_n 2, 1) := by decide +kernel
theorem dL_law_1071 : decode code 1071 = .ok (.aload_n 0, 1) := by decide +kernel
theorem dL_law_1072 : decode code 1072 = .ok (.iload 4, 2) := by decide +kernel
theorem dL_law_1074 : decode code 1074 = .ok (.iconst 1, 1) := by decide +kernel
theorem dL_law_1075 : decode code 1075 = .ok (.iadd, 1) := by decide +kernel
theorem dL_law_1076 : decode code 1076 = .ok (.iaload, 1) := by decide +kernel
theorem dL_law_1077 : decode code 1077 = .ok (.invokevirtual 133, 3) := by decide +kernel
theorem dL_law_1080 : decode code 1080 = .ok (.if_icmp .eq 533, 3) := by decide +kernel
theorem dL_law_1083 : decode code 1083 = .ok (.iconst 0, 1) := by decide +kernel
theorem dL_law_1084 : decode code 1084 = .ok (.ireturn, 1) := by decide +kernel
theorem dL_law_1085 : decode code 1085 = .ok (.aload_n 1, 1) := by decide +kernel
theorem dL_law_1086 : decode code 1086 = .ok (.aload_n 0, 1) := by decide +kernel
theorem dL_law_1087 : decode code 1087 = .ok (.iload 4, 2) := by decide +kernel
theorem dL_law_1089 : decode code 1089 = .ok (.iconst 1, 1) := by decide +kernel
theorem dL_law_1090 : decode code 1090 = .ok (.iadd, 1) := by decide +kernel
theorem dL_law_1091 : decode code 1091 = .ok (.iaload, 1) := by decide +kernel
theorem dL_law_1092 : decode code 1092 = .ok (.aload_n 0, 1) := by decide +kernel
theorem dL_law_1093 : decode code 1093 = .ok (.iload 4, 2) := by decide +kernel
theorem dL_law_1095 : decode code 1095 = .ok (.iconst 2, 1) := by decide +kernel
theorem dL_law_1096 : decode code 1096 = .ok (.iadd, 1) := by decide +kernel
theorem dL_law_1097 : decode code 1097 = .ok (.iaload, 1) := by decide +kernel
theorem dL_law_1098 : decode code 1098 = .ok (.invokevirtual 134, 3) := by decide +kernel
theorem dL_law_1101 : decode code 1101 = .ok (.aload_n 2, 1) := by decide +kernel
theorem dL_law_1102 : decode code 1102 = .ok (.aload_n 0, 1) := by decide +kernel
theorem dL_law_1103 : decode code 1103 = .ok (.iload 4, 2) := by decide +kernel
theorem dL_law_1105 : decode code 1105 = .ok (.iconst 1, 1) := by decide +kernel
theorem dL_law_1106 : decode code 1106 = .ok (.iadd, 1) := by decide +kernel
theorem dL_law_1107 : decode code 1107 = .ok (.iaload, 1) := by decide +kernel
theorem dL_law_1108 : decode code 1108 = .ok (.aload_n 0, 1) := by decide +kernel
theorem dL_law_1109 : decode code 1109 = .ok (.iload 4, 2) := by decide +kernel
theorem dL_law_1111 : decode code 1111 = .ok (.iconst 2, 1) := by decide +kernel
theorem dL_law_1112 : decode code 1112 = .ok (.iadd, 1) := by decide +kernel
theorem dL_law_1113 : decode code 1113 = .ok (.iaload, 1) := by decide +kernel
theorem dL_law_1114 : decode code 1114 = .ok (.invokevirtual 137, 3) := by decide +kernel
theorem dL_law_1117 : decode code 1117 = .ok (.if_icmp .eq 496, 3) := by decide +kernel
theorem dL_law_1120 : decode code 1120 = .ok (.iconst 0, 1) := by decide +kernel
theorem dL_law_1121 : decode code 1121 = .ok (.ireturn, 1) := by decide +kernel
theorem dL_law_1122 : decode code 1122 = .ok (.aload_n 1, 1) := by decide +kernel
theorem dL_law_1123 : decode code 1123 = .ok (.aload_n 0, 1) := by decide +kernel
theorem dL_law_1124 : decode code 1124 = .ok (.iload 4, 2) := by decide +kernel
theorem dL_law_1126 : decode code 1126 = .ok (.iconst 1, 1) := by decide +kernel
theorem dL_law_1127 : decode code 1127 = .ok (.iadd, 1) := by decide +kernel
theorem dL_law_1128 : decode code 1128 = .ok (.iaload, 1) := by decide +kernel
theorem dL_law_1129 : decode code 1129 = .ok (.aload_n 0, 1) := by decide +kernel
theorem dL_law_1130 : decode code 1130 = .ok (.iload 4, 2) := by decide +kernel
theorem dL_law_1132 : decode code 1132 = .ok (.iconst 2, 1) := by decide +kernel
theorem dL_law_1133 : decode code 1133 = .ok (.iadd, 1) := by decide +kernel
theorem dL_law_1134 : decode code 1134 = .ok (.iaload, 1) := by decide +kernel
theorem dL_law_1135 : decode code 1135 = .ok (.aload_n 0, 1) := by decide +kernel
theorem dL_law_1136 : decode code 1136 = .ok (.iload 4, 2) := by decide +kernel
theorem dL_law_1138 : decode code 1138 = .ok (.iconst 3, 1) := by decide +kernel
theorem dL_law_1139 : decode code 1139 = .ok (.iadd, 1) := by decide +kernel
theorem dL_law_1140 : decode code 1140 = .ok (.iaload, 1) := by decide +kernel
theorem dL_law_1141 : decode code 1141 = .ok (.aload_n 0, 1) := by decide +kernel
theorem dL_law_1142 : decode code 1142 = .ok (.iload 4, 2) := by decide +kernel
theorem dL_law_1144 : decode code 1144 = .ok (.iconst 4, 1) := by decide +kernel
theorem dL_law_1145 : decode code 1145 = .ok (.iadd, 1) := by decide +kernel
theorem dL_law_1146 : decode code 1146 = .ok (.iaload, 1) := by decide +kernel
theorem dL_law_1147 : decode code 1147 = .ok (.invokevirtual 138, 3) := by decide +kernel
theorem dL_law_1150 : decode code 1150 = .ok (.aload_n 2, 1) := by decide +kernel
theorem dL_law_1151 : decode code 1151 = .ok (.aload_n 0, 1) := by decide +kernel
theorem dL_law_1152 : decode code 1152 = .ok (.iload 4, 2) := by decide +kernel
theorem dL_law_1154 : decode code 1154 = .ok (.iconst 1, 1) := by decide +kernel
theorem dL_law_1155 : decode code 1155 = .ok (.iadd, 1) := by decide +kernel
theorem dL_law_1156 : decode code 1156 = .ok (.iaload, 1) := by decide +kernel
theorem dL_law_1157 : decode code 1157 = .ok (.aload_n 0, 1) := by decide +kernel
theorem dL_law_1158 : decode code 1158 = .ok (.iload 4, 2) := by decide +kernel
theorem dL_law_1160 : decode code 1160 = .ok (.iconst 2, 1) := by decide +kernel
theorem dL_law_1161 : decode code 1161 = .ok (.iadd, 1) := by decide +kernel
theorem dL_law_1162 : decode code 1162 = .ok (.iaload, 1) := by decide +kernel
theorem dL_law_1163 : decode code 1163 = .ok (.aload_n 0, 1) := by decide +kernel
theorem dL_law_1164 : decode code 1164 = .ok (.iload 4, 2) := by decide +kernel
theorem dL_law_1166 : decode code 1166 = .ok (.iconst 3, 1) := by decide +kernel
theorem dL_law_1167 : decode code 1167 = .ok (.iadd, 1) := by decide +kernel
theorem dL_law_1168 : decode code 1168 = .ok (.iaload, 1) := by decide +kernel
theorem dL_law_1169 : decode code 1169 = .ok (.aload_n 0, 1) := by decide +kernel
theorem dL_law_1170 : decode code 1170 = .ok (.iload 4, 2) := by decide +kernel
theorem dL_law_1172 : decode code 1172 = .ok (.iconst 4, 1) := by decide +kernel
theorem dL_law_1173 : decode code 1173 = .ok (.iadd, 1) := by decide +kernel
theorem dL_law_1174 : decode code 1174 = .ok (.iaload, 1) := by decide +kernel
theorem dL_law_1175 : decode code 1175 = .ok (.invokevirtual 141, 3) := by decide +kernel
theorem dL_law_1178 : decode code 1178 = .ok (.if_icmp .eq 435, 3) := by decide +kernel
theorem dL_law_1181 : decode code 1181 = .ok (.iconst 0, 1) := by decide +kernel
theorem dL_law_1182 : decode code 1182 = .ok (.ireturn, 1) := by decide +kernel
theorem dL_law_1183 : decode code 1183 = .ok (.aload_n 1, 1) := by decide +kernel
theorem dL_law_1184 : decode code 1184 = .ok (.aload_n 0, 1) := by decide +kernel
theorem dL_law_1185 : decode code 1185 = .ok (.iload 4, 2) := by decide +kernel
theorem dL_law_1187 : decode code 1187 = .ok (.iconst 1, 1) := by decide +kernel
theorem dL_law_1188 : decode code 1188 = .ok (.iadd, 1) := by decide +kernel
theorem dL_law_1189 : decode code 1189 = .ok (.iaload, 1) := by decide +kernel
theorem dL_law_1190 : decode code 1190 = .ok (.aload_n 0, 1) := by decide +kernel
theorem dL_law_1191 : decode code 1191 = .ok (.iload 4, 2) := by decide +kernel
theorem dL_law_1193 : decode code 1193 = .ok (.iconst 2, 1) := by decide +kernel
theorem dL_law_1194 : decode code 1194 = .ok (.iadd, 1) := by decide +kernel
theorem dL_law_1195 : decode code 1195 = .ok (.iaload, 1) := by decide +kernel
theorem dL_law_1196 : decode code 1196 = .ok (.invokevirtual 142, 3) := by decide +kernel
theorem dL_law_1199 : decode code 1199 = .ok (.aload_n 2, 1) := by decide +kernel
theorem dL_law_1200 : decode code 1200 = .ok (.aload_n 0, 1) := by decide +kernel
theorem dL_law_1201 : decode code 1201 = .ok (.iload 4, 2) := by decide +kernel
theorem dL_law_1203 : decode code 1203 = .ok (.iconst 1, 1) := by decide +kernel
theorem dL_law_1204 : decode code 1204 = .ok (.iadd, 1) := by decide +kernel
theorem dL_law_1205 : decode code 1205 = .ok (.iaload, 1) := by decide +kernel
theorem dL_law_1206 : decode code 1206 = .ok (.aload_n 0, 1) := by decide +kernel
theorem dL_law_1207 : decode code 1207 = .ok (.iload 4, 2) := by decide +kernel
theorem dL_law_1209 : decode code 1209 = .ok (.iconst 2, 1) := by decide +kernel
theorem dL_law_1210 : decode code 1210 = .ok (.iadd, 1) := by decide +kernel
theorem dL_law_1211 : decode code 1211 = .ok (.iaload, 1) := by decide +kernel
theorem dL_law_1212 : decode code 1212 = .ok (.invokevirtual 145, 3) := by decide +kernel
theorem dL_law_1215 : decode code 1215 = .ok (.if_icmp .eq 398, 3) := by decide +kernel
theorem dL_law_1218 : decode code 1218 = .ok (.iconst 0, 1) := by decide +kernel
theorem dL_law_1219 : decode code 1219 = .ok (.ireturn, 1) := by decide +kernel
theorem dL_law_1220 : decode code 1220 = .ok (.aload_n 1, 1) := by decide +kernel
theorem dL_law_1221 : decode code 1221 = .ok (.aload_n 0, 1) := by decide +kernel
theorem dL_law_1222 : decode code 1222 = .ok (.iload 4, 2) := by decide +kernel
theorem dL_law_1224 : decode code 1224 = .ok (.iconst 1, 1) := by decide +kernel
theorem dL_law_1225 : decode code 1225 = .ok (.iadd, 1) := by decide +kernel
theorem dL_law_1226 : decode code 1226 = .ok (.iaload, 1) := by decide +kernel
theorem dL_law_1227 : decode code 1227 = .ok (.aload_n 0, 1) := by decide +kernel
theorem dL_law_1228 : decode code 1228 = .ok (.iload 4, 2) := by decide +kernel
theorem dL_law_1230 : decode code 1230 = .ok (.iconst 2, 1) := by decide +kernel
theorem dL_law_1231 : decode code 1231 = .ok (.iadd, 1) := by decide +kernel
theorem dL_law_1232 : decode code 1232 = .ok (.iaload, 1) := by decide +kernel
theorem dL_law_1233 : decode code 1233 = .ok (.aload_n 0, 1) := by decide +kernel
theorem dL_law_1234 : decode code 1234 = .ok (.iload 4, 2) := by decide +kernel
theorem dL_law_1236 : decode code 1236 = .ok (.iconst 3, 1) := by decide +kernel
theorem dL_law_1237 : decode code 1237 = .ok (.iadd, 1) := by decide +kernel
theorem dL_law_1238 : decode code 1238 = .ok (.iaload, 1) := by decide +kernel
theorem dL_law_1239 : decode code 1239 = .ok (.aload_n 0, 1) := by decide +kernel
theorem dL_law_1240 : decode code 1240 = .ok (.iload 4, 2) := by decide +kernel
theorem dL_law_1242 : decode code 1242 = .ok (.iconst 4, 1) := by decide +kernel
theorem dL_law_1243 : decode code 1243 = .ok (.iadd, 1) := by decide +kernel
theorem dL_law_1244 : decode code 1244 = .ok (.iaload, 1) := by decide +kernel
theorem dL_law_1245 : decode code 1245 = .ok (.ifCond .eq 7, 3) := by decide +kernel
theorem dL_law_1248 : decode code 1248 = .ok (.iconst 1, 1) := by decide +kernel
theorem dL_law_1249 : decode code 1249 = .ok (.goto 4, 3) := by decide +kernel
theorem dL_law_1252 : decode code 1252 = .ok (.iconst 0, 1) := by decide +kernel
theorem dL_law_1253 : decode code 1253 = .ok (.aload_n 0, 1) := by decide +kernel
theorem dL_law_1254 : decode code 1254 = .ok (.iload 4, 2) := by decide +kernel
theorem dL_law_1256 : decode code 1256 = .ok (.iconst 5, 1) := by decide +kernel
theorem dL_law_1257 : decode code 1257 = .ok (.iadd, 1) := by decide +kernel
theorem dL_law_1258 : decode code 1258 = .ok (.iaload, 1) := by decide +kernel
theorem dL_law_1259 : decode code 1259 = .ok (.invokevirtual 146, 3) := by decide +kernel
theorem dL_law_1262 : decode code 1262 = .ok (.aload_n 2, 1) := by decide +kernel
theorem dL_law_1263 : decode code 1263 = .ok (.aload_n 0, 1) := by decide +kernel
theorem dL_law_1264 : decode code 1264 = .ok (.iload 4, 2) := by decide +kernel
theorem dL_law_1266 : decode code 1266 = .ok (.iconst 1, 1) := by decide +kernel
theorem dL_law_1267 : decode code 1267 = .ok (.iadd, 1) := by decide +kernel
theorem dL_law_1268 : decode code 1268 = .ok (.iaload, 1) := by decide +kernel
theorem dL_law_1269 : decode code 1269 = .ok (.aload_n 0, 1) := by decide +kernel
theorem dL_law_1270 : decode code 1270 = .ok (.iload 4, 2) := by decide +kernel
theorem dL_law_1272 : decode code 1272 = .ok (.iconst 2, 1) := by decide +kernel
theorem dL_law_1273 : decode code 1273 = .ok (.iadd, 1) := by decide +kernel
theorem dL_law_1274 : decode code 1274 = .ok (.iaload, 1) := by decide +kernel
theorem dL_law_1275 : decode code 1275 = .ok (.aload_n 0, 1) := by decide +kernel
theorem dL_law_1276 : decode code 1276 = .ok (.iload 4, 2) := by decide +kernel
theorem dL_law_1278 : decode code 1278 = .ok (.iconst 3, 1) := by decide +kernel
theorem dL_law_1279 : decode code 1279 = .ok (.iadd, 1) := by decide +kernel
theorem dL_law_1280 : decode code 1280 = .ok (.iaload, 1) := by decide +kernel
theorem dL_law_1281 : decode code 1281 = .ok (.aload_n 0, 1) := by decide +kernel
theorem dL_law_1282 : decode code 1282 = .ok (.iload 4, 2) := by decide +kernel
theorem dL_law_1284 : decode code 1284 = .ok (.iconst 4, 1) := by decide +kernel
theorem dL_law_1285 : decode code 1285 = .ok (.iadd, 1) := by decide +kernel
theorem dL_law_1286 : decode code 1286 = .ok (.iaload, 1) := by decide +kernel
theorem dL_law_1287 : decode code 1287 = .ok (.ifCond .eq 7, 3) := by decide +kernel
theorem dL_law_1290 : decode code 1290 = .ok (.iconst 1, 1) := by decide +kernel
theorem dL_law_1291 : decode code 1291 = .ok (.goto 4, 3) := by decide +kernel
theorem dL_law_1294 : decode code 1294 = .ok (.iconst 0, 1) := by decide +kernel
theorem dL_law_1295 : decode code 1295 = .ok (.aload_n 0, 1) := by decide +kernel
theorem dL_law_1296 : decode code 1296 = .ok (.iload 4, 2) := by decide +kernel
theorem dL_law_1298 : decode code 1298 = .ok (.iconst 5, 1) := by decide +kernel
theorem dL_law_1299 : decode code 1299 = .ok (.iadd, 1) := by decide +kernel
theorem dL_law_1300 : decode code 1300 = .ok (.iaload, 1) := by decide +kernel
theorem dL_law_1301 : decode code 1301 = .ok (.invokevirtual 150, 3) := by decide +kernel
theorem dL_law_1304 : decode code 1304 = .ok (.if_icmp .eq 309, 3) := by decide +kernel
theorem dL_law_1307 : decode code 1307 = .ok (.iconst 0, 1) := by decide +kernel
theorem dL_law_1308 : decode code 1308 = .ok (.ireturn, 1) := by decide +kernel
theorem dL_law_1309 : decode code 1309 = .ok (.aload_n 1, 1) := by decide +kernel
theorem dL_law_1310 : decode code 1310 = .ok (.aload_n 0, 1) := by decide +kernel
theorem dL_law_1311 : decode code 1311 = .ok (.iload 4, 2) := by decide +kernel
theorem dL_law_1313 : decode code 1313 = .ok (.iconst 1, 1) := by decide +kernel
theorem dL_law_1314 : decode code 1314 = .ok (.iadd, 1) := by decide +kernel
theorem dL_law_1315 : decode code 1315 = .ok (.iaload, 1) := by decide +kernel
theorem dL_law_1316 : decode code 1316 = .ok (.aload_n 0, 1) := by decide +kernel
theorem dL_law_1317 : decode code 1317 = .ok (.iload 4, 2) := by decide +kernel
theorem dL_law_1319 : decode code 1319 = .ok (.iconst 2, 1) := by decide +kernel
theorem dL_law_1320 : decode code 1320 = .ok (.iadd, 1) := by decide +kernel
theorem dL_law_1321 : decode code 1321 = .ok (.iaload, 1) := by decide +kernel
theorem dL_law_1322 : decode code 1322 = .ok (.aload_n 0, 1) := by decide +kernel
theorem dL_law_1323 : decode code 1323 = .ok (.iload 4, 2) := by decide +kernel
theorem dL_law_1325 : decode code 1325 = .ok (.iconst 3, 1) := by decide +kernel
theorem dL_law_1326 : decode code 1326 = .ok (.iadd, 1) := by decide +kernel
theorem dL_law_1327 : decode code 1327 = .ok (.iaload, 1) := by decide +kernel
theorem dL_law_1328 : decode code 1328 = .ok (.aload_n 0, 1) := by decide +kernel
theorem dL_law_1329 : decode code 1329 = .ok (.iload 4, 2) := by decide +kernel
theorem dL_law_1331 : decode code 1331 = .ok (.iconst 4, 1) := by decide +kernel
theorem dL_law_1332 : decode code 1332 = .ok (.iadd, 1) := by decide +kernel
theorem dL_law_1333 : decode code 1333 = .ok (.iaload, 1) := by decide +kernel
theorem dL_law_1334 : decode code 1334 = .ok (.ifCond .eq 7, 3) := by decide +kernel
theorem dL_law_1337 : decode code 1337 = .ok (.iconst 1, 1) := by decide +kernel
theorem dL_law_1338 : decode code 1338 = .ok (.goto 4, 3) := by decide +kernel
theorem dL_law_1341 : decode code 1341 = .ok (.iconst 0, 1) := by decide +kernel
theorem dL_law_1342 : decode code 1342 = .ok (.aload_n 0, 1) := by decide +kernel
theorem dL_law_1343 : decode code 1343 = .ok (.iload 4, 2) := by decide +kernel
theorem dL_law_1345 : decode code 1345 = .ok (.iconst 5, 1) := by decide +kernel
theorem dL_law_1346 : decode code 1346 = .ok (.iadd, 1) := by decide +kernel
theorem dL_law_1347 : decode code 1347 = .ok (.iaload, 1) := by decide +kernel
theorem dL_law_1348 : decode code 1348 = .ok (.invokevirtual 151, 3) := by decide +kernel
theorem dL_law_1351 : decode code 1351 = .ok (.aload_n 2, 1) := by decide +kernel
theorem dL_law_1352 : decode code 1352 = .ok (.aload_n 0, 1) := by decide +kernel
theorem dL_law_1353 : decode code 1353 = .ok (.iload 4, 2) := by decide +kernel
theorem dL_law_1355 : decode code 1355 = .ok (.iconst 1, 1) := by decide +kernel
theorem dL_law_1356 : decode code 1356 = .ok (.iadd, 1) := by decide +kernel
theorem dL_law_1357 : decode code 1357 = .ok (.iaload, 1) := by decide +kernel
theorem dL_law_1358 : decode code 1358 = .ok (.aload_n 0, 1) := by decide +kernel
theorem dL_law_1359 : decode code 1359 = .ok (.iload 4, 2) := by decide +kernel
theorem dL_law_1361 : decode code 1361 = .ok (.iconst 2, 1) := by decide +kernel
theorem dL_law_1362 : decode code 1362 = .ok (.iadd, 1) := by decide +kernel
theorem dL_law_1363 : decode code 1363 = .ok (.iaload, 1) := by decide +kernel
theorem dL_law_1364 : decode code 1364 = .ok (.aload_n 0, 1) := by decide +kernel
theorem dL_law_1365 : decode code 1365 = .ok (.iload 4, 2) := by decide +kernel
theorem dL_law_1367 : decode code 1367 = .ok (.iconst 3, 1) := by decide +kernel
theorem dL_law_1368 : decode code 1368 = .ok (.iadd, 1) := by decide +kernel
theorem dL_law_1369 : decode code 1369 = .ok (.iaload, 1) := by decide +kernel
theorem dL_law_1370 : decode code 1370 = .ok (.aload_n 0, 1) := by decide +kernel
theorem dL_law_1371 : decode code 1371 = .ok (.iload 4, 2) := by decide +kernel
theorem dL_law_1373 : decode code 1373 = .ok (.iconst 4, 1) := by decide +kernel
theorem dL_law_1374 : decode code 1374 = .ok (.iadd, 1) := by decide +kernel
theorem dL_law_1375 : decode code 1375 = .ok (.iaload, 1) := by decide +kernel
theorem dL_law_1376 : decode code 1376 = .ok (.ifCond .eq 7, 3) := by decide +kernel
theorem dL_law_1379 : decode code 1379 = .ok (.iconst 1, 1) := by decide +kernel
theorem dL_law_1380 : decode code 1380 = .ok (.goto 4, 3) := by decide +kernel
theorem dL_law_1383 : decode code 1383 = .ok (.iconst 0, 1) := by decide +kernel
theorem dL_law_1384 : decode code 1384 = .ok (.aload_n 0, 1) := by decide +kernel
theorem dL_law_1385 : decode code 1385 = .ok (.iload 4, 2) := by decide +kernel
theorem dL_law_1387 : decode code 1387 = .ok (.iconst 5, 1) := by decide +kernel
theorem dL_law_1388 : decode code 1388 = .ok (.iadd, 1) := by decide +kernel
theorem dL_law_1389 : decode code 1389 = .ok (.iaload, 1) := by decide +kernel
theorem dL_law_1390 : decode code 1390 = .ok (.invokevirtual 154, 3) := by decide +kernel
theorem dL_law_1393 : decode code 1393 = .ok (.if_icmp .eq 220, 3) := by decide +kernel
theorem dL_law_1396 : decode code 1396 = .ok (.iconst 0, 1) := by decide +kernel
theorem dL_law_1397 : decode code 1397 = .ok (.ireturn, 1) := by decide +kernel
theorem dL_law_1398 : decode code 1398 = .ok (.aload_n 1, 1) := by decide +kernel
theorem dL_law_1399 : decode code 1399 = .ok (.aload_n 0, 1) := by decide +kernel
theorem dL_law_1400 : decode code 1400 = .ok (.iload 4, 2) := by decide +kernel
theorem dL_law_1402 : decode code 1402 = .ok (.iconst 1, 1) := by decide +kernel
theorem dL_law_1403 : decode code 1403 = .ok (.iadd, 1) := by decide +kernel
theorem dL_law_1404 : decode code 1404 = .ok (.iaload, 1) := by decide +kernel
theorem dL_law_1405 : decode code 1405 = .ok (.aload_n 0, 1) := by decide +kernel
theorem dL_law_1406 : decode code 1406 = .ok (.iload 4, 2) := by decide +kernel
theorem dL_law_1408 : decode code 1408 = .ok (.iconst 2, 1) := by decide +kernel
theorem dL_law_1409 : decode code 1409 = .ok (.iadd, 1) := by decide +kernel
theorem dL_law_1410 : decode code 1410 = .ok (.iaload, 1) := by decide +kernel
theorem dL_law_1411 : decode code 1411 = .ok (.invokevirtual 155, 3) := by decide +kernel
theorem dL_law_1414 : decode code 1414 = .ok (.aload_n 2, 1) := by decide +kernel
theorem dL_law_1415 : decode code 1415 = .ok (.aload_n 0, 1) := by decide +kernel
theorem dL_law_1416 : decode code 1416 = .ok (.iload 4, 2) := by decide +kernel
theorem dL_law_1418 : decode code 1418 = .ok (.iconst 1, 1) := by decide +kernel
theorem dL_law_1419 : decode code 1419 = .ok (.iadd, 1) := by decide +kernel
theorem dL_law_1420 : decode code 1420 = .ok (.iaload, 1) := by decide +kernel
theorem dL_law_1421 : decode code 1421 = .ok (.aload_n 0, 1) := by decide +kernel
theorem dL_law_1422 : decode code 1422 = .ok (.iload 4, 2) := by decide +kernel
theorem dL_law_1424 : decode code 1424 = .ok (.iconst 2, 1) := by decide +kernel
theorem dL_law_1425 : decode code 1425 = .ok (.iadd, 1) := by decide +kernel
theorem dL_law_1426 : decode code 1426 = .ok (.iaload, 1) := by decide +kernel
theorem dL_law_1427 : decode code 1427 = .ok (.invokevirtual 158, 3) := by decide +kernel
theorem dL_law_1430 : decode code 1430 = .ok (.if_icmp .eq 183, 3) := by decide +kernel
theorem dL_law_1433 : decode code 1433 = .ok (.iconst 0, 1) := by decide +kernel
theorem dL_law_1434 : decode code 1434 = .ok (.ireturn, 1) := by decide +kernel
theorem dL_law_1435 : decode code 1435 = .ok (.aload_n 1, 1) := by decide +kernel
theorem dL_law_1436 : decode code 1436 = .ok (.aload_n 0, 1) := by decide +kernel
theorem dL_law_1437 : decode code 1437 = .ok (.iload 4, 2) := by decide +kernel
theorem dL_law_1439 : decode code 1439 = .ok (.iconst 1, 1) := by decide +kernel
theorem dL_law_1440 : decode code 1440 = .ok (.iadd, 1) := by decide +kernel
theorem dL_law_1441 : decode code 1441 = .ok (.iaload, 1) := by decide +kernel
theorem dL_law_1442 : decode code 1442 = .ok (.aload_n 0, 1) := by decide +kernel
theorem dL_law_1443 : decode code 1443 = .ok (.iload 4, 2) := by decide +kernel
theorem dL_law_1445 : decode code 1445 = .ok (.iconst 2, 1) := by decide +kernel
theorem dL_law_1446 : decode code 1446 = .ok (.iadd, 1) := by decide +kernel
theorem dL_law_1447 : decode code 1447 = .ok (.iaload, 1) := by decide +kernel
theorem dL_law_1448 : decode code 1448 = .ok (.aload_n 0, 1) := by decide +kernel
theorem dL_law_1449 : decode code 1449 = .ok (.iload 4, 2) := by decide +kernel
theorem dL_law_1451 : decode code 1451 = .ok (.iconst 3, 1) := by decide +kernel
theorem dL_law_1452 : decode code 1452 = .ok (.iadd, 1) := by decide +kernel
theorem dL_law_1453 : decode code 1453 = .ok (.iaload, 1) := by decide +kernel
theorem dL_law_1454 : decode code 1454 = .ok (.aload_n 0, 1) := by decide +kernel
theorem dL_law_1455 : decode code 1455 = .ok (.iload 4, 2) := by decide +kernel
theorem dL_law_1457 : decode code 1457 = .ok (.iconst 4, 1) := by decide +kernel
theorem dL_law_1458 : decode code 1458 = .ok (.iadd, 1) := by decide +kernel
theorem dL_law_1459 : decode code 1459 = .ok (.iaload, 1) := by decide +kernel
theorem dL_law_1460 : decode code 1460 = .ok (.aload_n 0, 1) := by decide +kernel
theorem dL_law_1461 : decode code 1461 = .ok (.iload 4, 2) := by decide +kernel
theorem dL_law_1463 : decode code 1463 = .ok (.iconst 5, 1) := by decide +kernel
theorem dL_law_1464 : decode code 1464 = .ok (.iadd, 1) := by decide +kernel
theorem dL_law_1465 : decode code 1465 = .ok (.iaload, 1) := by decide +kernel
theorem dL_law_1466 : decode code 1466 = .ok (.ifCond .eq 7, 3) := by decide +kernel
theorem dL_law_1469 : decode code 1469 = .ok (.iconst 1, 1) := by decide +kernel
theorem dL_law_1470 : decode code 1470 = .ok (.goto 4, 3) := by decide +kernel
theorem dL_law_1473 : decode code 1473 = .ok (.iconst 0, 1) := by decide +kernel
theorem dL_law_1474 : decode code 1474 = .ok (.aload_n 0, 1) := by decide +kernel
theorem dL_law_1475 : decode code 1475 = .ok (.iload 4, 2) := by decide +kernel
theorem dL_law_1477 : decode code 1477 = .ok (.bipush 6, 2) := by decide +kernel
theorem dL_law_1479 : decode code 1479 = .ok (.iadd, 1) := by decide +kernel
theorem dL_law_1480 : decode code 1480 = .ok (.iaload, 1) := by decide +kernel
theorem dL_law_1481 : decode code 1481 = .ok (.invokevirtual 159, 3) := by decide +kernel
theorem dL_law_1484 : decode code 1484 = .ok (.aload_n 2, 1) := by decide +kernel
theorem dL_law_1485 : decode code 1485 = .ok (.aload_n 0, 1) := by decide +kernel
theorem dL_law_1486 : decode code 1486 = .ok (.iload 4, 2) := by decide +kernel
theorem dL_law_1488 : decode code 1488 = .ok (.iconst 1, 1) := by decide +kernel
theorem dL_law_1489 : decode code 1489 = .ok (.iadd, 1) := by decide +kernel
theorem dL_law_1490 : decode code 1490 = .ok (.iaload, 1) := by decide +kernel
theorem dL_law_1491 : decode code 1491 = .ok (.aload_n 0, 1) := by decide +kernel
theorem dL_law_1492 : decode code 1492 = .ok (.iload 4, 2) := by decide +kernel
theorem dL_law_1494 : decode code 1494 = .ok (.iconst 2, 1) := by decide +kernel
theorem dL_law_1495 : decode code 1495 = .ok (.iadd, 1) := by decide +kernel
theorem dL_law_1496 : decode code 1496 = .ok (.iaload, 1) := by decide +kernel
theorem dL_law_1497 : decode code 1497 = .ok (.aload_n 0, 1) := by decide +kernel
theorem dL_law_1498 : decode code 1498 = .ok (.iload 4, 2) := by decide +kernel
theorem dL_law_1500 : decode code 1500 = .ok (.iconst 3, 1) := by decide +kernel
theorem dL_law_1501 : decode code 1501 = .ok (.iadd, 1) := by decide +kernel
theorem dL_law_1502 : decode code 1502 = .ok (.iaload, 1) := by decide +kernel
theorem dL_law_1503 : decode code 1503 = .ok (.aload_n 0, 1) := by decide +kernel
theorem dL_law_1504 : decode code 1504 = .ok (.iload 4, 2) := by decide +kernel
theorem dL_law_1506 : decode code 1506 = .ok (.iconst 4, 1) := by decide +kernel
theorem dL_law_1507 : decode code 1507 = .ok (.iadd, 1) := by decide +kernel
theorem dL_law_1508 : decode code 1508 = .ok (.iaload, 1) := by decide +kernel
theorem dL_law_1509 : decode code 1509 = .ok (.aload_n 0, 1) := by decide +kernel
theorem dL_law_1510 : decode code 1510 = .ok (.iload 4, 2) := by decide +kernel
theorem dL_law_1512 : decode code 1512 = .ok (.iconst 5, 1) := by decide +kernel
theorem dL_law_1513 : decode code 1513 = .ok (.iadd, 1) := by decide +kernel
theorem dL_law_1514 : decode code 1514 = .ok (.iaload, 1) := by decide +kernel
theorem dL_law_1515 : decode code 1515 = .ok (.ifCond .eq 7, 3) := by decide +kernel
theorem dL_law_1518 : decode code 1518 = .ok (.iconst 1, 1) := by decide +kernel
theorem dL_law_1519 : decode code 1519 = .ok (.goto 4, 3) := by decide +kernel
theorem dL_law_1522 : decode code 1522 = .ok (.iconst 0, 1) := by decide +kernel
theorem dL_law_1523 : decode code 1523 = .ok (.aload_n 0, 1) := by decide +kernel
theorem dL_law_1524 : decode code 1524 = .ok (.iload 4, 2) := by decide +kernel
theorem dL_law_1526 : decode code 1526 = .ok (.bipush 6, 2) := by decide +kernel
theorem dL_law_1528 : decode code 1528 = .ok (.iadd, 1) := by decide +kernel
theorem dL_law_1529 : decode code 1529 = .ok (.iaload, 1) := by decide +kernel
theorem dL_law_1530 : decode code 1530 = .ok (.invokevirtual 163, 3) := by decide +kernel
theorem dL_law_1533 : decode code 1533 = .ok (.if_icmp .eq 80, 3) := by decide +kernel
theorem dL_law_1536 : decode code 1536 = .ok (.iconst 0, 1) := by decide +kernel
theorem dL_law_1537 : decode code 1537 = .ok (.ireturn, 1) := by decide +kernel
theorem dL_law_1538 : decode code 1538 = .ok (.aload_n 1, 1) := by decide +kernel
theorem dL_law_1539 : decode code 1539 = .ok (.aload_n 0, 1) := by decide +kernel
theorem dL_law_1540 : decode code 1540 = .ok (.iload 4, 2) := by decide +kernel
theorem dL_law_1542 : decode code 1542 = .ok (.iconst 1, 1) := by decide +kernel
theorem dL_law_1543 : decode code 1543 = .ok (.iadd, 1) := by decide +kernel
theorem dL_law_1544 : decode code 1544 = .ok (.iaload, 1) := by decide +kernel
theorem dL_law_1545 : decode code 1545 = .ok (.invokevirtual 164, 3) := by decide +kernel
theorem dL_law_1548 : decode code 1548 = .ok (.aload_n 2, 1) := by decide +kernel
theorem dL_law_1549 : decode code 1549 = .ok (.aload_n 0, 1) := by decide +kernel
theorem dL_law_1550 : decode code 1550 = .ok (.iload 4, 2) := by decide +kernel
theorem dL_law_1552 : decode code 1552 = .ok (.iconst 1, 1) := by decide +kernel
theorem dL_law_1553 : decode code 1553 = .ok (.iadd, 1) := by decide +kernel
theorem dL_law_1554 : decode code 1554 = .ok (.iaload, 1) := by decide +kernel
theorem dL_law_1555 : decode code 1555 = .ok (.invokevirtual 167, 3) := by decide +kernel
theorem dL_law_1558 : decode code 1558 = .ok (.if_icmp .eq 55, 3) := by decide +kernel
theorem dL_law_1561 : decode code 1561 = .ok (.iconst 0, 1) := by decide +kernel
theorem dL_law_1562 : decode code 1562 = .ok (.ireturn, 1) := by decide +kernel
theorem dL_law_1563 : decode code 1563 = .ok (.aload_n 1, 1) := by decide +kernel
theorem dL_law_1564 : decode code 1564 = .ok (.aload_n 0, 1) := by decide +kernel
theorem dL_law_1565 : decode code 1565 = .ok (.iload 4, 2) := by decide +kernel
theorem dL_law_1567 : decode code 1567 = .ok (.iconst 1, 1) := by decide +kernel
theorem dL_law_1568 : decode code 1568 = .ok (.iadd, 1) := by decide +kernel
theorem dL_law_1569 : decode code 1569 = .ok (.iaload, 1) := by decide +kernel
theorem dL_law_1570 : decode code 1570 = .ok (.invokevirtual 168, 3) := by decide +kernel
theorem dL_law_1573 : decode code 1573 = .ok (.aload_n 2, 1) := by decide +kernel
theorem dL_law_1574 : decode code 1574 = .ok (.aload_n 0, 1) := by decide +kernel
theorem dL_law_1575 : decode code 1575 = .ok (.iload 4, 2) := by decide +kernel
theorem dL_law_1577 : decode code 1577 = .ok (.iconst 1, 1) := by decide +kernel
theorem dL_law_1578 : decode code 1578 = .ok (.iadd, 1) := by decide +kernel
theorem dL_law_1579 : decode code 1579 = .ok (.iaload, 1) := by decide +kernel
theorem dL_law_1580 : decode code 1580 = .ok (.invokevirtual 171, 3) := by decide +kernel
theorem dL_law_1583 : decode code 1583 = .ok (.if_icmp .eq 30, 3) := by decide +kernel
theorem dL_law_1586 : decode code 1586 = .ok (.iconst 0, 1) := by decide +kernel
theorem dL_law_1587 : decode code 1587 = .ok (.ireturn, 1) := by decide +kernel
theorem dL_law_1588 : decode code 1588 = .ok (.aload_n 1, 1) := by decide +kernel
theorem dL_law_1589 : decode code 1589 = .ok (.aload_n 0, 1) := by decide +kernel
theorem dL_law_1590 : decode code 1590 = .ok (.iload 4, 2) := by decide +kernel
theorem dL_law_1592 : decode code 1592 = .ok (.iconst 1, 1) := by decide +kernel
theorem dL_law_1593 : decode code 1593 = .ok (.iadd, 1) := by decide +kernel
theorem dL_law_1594 : decode code 1594 = .ok (.iaload, 1) := by decide +kernel
theorem dL_law_1595 : decode code 1595 = .ok (.invokevirtual 172, 3) := by decide +kernel
theorem dL_law_1598 : decode code 1598 = .ok (.aload_n 2, 1) := by decide +kernel
theorem dL_law_1599 : decode code 1599 = .ok (.aload_n 0, 1) := by decide +kernel
theorem dL_law_1600 : decode code 1600 = .ok (.iload 4, 2) := by decide +kernel
theorem dL_law_1602 : decode code 1602 = .ok (.iconst 1, 1) := by decide +kernel
theorem dL_law_1603 : decode code 1603 = .ok (.iadd, 1) := by decide +kernel
theorem dL_law_1604 : decode code 1604 = .ok (.iaload, 1) := by decide +kernel
theorem dL_law_1605 : decode code 1605 = .ok (.invokevirtual 175, 3) := by decide +kernel
theorem dL_law_1608 : decode code 1608 = .ok (.if_icmp .eq 5, 3) := by decide +kernel
theorem dL_law_1611 : decode code 1611 = .ok (.iconst 0, 1) := by decide +kernel
theorem dL_law_1612 : decode code 1612 = .ok (.ireturn, 1) := by decide +kernel
theorem dL_law_1613 : decode code 1613 = .ok (.iinc 4 7, 3) := by decide +kernel
theorem dL_law_1616 : decode code 1616 = .ok (.goto (-1593), 3) := by decide +kernel
theorem dL_law_1619 : decode code 1619 = .ok (.iconst 1, 1) := by decide +kernel
theorem dL_law_1620 : decode code 1620 = .ok (.ireturn, 1) := by decide +kernel
section LAW
variable {w : Wd} {p : Program} {l : Launch} {e : Env} {s : State} {m : MethodId} {b N : Nat} {below : List Frame} {meth : Method} {c : Code} {xs : Nat → Int32} {Inv : St → Prop}
set_option maxRecDepth 100000 in
set_option maxHeartbeats 4000000 in
theorem lc_feed {z : Int} {j : Nat} {σ : St} (hPS : PS_feed Inv) (C : Cx w p s m #[Value.ref b] c (fun q => s.heap.size ≤ q) code RL 7) (hX : va_X b N xs s s.heap) (hbl : b < s.heap.size) (hz : 0 ≤ z ∧ z + 7 ≤ (N : Int)) (hN : N ≤ 3584) (hj : j ≤ 513) (hI : Inv σ)
    (kk : ∀ σ2, Inv σ2 → GL w p l e s m b below meth c (235 + (j + 1)) (54422 + 64 * (j + 1)) 1613 [some (.ref b), some (rv w 0), some (rv w 170), some (rv w 234), some (iv z), none, none] [] σ2) : GL w p l e s m b below meth c (235 + j) (54422 + 64 * j) 200 [some (.ref b), some (rv w 0), some (rv w 170), some (rv w 234), some (iv z), none, none] [] σ := by
  have hbA : ¬ (fun q : Nat => s.heap.size ≤ q) b := Nat.not_le.mpr hbl
  have hcs : 235 + j ≤ room_1.cells ∧ 54422 + 64 * j ≤ room_1.slots := ⟨by show _ ≤ 601024; omega, by show _ ≤ 7293034; omega⟩
  have b1 : InI (z + 1) ∧ (0 ≤ z + 1 ∧ z + 1 < (N : Int)) := ⟨⟨by omega, by omega⟩, by omega, by omega⟩
  have w1 : wr (z + 1) = z + 1 := wr_id b1.1
  have b2 : InI (z + 2) ∧ (0 ≤ z + 2 ∧ z + 2 < (N : Int)) := ⟨⟨by omega, by omega⟩, by omega, by omega⟩
  have w2 : wr (z + 2) = z + 2 := wr_id b2.1
  have b3 : InI (z + 3) ∧ (0 ≤ z + 3 ∧ z + 3 < (N : Int)) := ⟨⟨by omega, by omega⟩, by omega, by omega⟩
  have w3 : wr (z + 3) = z + 3 := wr_id b3.1
  have b4 : InI (z + 4) ∧ (0 ≤ z + 4 ∧ z + 4 < (N : Int)) := ⟨⟨by omega, by omega⟩, by omega, by omega⟩
  have w4 : wr (z + 4) = z + 4 := wr_id b4.1
  have b5 : InI (z + 5) ∧ (0 ≤ z + 5 ∧ z + 5 < (N : Int)) := ⟨⟨by omega, by omega⟩, by omega, by omega⟩
  have w5 : wr (z + 5) = z + 5 := wr_id b5.1
  refine g_ok (fun ho => ?_)
  obtain ⟨y, σ1, σ2, q1, q2, hI2⟩ := hPS σ (sv xs (z + 1)) (sv xs (z + 2)) (sv xs (z + 3)) (sv xs (z + 4)) (sv xs (z + 5)) ho hI (iI _) (iI _) (iI _) (iI _) (iI _)
  refine g_aload_n C dL_law_200 rfl ?_
  refine g_aload_nV C dL_law_201 rfl ?_
  refine g_iload C dL_law_202 rfl ?_
  refine g_iconst C dL_law_204 ?_
  refine g_iadd C dL_law_205 ?_
  refine g_E w1 ?_
  refine g_sld C dL_law_206 hX hbl hbA b1.1 b1.2 ?_
  refine g_aload_nV C dL_law_207 rfl ?_
  refine g_iload C dL_law_208 rfl ?_
  refine g_iconst C dL_law_210 ?_
  refine g_iadd C dL_law_211 ?_
  refine g_E w2 ?_
  refine g_sld C dL_law_212 hX hbl hbA b2.1 b2.2 ?_
  refine g_aload_nV C dL_law_213 rfl ?_
  refine g_iload C dL_law_214 rfl ?_
  refine g_iconst C dL_law_216 ?_
  refine g_iadd C dL_law_217 ?_
  refine g_E w3 ?_
  refine g_sld C dL_law_218 hX hbl hbA b3.1 b3.2 ?_
  refine g_aload_nV C dL_law_219 rfl ?_
  refine g_iload C dL_law_220 rfl ?_
  refine g_iconst C dL_law_222 ?_
  refine g_iadd C dL_law_223 ?_
  refine g_E w4 ?_
  refine g_sld C dL_law_224 hX hbl hbA b4.1 b4.2 ?_
  refine g_aload_nV C dL_law_225 rfl ?_
  refine g_iload C dL_law_226 rfl ?_
  refine g_iconst C dL_law_228 ?_
  refine g_iadd C dL_law_229 ?_
  refine g_E w5 ?_
  refine g_sld C dL_law_230 hX hbl hbA b5.1 b5.2 ?_
  refine g_callV1 (As := [iv (sv xs (z + 1)), iv (sv xs (z + 2)), iv (sv xs (z + 3)), iv (sv xs (z + 4)), iv (sv xs (z + 5))]) C dL_law_231 mi_X11_feed ml_L_19 (ct_X11_feed (iI _) (iI _) (iI _) (iI _) (iI _) q1) rfl rfl ⟨rfl, rfl⟩ ⟨Nat.le_of_ble_eq_true rfl, Nat.le_of_ble_eq_true rfl⟩ hcs rfl (Nat.le_of_ble_eq_true rfl) (fun iy0 => ?_)
  refine g_aload_n C dL_law_234 rfl ?_
  refine g_aload_nV C dL_law_235 rfl ?_
  refine g_iload C dL_law_236 rfl ?_
  refine g_iconst C dL_law_238 ?_
  refine g_iadd C dL_law_239 ?_
  refine g_E w1 ?_
  refine g_sld C dL_law_240 hX hbl hbA b1.1 b1.2 ?_
  refine g_aload_nV C dL_law_241 rfl ?_
  refine g_iload C dL_law_242 rfl ?_
  refine g_iconst C dL_law_244 ?_
  refine g_iadd C dL_law_245 ?_
  refine g_E w2 ?_
  refine g_sld C dL_law_246 hX hbl hbA b2.1 b2.2 ?_
  refine g_aload_nV C dL_law_247 rfl ?_
  refine g_iload C dL_law_248 rfl ?_
  refine g_iconst C dL_law_250 ?_
  refine g_iadd C dL_law_251 ?_
  refine g_E w3 ?_
  refine g_sld C dL_law_252 hX hbl hbA b3.1 b3.2 ?_
  refine g_aload_nV C dL_law_253 rfl ?_
  refine g_iload C dL_law_254 rfl ?_
  refine g_iconst C dL_law_256 ?_
  refine g_iadd C dL_law_257 ?_
  refine g_E w4 ?_
  refine g_sld C dL_law_258 hX hbl hbA b4.1 b4.2 ?_
  refine g_aload_nV C dL_law_259 rfl ?_
  refine g_iload C dL_law_260 rfl ?_
  refine g_iconst C dL_law_262 ?_
  refine g_iadd C dL_law_263 ?_
  refine g_E w5 ?_
  refine g_sld C dL_law_264 hX hbl hbA b5.1 b5.2 ?_
  refine g_callV1 (As := [iv (sv xs (z + 1)), iv (sv xs (z + 2)), iv (sv xs (z + 3)), iv (sv xs (z + 4)), iv (sv xs (z + 5))]) C dL_law_265 mi_X12_feed ml_L_23 (ct_X12_feed (iI _) (iI _) (iI _) (iI _) (iI _) q2) rfl rfl ⟨rfl, rfl⟩ ⟨Nat.le_of_ble_eq_true rfl, Nat.le_of_ble_eq_true rfl⟩ hcs rfl (Nat.le_of_ble_eq_true rfl) (fun iy1 => ?_)
  refine g_icmp_eq C dL_law_268 iy0 iy0 rfl (tgt := 1613) (fun _ => ?_) (fun c9 => absurd rfl c9)
  exact g_widen (by omega) (by omega) (kk σ2 hI2)
set_option maxRecDepth 100000 in
set_option maxHeartbeats 4000000 in
theorem lc_back {z : Int} {j : Nat} {σ : St} (hPS : PS_back Inv) (C : Cx w p s m #[Value.ref b] c (fun q => s.heap.size ≤ q) code RL 7) (hX : va_X b N xs s s.heap) (hbl : b < s.heap.size) (hz : 0 ≤ z ∧ z + 7 ≤ (N : Int)) (hN : N ≤ 3584) (hj : j ≤ 513) (hI : Inv σ)
    (kk : ∀ σ2, Inv σ2 → GL w p l e s m b below meth c (235 + (j + 1)) (54422 + 64 * (j + 1)) 1613 [some (.ref b), some (rv w 0), some (rv w 170), some (rv w 234), some (iv z), none, none] [] σ2) : GL w p l e s m b below meth c (235 + j) (54422 + 64 * j) 273 [some (.ref b), some (rv w 0), some (rv w 170), some (rv w 234), some (iv z), none, none] [] σ := by
  have hbA : ¬ (fun q : Nat => s.heap.size ≤ q) b := Nat.not_le.mpr hbl
  have hcs : 235 + j ≤ room_1.cells ∧ 54422 + 64 * j ≤ room_1.slots := ⟨by show _ ≤ 601024; omega, by show _ ≤ 7293034; omega⟩
  have b1 : InI (z + 1) ∧ (0 ≤ z + 1 ∧ z + 1 < (N : Int)) := ⟨⟨by omega, by omega⟩, by omega, by omega⟩
  have w1 : wr (z + 1) = z + 1 := wr_id b1.1
  refine g_ok (fun ho => ?_)
  obtain ⟨y, σ1, σ2, q1, q2, hI2⟩ := hPS σ (sv xs (z + 1)) ho hI (iI _)
  refine g_aload_n C dL_law_273 rfl ?_
  refine g_aload_nV C dL_law_274 rfl ?_
  refine g_iload C dL_law_275 rfl ?_
  refine g_iconst C dL_law_277 ?_
  refine g_iadd C dL_law_278 ?_
  refine g_E w1 ?_
  refine g_sld C dL_law_279 hX hbl hbA b1.1 b1.2 ?_
  refine g_callV1 (As := [iv (sv xs (z + 1))]) C dL_law_280 mi_X11_back ml_L_24 (ct_X11_back (iI _) q1) rfl rfl ⟨rfl, rfl⟩ ⟨Nat.le_of_ble_eq_true rfl, Nat.le_of_ble_eq_true rfl⟩ hcs rfl (Nat.le_of_ble_eq_true rfl) (fun iy0 => ?_)
  refine g_aload_n C dL_law_283 rfl ?_
  refine g_aload_nV C dL_law_284 rfl ?_
  refine g_iload C dL_law_285 rfl ?_
  refine g_iconst C dL_law_287 ?_
  refine g_iadd C dL_law_288 ?_
  refine g_E w1 ?_
  refine g_sld C dL_law_289 hX hbl hbA b1.1 b1.2 ?_
  refine g_callV1 (As := [iv (sv xs (z + 1))]) C dL_law_290 mi_X12_back ml_L_27 (ct_X12_back (iI _) q2) rfl rfl ⟨rfl, rfl⟩ ⟨Nat.le_of_ble_eq_true rfl, Nat.le_of_ble_eq_true rfl⟩ hcs rfl (Nat.le_of_ble_eq_true rfl) (fun iy1 => ?_)
  refine g_icmp_eq C dL_law_293 iy0 iy0 rfl (tgt := 1613) (fun _ => ?_) (fun c9 => absurd rfl c9)
  exact g_widen (by omega) (by omega) (kk σ2 hI2)
set_option maxRecDepth 100000 in
set_option maxHeartbeats 4000000 in
theorem lc_read {z : Int} {j : Nat} {σ : St} (hPS : PS_read Inv) (C : Cx w p s m #[Value.ref b] c (fun q => s.heap.size ≤ q) code RL 7) (hX : va_X b N xs s s.heap) (hbl : b < s.heap.size) (hz : 0 ≤ z ∧ z + 7 ≤ (N : Int)) (hN : N ≤ 3584) (hj : j ≤ 513) (hI : Inv σ)
    (kk : ∀ σ2, Inv σ2 → GL w p l e s m b below meth c (235 + (j + 1)) (54422 + 64 * (j + 1)) 1613 [some (.ref b), some (rv w 0), some (rv w 170), some (rv w 234), some (iv z), none, none] [] σ2) : GL w p l e s m b below meth c (235 + j) (54422 + 64 * j) 298 [some (.ref b), some (rv w 0), some (rv w 170), some (rv w 234), some (iv z), none, none] [] σ := by
  have hbA : ¬ (fun q : Nat => s.heap.size ≤ q) b := Nat.not_le.mpr hbl
  have hcs : 235 + j ≤ room_1.cells ∧ 54422 + 64 * j ≤ room_1.slots := ⟨by show _ ≤ 601024; omega, by show _ ≤ 7293034; omega⟩
  refine g_ok (fun ho => ?_)
  obtain ⟨y, σ1, σ2, q1, q2, hI2⟩ := hPS σ ho hI
  refine g_aload_n C dL_law_298 rfl ?_
  refine g_callV1 (As := []) C dL_law_299 mi_X11_read ml_L_28 (ct_X11_read q1) rfl rfl ⟨rfl, rfl⟩ ⟨Nat.le_of_ble_eq_true rfl, Nat.le_of_ble_eq_true rfl⟩ hcs rfl (Nat.le_of_ble_eq_true rfl) (fun iy0 => ?_)
  refine g_aload_n C dL_law_302 rfl ?_
  refine g_callV1 (As := []) C dL_law_303 mi_X12_read ml_L_32 (ct_X12_read q2) rfl rfl ⟨rfl, rfl⟩ ⟨Nat.le_of_ble_eq_true rfl, Nat.le_of_ble_eq_true rfl⟩ hcs rfl (Nat.le_of_ble_eq_true rfl) (fun iy1 => ?_)
  refine g_icmp_eq C dL_law_306 iy0 iy0 rfl (tgt := 1613) (fun _ => ?_) (fun c9 => absurd rfl c9)
  exact g_widen (by omega) (by omega) (kk σ2 hI2)
set_option maxRecDepth 100000 in
set_option maxHeartbeats 4000000 in
theorem lc_place {z : Int} {j : Nat} {σ : St} (hPS : PS_place Inv) (C : Cx w p s m #[Value.ref b] c (fun q => s.heap.size ≤ q) code RL 7) (hX : va_X b N xs s s.heap) (hbl : b < s.heap.size) (hz : 0 ≤ z ∧ z + 7 ≤ (N : Int)) (hN : N ≤ 3584) (hj : j ≤ 513) (hI : Inv σ)
    (kk : ∀ σ2, Inv σ2 → GL w p l e s m b below meth c (235 + (j + 1)) (54422 + 64 * (j + 1)) 1613 [some (.ref b), some (rv w 0), some (rv w 170), some (rv w 234), some (iv z), none, none] [] σ2) : GL w p l e s m b below meth c (235 + j) (54422 + 64 * j) 311 [some (.ref b), some (rv w 0), some (rv w 170), some (rv w 234), some (iv z), none, none] [] σ := by
  have hbA : ¬ (fun q : Nat => s.heap.size ≤ q) b := Nat.not_le.mpr hbl
  have hcs : 235 + j ≤ room_1.cells ∧ 54422 + 64 * j ≤ room_1.slots := ⟨by show _ ≤ 601024; omega, by show _ ≤ 7293034; omega⟩
  refine g_ok (fun ho => ?_)
  obtain ⟨y, σ2, q1, q2, hI2⟩ := hPS σ ho hI
  refine g_aload_n C dL_law_311 rfl ?_
  refine g_callV1 (As := []) C dL_law_312 mi_X11_place ml_L_33 (ct_X11_place q1) rfl rfl ⟨rfl, rfl⟩ ⟨Nat.le_of_ble_eq_true rfl, Nat.le_of_ble_eq_true rfl⟩ hcs rfl (Nat.le_of_ble_eq_true rfl) (fun iy0 => ?_)
  refine g_aload_n C dL_law_315 rfl ?_
  refine g_callV1 (As := []) C dL_law_316 mi_X12_place ml_L_36 (ct_X12_place q2) rfl rfl ⟨rfl, rfl⟩ ⟨Nat.le_of_ble_eq_true rfl, Nat.le_of_ble_eq_true rfl⟩ hcs rfl (Nat.le_of_ble_eq_true rfl) (fun iy1 => ?_)
  refine g_icmp_eq C dL_law_319 iy0 iy0 rfl (tgt := 1613) (fun _ => ?_) (fun c9 => absurd rfl c9)
  exact g_widen (by omega) (by omega) (kk σ2 hI2)
set_option maxRecDepth 100000 in
set_option maxHeartbeats 4000000 in
theorem lc_spot {z : Int} {j : Nat} {σ : St} (hPS : PS_spot Inv) (C : Cx w p s m #[Value.ref b] c (fun q => s.heap.size ≤ q) code RL 7) (hX : va_X b N xs s s.heap) (hbl : b < s.heap.size) (hz : 0 ≤ z ∧ z + 7 ≤ (N : Int)) (hN : N ≤ 3584) (hj : j ≤ 513) (hI : Inv σ)
    (kk : ∀ σ2, Inv σ2 → GL w p l e s m b below meth c (235 + (j + 1)) (54422 + 64 * (j + 1)) 1613 [some (.ref b), some (rv w 0), some (rv w 170), some (rv w 234), some (iv z), none, none] [] σ2) : GL w p l e s m b below meth c (235 + j) (54422 + 64 * j) 324 [some (.ref b), some (rv w 0), some (rv w 170), some (rv w 234), some (iv z), none, none] [] σ := by
  have hbA : ¬ (fun q : Nat => s.heap.size ≤ q) b := Nat.not_le.mpr hbl
  have hcs : 235 + j ≤ room_1.cells ∧ 54422 + 64 * j ≤ room_1.slots := ⟨by show _ ≤ 601024; omega, by show _ ≤ 7293034; omega⟩
  refine g_ok (fun ho => ?_)
  obtain ⟨y, σ1, σ2, q1, q2, hI2⟩ := hPS σ ho hI
  refine g_aload_n C dL_law_324 rfl ?_
  refine g_callV1 (As := []) C dL_law_325 mi_X11_spot ml_L_37 (ct_X11_spot q1) rfl rfl ⟨rfl, rfl⟩ ⟨Nat.le_of_ble_eq_true rfl, Nat.le_of_ble_eq_true rfl⟩ hcs rfl (Nat.le_of_ble_eq_true rfl) (fun iy0 => ?_)
  refine g_aload_n C dL_law_328 rfl ?_
  refine g_callV1 (As := []) C dL_law_329 mi_X12_spot ml_L_40 (ct_X12_spot q2) rfl rfl ⟨rfl, rfl⟩ ⟨Nat.le_of_ble_eq_true rfl, Nat.le_of_ble_eq_true rfl⟩ hcs rfl (Nat.le_of_ble_eq_true rfl) (fun iy1 => ?_)
  refine g_icmp_eq C dL_law_332 iy0 iy0 rfl (tgt := 1613) (fun _ => ?_) (fun c9 => absurd rfl c9)
  exact g_widen (by omega) (by omega) (kk σ2 hI2)
set_option maxRecDepth 100000 in
set_option maxHeartbeats 4000000 in
theorem lc_way {z : Int} {j : Nat} {σ : St} (hPS : PS_way Inv) (C : Cx w p s m #[Value.ref b] c (fun q => s.heap.size ≤ q) code RL 7) (hX : va_X b N xs s s.heap) (hbl : b < s.heap.size) (hz : 0 ≤ z ∧ z + 7 ≤ (N : Int)) (hN : N ≤ 3584) (hj : j ≤ 513) (hI : Inv σ)
    (kk : ∀ σ2, Inv σ2 → GL w p l e s m b below meth c (235 + (j + 1)) (54422 + 64 * (j + 1)) 1613 [some (.ref b), some (rv w 0), some (rv w 170), some (rv w 234), some (iv z), none, none] [] σ2) : GL w p l e s m b below meth c (235 + j) (54422 + 64 * j) 337 [some (.ref b), some (rv w 0), some (rv w 170), some (rv w 234), some (iv z), none, none] [] σ := by
  have hbA : ¬ (fun q : Nat => s.heap.size ≤ q) b := Nat.not_le.mpr hbl
  have hcs : 235 + j ≤ room_1.cells ∧ 54422 + 64 * j ≤ room_1.slots := ⟨by show _ ≤ 601024; omega, by show _ ≤ 7293034; omega⟩
  have b1 : InI (z + 1) ∧ (0 ≤ z + 1 ∧ z + 1 < (N : Int)) := ⟨⟨by omega, by omega⟩, by omega, by omega⟩
  have w1 : wr (z + 1) = z + 1 := wr_id b1.1
  have b2 : InI (z + 2) ∧ (0 ≤ z + 2 ∧ z + 2 < (N : Int)) := ⟨⟨by omega, by omega⟩, by omega, by omega⟩
  have w2 : wr (z + 2) = z + 2 := wr_id b2.1
  have b3 : InI (z + 3) ∧ (0 ≤ z + 3 ∧ z + 3 < (N : Int)) := ⟨⟨by omega, by omega⟩, by omega, by omega⟩
  have w3 : wr (z + 3) = z + 3 := wr_id b3.1
  refine g_ok (fun ho => ?_)
  obtain ⟨y, σ1, σ2, q1, q2, hI2⟩ := hPS σ (sv xs (z + 1)) (sv xs (z + 2)) (sv xs (z + 3)) ho hI (iI _) (iI _) (iI _)
  refine g_aload_n C dL_law_337 rfl ?_
  refine g_aload_nV C dL_law_338 rfl ?_
  refine g_iload C dL_law_339 rfl ?_
  refine g_iconst C dL_law_341 ?_
  refine g_iadd C dL_law_342 ?_
  refine g_E w1 ?_
  refine g_sld C dL_law_343 hX hbl hbA b1.1 b1.2 ?_
  refine g_aload_nV C dL_law_344 rfl ?_
  refine g_iload C dL_law_345 rfl ?_
  refine g_iconst C dL_law_347 ?_
  refine g_iadd C dL_law_348 ?_
  refine g_E w2 ?_
  refine g_sld C dL_law_349 hX hbl hbA b2.1 b2.2 ?_
  refine g_aload_nV C dL_law_350 rfl ?_
  refine g_iload C dL_law_351 rfl ?_
  refine g_iconst C dL_law_353 ?_
  refine g_iadd C dL_law_354 ?_
  refine g_E w3 ?_
  refine g_sld C dL_law_355 hX hbl hbA b3.1 b3.2 ?_
  refine g_callV1 (As := [iv (sv xs (z + 1)), iv (sv xs (z + 2)), iv (sv xs (z + 3))]) C dL_law_356 mi_X11_way ml_L_41 (ct_X11_way (iI _) (iI _) (iI _) q1) rfl rfl ⟨rfl, rfl⟩ ⟨Nat.le_of_ble_eq_true rfl, Nat.le_of_ble_eq_true rfl⟩ hcs rfl (Nat.le_of_ble_eq_true rfl) (fun iy0 => ?_)
  refine g_aload_n C dL_law_359 rfl ?_
  refine g_aload_nV C dL_law_360 rfl ?_
  refine g_iload C dL_law_361 rfl ?_
  refine g_iconst C dL_law_363 ?_
  refine g_iadd C dL_law_364 ?_
  refine g_E w1 ?_
  refine g_sld C dL_law_365 hX hbl hbA b1.1 b1.2 ?_
  refine g_aload_nV C dL_law_366 rfl ?_
  refine g_iload C dL_law_367 rfl ?_
  refine g_iconst C dL_law_369 ?_
  refine g_iadd C dL_law_370 ?_
  refine g_E w2 ?_
  refine g_sld C dL_law_371 hX hbl hbA b2.1 b2.2 ?_
  refine g_aload_nV C dL_law_372 rfl ?_
  refine g_iload C dL_law_373 rfl ?_
  refine g_iconst C dL_law_375 ?_
  refine g_iadd C dL_law_376 ?_
  refine g_E w3 ?_
  refine g_sld C dL_law_377 hX hbl hbA b3.1 b3.2 ?_
  refine g_callV1 (As := [iv (sv xs (z + 1)), iv (sv xs (z + 2)), iv (sv xs (z + 3))]) C dL_law_378 mi_X12_way ml_L_45 (ct_X12_way (iI _) (iI _) (iI _) q2) rfl rfl ⟨rfl, rfl⟩ ⟨Nat.le_of_ble_eq_true rfl, Nat.le_of_ble_eq_true rfl⟩ hcs rfl (Nat.le_of_ble_eq_true rfl) (fun iy1 => ?_)
  refine g_icmp_eq C dL_law_381 iy0 iy0 rfl (tgt := 1613) (fun _ => ?_) (fun c9 => absurd rfl c9)
  exact g_widen (by omega) (by omega) (kk σ2 hI2)
set_option maxRecDepth 100000 in
set_option maxHeartbeats 4000000 in
theorem lc_agent {z : Int} {j : Nat} {σ : St} (hPS : PS_agent Inv) (C : Cx w p s m #[Value.ref b] c (fun q => s.heap.size ≤ q) code RL 7) (hX : va_X b N xs s s.heap) (hbl : b < s.heap.size) (hz : 0 ≤ z ∧ z + 7 ≤ (N : Int)) (hN : N ≤ 3584) (hj : j ≤ 513) (hI : Inv σ)
    (kk : ∀ σ2, Inv σ2 → GL w p l e s m b below meth c (235 + (j + 1)) (54422 + 64 * (j + 1)) 1613 [some (.ref b), some (rv w 0), some (rv w 170), some (rv w 234), some (iv z), none, none] [] σ2) : GL w p l e s m b below meth c (235 + j) (54422 + 64 * j) 386 [some (.ref b), some (rv w 0), some (rv w 170), some (rv w 234), some (iv z), none, none] [] σ := by
  have hbA : ¬ (fun q : Nat => s.heap.size ≤ q) b := Nat.not_le.mpr hbl
  have hcs : 235 + j ≤ room_1.cells ∧ 54422 + 64 * j ≤ room_1.slots := ⟨by show _ ≤ 601024; omega, by show _ ≤ 7293034; omega⟩
  have b1 : InI (z + 1) ∧ (0 ≤ z + 1 ∧ z + 1 < (N : Int)) := ⟨⟨by omega, by omega⟩, by omega, by omega⟩
  have w1 : wr (z + 1) = z + 1 := wr_id b1.1
  have b2 : InI (z + 2) ∧ (0 ≤ z + 2 ∧ z + 2 < (N : Int)) := ⟨⟨by omega, by omega⟩, by omega, by omega⟩
  have w2 : wr (z + 2) = z + 2 := wr_id b2.1
  refine g_ok (fun ho => ?_)
  obtain ⟨y, σ1, σ2, q1, q2, hI2⟩ := hPS σ (sv xs (z + 1)) (sv xs (z + 2)) ho hI (iI _) (iI _)
  refine g_aload_n C dL_law_386 rfl ?_
  refine g_aload_nV C dL_law_387 rfl ?_
  refine g_iload C dL_law_388 rfl ?_
  refine g_iconst C dL_law_390 ?_
  refine g_iadd C dL_law_391 ?_
  refine g_E w1 ?_
  refine g_sld C dL_law_392 hX hbl hbA b1.1 b1.2 ?_
  refine g_aload_nV C dL_law_393 rfl ?_
  refine g_iload C dL_law_394 rfl ?_
  refine g_iconst C dL_law_396 ?_
  refine g_iadd C dL_law_397 ?_
  refine g_E w2 ?_
  refine g_sld C dL_law_398 hX hbl hbA b2.1 b2.2 ?_
  refine g_callV1 (As := [iv (sv xs (z + 1)), iv (sv xs (z + 2))]) C dL_law_399 mi_X11_agent ml_L_46 (ct_X11_agent (iI _) (iI _) q1) rfl rfl ⟨rfl, rfl⟩ ⟨Nat.le_of_ble_eq_true rfl, Nat.le_of_ble_eq_true rfl⟩ hcs rfl (Nat.le_of_ble_eq_true rfl) (fun iy0 => ?_)
  refine g_aload_n C dL_law_402 rfl ?_
  refine g_aload_nV C dL_law_403 rfl ?_
  refine g_iload C dL_law_404 rfl ?_
  refine g_iconst C dL_law_406 ?_
  refine g_iadd C dL_law_407 ?_
  refine g_E w1 ?_
  refine g_sld C dL_law_408 hX hbl hbA b1.1 b1.2 ?_
  refine g_aload_nV C dL_law_409 rfl ?_
  refine g_iload C dL_law_410 rfl ?_
  refine g_iconst C dL_law_412 ?_
  refine g_iadd C dL_law_413 ?_
  refine g_E w2 ?_
  refine g_sld C dL_law_414 hX hbl hbA b2.1 b2.2 ?_
  refine g_callV1 (As := [iv (sv xs (z + 1)), iv (sv xs (z + 2))]) C dL_law_415 mi_X12_agent ml_L_50 (ct_X12_agent (iI _) (iI _) q2) rfl rfl ⟨rfl, rfl⟩ ⟨Nat.le_of_ble_eq_true rfl, Nat.le_of_ble_eq_true rfl⟩ hcs rfl (Nat.le_of_ble_eq_true rfl) (fun iy1 => ?_)
  refine g_icmp_eq C dL_law_418 iy0 iy0 rfl (tgt := 1613) (fun _ => ?_) (fun c9 => absurd rfl c9)
  exact g_widen (by omega) (by omega) (kk σ2 hI2)
set_option maxRecDepth 100000 in
set_option maxHeartbeats 4000000 in
theorem lc_give {z : Int} {j : Nat} {σ : St} (hPS : PS_give Inv) (C : Cx w p s m #[Value.ref b] c (fun q => s.heap.size ≤ q) code RL 7) (hX : va_X b N xs s s.heap) (hbl : b < s.heap.size) (hz : 0 ≤ z ∧ z + 7 ≤ (N : Int)) (hN : N ≤ 3584) (hj : j ≤ 513) (hI : Inv σ)
    (kk : ∀ σ2, Inv σ2 → GL w p l e s m b below meth c (235 + (j + 1)) (54422 + 64 * (j + 1)) 1613 [some (.ref b), some (rv w 0), some (rv w 170), some (rv w 234), some (iv z), none, none] [] σ2) : GL w p l e s m b below meth c (235 + j) (54422 + 64 * j) 423 [some (.ref b), some (rv w 0), some (rv w 170), some (rv w 234), some (iv z), none, none] [] σ := by
  have hbA : ¬ (fun q : Nat => s.heap.size ≤ q) b := Nat.not_le.mpr hbl
  have hcs : 235 + j ≤ room_1.cells ∧ 54422 + 64 * j ≤ room_1.slots := ⟨by show _ ≤ 601024; omega, by show _ ≤ 7293034; omega⟩
  have b1 : InI (z + 1) ∧ (0 ≤ z + 1 ∧ z + 1 < (N : Int)) := ⟨⟨by omega, by omega⟩, by omega, by omega⟩
  have w1 : wr (z + 1) = z + 1 := wr_id b1.1
  have b2 : InI (z + 2) ∧ (0 ≤ z + 2 ∧ z + 2 < (N : Int)) := ⟨⟨by omega, by omega⟩, by omega, by omega⟩
  have w2 : wr (z + 2) = z + 2 := wr_id b2.1
  refine g_ok (fun ho => ?_)
  obtain ⟨y, σ1, σ2, q1, q2, hI2⟩ := hPS σ (sv xs (z + 1)) (sv xs (z + 2)) ho hI (iI _) (iI _)
  refine g_aload_n C dL_law_423 rfl ?_
  refine g_aload_nV C dL_law_424 rfl ?_
  refine g_iload C dL_law_425 rfl ?_
  refine g_iconst C dL_law_427 ?_
  refine g_iadd C dL_law_428 ?_
  refine g_E w1 ?_
  refine g_sld C dL_law_429 hX hbl hbA b1.1 b1.2 ?_
  refine g_aload_nV C dL_law_430 rfl ?_
  refine g_iload C dL_law_431 rfl ?_
  refine g_iconst C dL_law_433 ?_
  refine g_iadd C dL_law_434 ?_
  refine g_E w2 ?_
  refine g_sld C dL_law_435 hX hbl hbA b2.1 b2.2 ?_
  refine g_callV1 (As := [iv (sv xs (z + 1)), iv (sv xs (z + 2))]) C dL_law_436 mi_X11_give ml_L_51 (ct_X11_give (iI _) (iI _) q1) rfl rfl ⟨rfl, rfl⟩ ⟨Nat.le_of_ble_eq_true rfl, Nat.le_of_ble_eq_true rfl⟩ hcs rfl (Nat.le_of_ble_eq_true rfl) (fun iy0 => ?_)
  refine g_aload_n C dL_law_439 rfl ?_
  refine g_aload_nV C dL_law_440 rfl ?_
  refine g_iload C dL_law_441 rfl ?_
  refine g_iconst C dL_law_443 ?_
  refine g_iadd C dL_law_444 ?_
  refine g_E w1 ?_
  refine g_sld C dL_law_445 hX hbl hbA b1.1 b1.2 ?_
  refine g_aload_nV C dL_law_446 rfl ?_
  refine g_iload C dL_law_447 rfl ?_
  refine g_iconst C dL_law_449 ?_
  refine g_iadd C dL_law_450 ?_
  refine g_E w2 ?_
  refine g_sld C dL_law_451 hX hbl hbA b2.1 b2.2 ?_
  refine g_callV1 (As := [iv (sv xs (z + 1)), iv (sv xs (z + 2))]) C dL_law_452 mi_X12_give ml_L_55 (ct_X12_give (iI _) (iI _) q2) rfl rfl ⟨rfl, rfl⟩ ⟨Nat.le_of_ble_eq_true rfl, Nat.le_of_ble_eq_true rfl⟩ hcs rfl (Nat.le_of_ble_eq_true rfl) (fun iy1 => ?_)
  refine g_icmp_eq C dL_law_455 (zI iy0) (zI iy0) rfl (tgt := 1613) (fun _ => ?_) (fun c9 => absurd rfl c9)
  exact g_widen (by omega) (by omega) (kk σ2 hI2)
set_option maxRecDepth 100000 in
set_option maxHeartbeats 4000000 in
theorem lc_post {z : Int} {j : Nat} {σ : St} (hPS : PS_post Inv) (C : Cx w p s m #[Value.ref b] c (fun q => s.heap.size ≤ q) code RL 7) (hX : va_X b N xs s s.heap) (hbl : b < s.heap.size) (hz : 0 ≤ z ∧ z + 7 ≤ (N : Int)) (hN : N ≤ 3584) (hj : j ≤ 513) (hI : Inv σ)
    (kk : ∀ σ2, Inv σ2 → GL w p l e s m b below meth c (235 + (j + 1)) (54422 + 64 * (j + 1)) 1613 [some (.ref b), some (rv w 0), some (rv w 170), some (rv w 234), some (iv z), none, none] [] σ2) : GL w p l e s m b below meth c (235 + j) (54422 + 64 * j) 460 [some (.ref b), some (rv w 0), some (rv w 170), some (rv w 234), some (iv z), none, none] [] σ := by
  have hbA : ¬ (fun q : Nat => s.heap.size ≤ q) b := Nat.not_le.mpr hbl
  have hcs : 235 + j ≤ room_1.cells ∧ 54422 + 64 * j ≤ room_1.slots := ⟨by show _ ≤ 601024; omega, by show _ ≤ 7293034; omega⟩
  have b1 : InI (z + 1) ∧ (0 ≤ z + 1 ∧ z + 1 < (N : Int)) := ⟨⟨by omega, by omega⟩, by omega, by omega⟩
  have w1 : wr (z + 1) = z + 1 := wr_id b1.1
  have b2 : InI (z + 2) ∧ (0 ≤ z + 2 ∧ z + 2 < (N : Int)) := ⟨⟨by omega, by omega⟩, by omega, by omega⟩
  have w2 : wr (z + 2) = z + 2 := wr_id b2.1
  have b3 : InI (z + 3) ∧ (0 ≤ z + 3 ∧ z + 3 < (N : Int)) := ⟨⟨by omega, by omega⟩, by omega, by omega⟩
  have w3 : wr (z + 3) = z + 3 := wr_id b3.1
  have b4 : InI (z + 4) ∧ (0 ≤ z + 4 ∧ z + 4 < (N : Int)) := ⟨⟨by omega, by omega⟩, by omega, by omega⟩
  have w4 : wr (z + 4) = z + 4 := wr_id b4.1
  refine g_ok (fun ho => ?_)
  obtain ⟨y, σ1, σ2, q1, q2, hI2⟩ := hPS σ (sv xs (z + 1)) (sv xs (z + 2)) (sv xs (z + 3)) (sv xs (z + 4)) ho hI (iI _) (iI _) (iI _) (iI _)
  refine g_aload_n C dL_law_460 rfl ?_
  refine g_aload_nV C dL_law_461 rfl ?_
  refine g_iload C dL_law_462 rfl ?_
  refine g_iconst C dL_law_464 ?_
  refine g_iadd C dL_law_465 ?_
  refine g_E w1 ?_
  refine g_sld C dL_law_466 hX hbl hbA b1.1 b1.2 ?_
  refine g_aload_nV C dL_law_467 rfl ?_
  refine g_iload C dL_law_468 rfl ?_
  refine g_iconst C dL_law_470 ?_
  refine g_iadd C dL_law_471 ?_
  refine g_E w2 ?_
  refine g_sld C dL_law_472 hX hbl hbA b2.1 b2.2 ?_
  refine g_aload_nV C dL_law_473 rfl ?_
  refine g_iload C dL_law_474 rfl ?_
  refine g_iconst C dL_law_476 ?_
  refine g_iadd C dL_law_477 ?_
  refine g_E w3 ?_
  refine g_sld C dL_law_478 hX hbl hbA b3.1 b3.2 ?_
  refine g_aload_nV C dL_law_479 rfl ?_
  refine g_iload C dL_law_480 rfl ?_
  refine g_iconst C dL_law_482 ?_
  refine g_iadd C dL_law_483 ?_
  refine g_E w4 ?_
  refine g_sld C dL_law_484 hX hbl hbA b4.1 b4.2 ?_
  refine g_callV1 (As := [iv (sv xs (z + 1)), iv (sv xs (z + 2)), iv (sv xs (z + 3)), iv (sv xs (z + 4))]) C dL_law_485 mi_X11_post ml_L_56 (ct_X11_post (iI _) (iI _) (iI _) (iI _) q1) rfl rfl ⟨rfl, rfl⟩ ⟨Nat.le_of_ble_eq_true rfl, Nat.le_of_ble_eq_true rfl⟩ hcs rfl (Nat.le_of_ble_eq_true rfl) (fun iy0 => ?_)
  refine g_aload_n C dL_law_488 rfl ?_
  refine g_aload_nV C dL_law_489 rfl ?_
  refine g_iload C dL_law_490 rfl ?_
  refine g_iconst C dL_law_492 ?_
  refine g_iadd C dL_law_493 ?_
  refine g_E w1 ?_
  refine g_sld C dL_law_494 hX hbl hbA b1.1 b1.2 ?_
  refine g_aload_nV C dL_law_495 rfl ?_
  refine g_iload C dL_law_496 rfl ?_
  refine g_iconst C dL_law_498 ?_
  refine g_iadd C dL_law_499 ?_
  refine g_E w2 ?_
  refine g_sld C dL_law_500 hX hbl hbA b2.1 b2.2 ?_
  refine g_aload_nV C dL_law_501 rfl ?_
  refine g_iload C dL_law_502 rfl ?_
  refine g_iconst C dL_law_504 ?_
  refine g_iadd C dL_law_505 ?_
  refine g_E w3 ?_
  refine g_sld C dL_law_506 hX hbl hbA b3.1 b3.2 ?_
  refine g_aload_nV C dL_law_507 rfl ?_
  refine g_iload C dL_law_508 rfl ?_
  refine g_iconst C dL_law_510 ?_
  refine g_iadd C dL_law_511 ?_
  refine g_E w4 ?_
  refine g_sld C dL_law_512 hX hbl hbA b4.1 b4.2 ?_
  refine g_callV1 (As := [iv (sv xs (z + 1)), iv (sv xs (z + 2)), iv (sv xs (z + 3)), iv (sv xs (z + 4))]) C dL_law_513 mi_X12_post ml_L_60 (ct_X12_post (iI _) (iI _) (iI _) (iI _) q2) rfl rfl ⟨rfl, rfl⟩ ⟨Nat.le_of_ble_eq_true rfl, Nat.le_of_ble_eq_true rfl⟩ hcs rfl (Nat.le_of_ble_eq_true rfl) (fun iy1 => ?_)
  refine g_icmp_eq C dL_law_516 iy0 iy0 rfl (tgt := 1613) (fun _ => ?_) (fun c9 => absurd rfl c9)
  exact g_widen (by omega) (by omega) (kk σ2 hI2)
set_option maxRecDepth 100000 in
set_option maxHeartbeats 4000000 in
theorem lc_sight {z : Int} {j : Nat} {σ : St} (hPS : PS_sight Inv) (C : Cx w p s m #[Value.ref b] c (fun q => s.heap.size ≤ q) code RL 7) (hX : va_X b N xs s s.heap) (hbl : b < s.heap.size) (hz : 0 ≤ z ∧ z + 7 ≤ (N : Int)) (hN : N ≤ 3584) (hj : j ≤ 513) (hI : Inv σ)
    (kk : ∀ σ2, Inv σ2 → GL w p l e s m b below meth c (235 + (j + 1)) (54422 + 64 * (j + 1)) 1613 [some (.ref b), some (rv w 0), some (rv w 170), some (rv w 234), some (iv z), none, none] [] σ2) : GL w p l e s m b below meth c (235 + j) (54422 + 64 * j) 521 [some (.ref b), some (rv w 0), some (rv w 170), some (rv w 234), some (iv z), none, none] [] σ := by
  have hbA : ¬ (fun q : Nat => s.heap.size ≤ q) b := Nat.not_le.mpr hbl
  have hcs : 235 + j ≤ room_1.cells ∧ 54422 + 64 * j ≤ room_1.slots := ⟨by show _ ≤ 601024; omega, by show _ ≤ 7293034; omega⟩
  have b1 : InI (z + 1) ∧ (0 ≤ z + 1 ∧ z + 1 < (N : Int)) := ⟨⟨by omega, by omega⟩, by omega, by omega⟩
  have w1 : wr (z + 1) = z + 1 := wr_id b1.1
  have b2 : InI (z + 2) ∧ (0 ≤ z + 2 ∧ z + 2 < (N : Int)) := ⟨⟨by omega, by omega⟩, by omega, by omega⟩
  have w2 : wr (z + 2) = z + 2 := wr_id b2.1
  have b3 : InI (z + 3) ∧ (0 ≤ z + 3 ∧ z + 3 < (N : Int)) := ⟨⟨by omega, by omega⟩, by omega, by omega⟩
  have w3 : wr (z + 3) = z + 3 := wr_id b3.1
  refine g_ok (fun ho => ?_)
  obtain ⟨y, σ1, σ2, q1, q2, hI2⟩ := hPS σ (sv xs (z + 1)) (sv xs (z + 2)) (sv xs (z + 3)) ho hI (iI _) (iI _) (iI _)
  refine g_aload_n C dL_law_521 rfl ?_
  refine g_aload_nV C dL_law_522 rfl ?_
  refine g_iload C dL_law_523 rfl ?_
  refine g_iconst C dL_law_525 ?_
  refine g_iadd C dL_law_526 ?_
  refine g_E w1 ?_
  refine g_sld C dL_law_527 hX hbl hbA b1.1 b1.2 ?_
  refine g_aload_nV C dL_law_528 rfl ?_
  refine g_iload C dL_law_529 rfl ?_
  refine g_iconst C dL_law_531 ?_
  refine g_iadd C dL_law_532 ?_
  refine g_E w2 ?_
  refine g_sld C dL_law_533 hX hbl hbA b2.1 b2.2 ?_
  refine g_aload_nV C dL_law_534 rfl ?_
  refine g_iload C dL_law_535 rfl ?_
  refine g_iconst C dL_law_537 ?_
  refine g_iadd C dL_law_538 ?_
  refine g_E w3 ?_
  refine g_sld C dL_law_539 hX hbl hbA b3.1 b3.2 ?_
  refine g_callV1 (As := [iv (sv xs (z + 1)), iv (sv xs (z + 2)), iv (sv xs (z + 3))]) C dL_law_540 mi_X11_sight ml_L_61 (ct_X11_sight (iI _) (iI _) (iI _) q1) rfl rfl ⟨rfl, rfl⟩ ⟨Nat.le_of_ble_eq_true rfl, Nat.le_of_ble_eq_true rfl⟩ hcs rfl (Nat.le_of_ble_eq_true rfl) (fun iy0 => ?_)
  refine g_aload_n C dL_law_543 rfl ?_
  refine g_aload_nV C dL_law_544 rfl ?_
  refine g_iload C dL_law_545 rfl ?_
  refine g_iconst C dL_law_547 ?_
  refine g_iadd C dL_law_548 ?_
  refine g_E w1 ?_
  refine g_sld C dL_law_549 hX hbl hbA b1.1 b1.2 ?_
  refine g_aload_nV C dL_law_550 rfl ?_
  refine g_iload C dL_law_551 rfl ?_
  refine g_iconst C dL_law_553 ?_
  refine g_iadd C dL_law_554 ?_
  refine g_E w2 ?_
  refine g_sld C dL_law_555 hX hbl hbA b2.1 b2.2 ?_
  refine g_aload_nV C dL_law_556 rfl ?_
  refine g_iload C dL_law_557 rfl ?_
  refine g_iconst C dL_law_559 ?_
  refine g_iadd C dL_law_560 ?_
  refine g_E w3 ?_
  refine g_sld C dL_law_561 hX hbl hbA b3.1 b3.2 ?_
  refine g_callV1 (As := [iv (sv xs (z + 1)), iv (sv xs (z + 2)), iv (sv xs (z + 3))]) C dL_law_562 mi_X12_sight ml_L_64 (ct_X12_sight (iI _) (iI _) (iI _) q2) rfl rfl ⟨rfl, rfl⟩ ⟨Nat.le_of_ble_eq_true rfl, Nat.le_of_ble_eq_true rfl⟩ hcs rfl (Nat.le_of_ble_eq_true rfl) (fun iy1 => ?_)
  refine g_icmp_eq C dL_law_565 iy0 iy0 rfl (tgt := 1613) (fun _ => ?_) (fun c9 => absurd rfl c9)
  exact g_widen (by omega) (by omega) (kk σ2 hI2)
set_option maxRecDepth 100000 in
set_option maxHeartbeats 4000000 in
theorem lc_turned {z : Int} {j : Nat} {σ : St} (hPS : PS_turned Inv) (C : Cx w p s m #[Value.ref b] c (fun q => s.heap.size ≤ q) code RL 7) (hX : va_X b N xs s s.heap) (hbl : b < s.heap.size) (hz : 0 ≤ z ∧ z + 7 ≤ (N : Int)) (hN : N ≤ 3584) (hj : j ≤ 513) (hI : Inv σ)
    (kk : ∀ σ2, Inv σ2 → GL w p l e s m b below meth c (235 + (j + 1)) (54422 + 64 * (j + 1)) 1613 [some (.ref b), some (rv w 0), some (rv w 170), some (rv w 234), some (iv z), none, none] [] σ2) : GL w p l e s m b below meth c (235 + j) (54422 + 64 * j) 570 [some (.ref b), some (rv w 0), some (rv w 170), some (rv w 234), some (iv z), none, none] [] σ := by
  have hbA : ¬ (fun q : Nat => s.heap.size ≤ q) b := Nat.not_le.mpr hbl
  have hcs : 235 + j ≤ room_1.cells ∧ 54422 + 64 * j ≤ room_1.slots := ⟨by show _ ≤ 601024; omega, by show _ ≤ 7293034; omega⟩
  have b1 : InI (z + 1) ∧ (0 ≤ z + 1 ∧ z + 1 < (N : Int)) := ⟨⟨by omega, by omega⟩, by omega, by omega⟩
  have w1 : wr (z + 1) = z + 1 := wr_id b1.1
  have b2 : InI (z + 2) ∧ (0 ≤ z + 2 ∧ z + 2 < (N : Int)) := ⟨⟨by omega, by omega⟩, by omega, by omega⟩
  have w2 : wr (z + 2) = z + 2 := wr_id b2.1
  refine g_ok (fun ho => ?_)
  obtain ⟨y, σ1, σ2, q1, q2, hI2⟩ := hPS σ (sv xs (z + 1)) (sv xs (z + 2)) ho hI (iI _) (iI _)
  refine g_aload_n C dL_law_570 rfl ?_
  refine g_aload_nV C dL_law_571 rfl ?_
  refine g_iload C dL_law_572 rfl ?_
  refine g_iconst C dL_law_574 ?_
  refine g_iadd C dL_law_575 ?_
  refine g_E w1 ?_
  refine g_sld C dL_law_576 hX hbl hbA b1.1 b1.2 ?_
  refine g_aload_nV C dL_law_577 rfl ?_
  refine g_iload C dL_law_578 rfl ?_
  refine g_iconst C dL_law_580 ?_
  refine g_iadd C dL_law_581 ?_
  refine g_E w2 ?_
  refine g_sld C dL_law_582 hX hbl hbA b2.1 b2.2 ?_
  refine g_callV1 (As := [iv (sv xs (z + 1)), iv (sv xs (z + 2))]) C dL_law_583 mi_X11_turned ml_L_65 (ct_X11_turned (iI _) (iI _) q1) rfl rfl ⟨rfl, rfl⟩ ⟨Nat.le_of_ble_eq_true rfl, Nat.le_of_ble_eq_true rfl⟩ hcs rfl (Nat.le_of_ble_eq_true rfl) (fun iy0 => ?_)
  refine g_aload_n C dL_law_586 rfl ?_
  refine g_aload_nV C dL_law_587 rfl ?_
  refine g_iload C dL_law_588 rfl ?_
  refine g_iconst C dL_law_590 ?_
  refine g_iadd C dL_law_591 ?_
  refine g_E w1 ?_
  refine g_sld C dL_law_592 hX hbl hbA b1.1 b1.2 ?_
  refine g_aload_nV C dL_law_593 rfl ?_
  refine g_iload C dL_law_594 rfl ?_
  refine g_iconst C dL_law_596 ?_
  refine g_iadd C dL_law_597 ?_
  refine g_E w2 ?_
  refine g_sld C dL_law_598 hX hbl hbA b2.1 b2.2 ?_
  refine g_callV1 (As := [iv (sv xs (z + 1)), iv (sv xs (z + 2))]) C dL_law_599 mi_X12_turned ml_L_68 (ct_X12_turned (iI _) (iI _) q2) rfl rfl ⟨rfl, rfl⟩ ⟨Nat.le_of_ble_eq_true rfl, Nat.le_of_ble_eq_true rfl⟩ hcs rfl (Nat.le_of_ble_eq_true rfl) (fun iy1 => ?_)
  refine g_icmp_eq C dL_law_602 iy0 iy0 rfl (tgt := 1613) (fun _ => ?_) (fun c9 => absurd rfl c9)
  exact g_widen (by omega) (by omega) (kk σ2 hI2)
set_option maxRecDepth 100000 in
set_option maxHeartbeats 4000000 in
theorem lc_strike {z : Int} {j : Nat} {σ : St} (hPS : PS_strike Inv) (C : Cx w p s m #[Value.ref b] c (fun q => s.heap.size ≤ q) code RL 7) (hX : va_X b N xs s s.heap) (hbl : b < s.heap.size) (hz : 0 ≤ z ∧ z + 7 ≤ (N : Int)) (hN : N ≤ 3584) (hj : j ≤ 513) (hI : Inv σ)
    (kk : ∀ σ2, Inv σ2 → GL w p l e s m b below meth c (235 + (j + 1)) (54422 + 64 * (j + 1)) 1613 [some (.ref b), some (rv w 0), some (rv w 170), some (rv w 234), some (iv z), none, none] [] σ2) : GL w p l e s m b below meth c (235 + j) (54422 + 64 * j) 607 [some (.ref b), some (rv w 0), some (rv w 170), some (rv w 234), some (iv z), none, none] [] σ := by
  have hbA : ¬ (fun q : Nat => s.heap.size ≤ q) b := Nat.not_le.mpr hbl
  have hcs : 235 + j ≤ room_1.cells ∧ 54422 + 64 * j ≤ room_1.slots := ⟨by show _ ≤ 601024; omega, by show _ ≤ 7293034; omega⟩
  have b1 : InI (z + 1) ∧ (0 ≤ z + 1 ∧ z + 1 < (N : Int)) := ⟨⟨by omega, by omega⟩, by omega, by omega⟩
  have w1 : wr (z + 1) = z + 1 := wr_id b1.1
  refine g_ok (fun ho => ?_)
  obtain ⟨y, σ1, σ2, q1, q2, hI2⟩ := hPS σ (sv xs (z + 1)) ho hI (iI _)
  refine g_aload_n C dL_law_607 rfl ?_
  refine g_aload_nV C dL_law_608 rfl ?_
  refine g_iload C dL_law_609 rfl ?_
  refine g_iconst C dL_law_611 ?_
  refine g_iadd C dL_law_612 ?_
  refine g_E w1 ?_
  refine g_sld C dL_law_613 hX hbl hbA b1.1 b1.2 ?_
  refine g_callV1 (As := [iv (sv xs (z + 1))]) C dL_law_614 mi_X11_strike ml_L_69 (ct_X11_strike (iI _) q1) rfl rfl ⟨rfl, rfl⟩ ⟨Nat.le_of_ble_eq_true rfl, Nat.le_of_ble_eq_true rfl⟩ hcs rfl (Nat.le_of_ble_eq_true rfl) (fun iy0 => ?_)
  refine g_aload_n C dL_law_617 rfl ?_
  refine g_aload_nV C dL_law_618 rfl ?_
  refine g_iload C dL_law_619 rfl ?_
  refine g_iconst C dL_law_621 ?_
  refine g_iadd C dL_law_622 ?_
  refine g_E w1 ?_
  refine g_sld C dL_law_623 hX hbl hbA b1.1 b1.2 ?_
  refine g_callV1 (As := [iv (sv xs (z + 1))]) C dL_law_624 mi_X12_strike ml_L_72 (ct_X12_strike (iI _) q2) rfl rfl ⟨rfl, rfl⟩ ⟨Nat.le_of_ble_eq_true rfl, Nat.le_of_ble_eq_true rfl⟩ hcs rfl (Nat.le_of_ble_eq_true rfl) (fun iy1 => ?_)
  refine g_icmp_eq C dL_law_627 iy0 iy0 rfl (tgt := 1613) (fun _ => ?_) (fun c9 => absurd rfl c9)
  exact g_widen (by omega) (by omega) (kk σ2 hI2)
set_option maxRecDepth 100000 in
set_option maxHeartbeats 4000000 in
theorem lc_distance {z : Int} {j : Nat} {σ : St} (hPS : PS_distance Inv) (C : Cx w p s m #[Value.ref b] c (fun q => s.heap.size ≤ q) code RL 7) (hX : va_X b N xs s s.heap) (hbl : b < s.heap.size) (hz : 0 ≤ z ∧ z + 7 ≤ (N : Int)) (hN : N ≤ 3584) (hj : j ≤ 513) (hI : Inv σ)
    (kk : ∀ σ2, Inv σ2 → GL w p l e s m b below meth c (235 + (j + 1)) (54422 + 64 * (j + 1)) 1613 [some (.ref b), some (rv w 0), some (rv w 170), some (rv w 234), some (iv z), none, none] [] σ2) : GL w p l e s m b below meth c (235 + j) (54422 + 64 * j) 632 [some (.ref b), some (rv w 0), some (rv w 170), some (rv w 234), some (iv z), none, none] [] σ := by
  have hbA : ¬ (fun q : Nat => s.heap.size ≤ q) b := Nat.not_le.mpr hbl
  have hcs : 235 + j ≤ room_1.cells ∧ 54422 + 64 * j ≤ room_1.slots := ⟨by show _ ≤ 601024; omega, by show _ ≤ 7293034; omega⟩
  have b1 : InI (z + 1) ∧ (0 ≤ z + 1 ∧ z + 1 < (N : Int)) := ⟨⟨by omega, by omega⟩, by omega, by omega⟩
  have w1 : wr (z + 1) = z + 1 := wr_id b1.1
  have b2 : InI (z + 2) ∧ (0 ≤ z + 2 ∧ z + 2 < (N : Int)) := ⟨⟨by omega, by omega⟩, by omega, by omega⟩
  have w2 : wr (z + 2) = z + 2 := wr_id b2.1
  refine g_ok (fun ho => ?_)
  obtain ⟨y, σ2, q1, q2, hI2⟩ := hPS σ (sv xs (z + 1)) (sv xs (z + 2)) ho hI (iI _) (iI _)
  refine g_aload_n C dL_law_632 rfl ?_
  refine g_aload_nV C dL_law_633 rfl ?_
  refine g_iload C dL_law_634 rfl ?_
  refine g_iconst C dL_law_636 ?_
  refine g_iadd C dL_law_637 ?_
  refine g_E w1 ?_
  refine g_sld C dL_law_638 hX hbl hbA b1.1 b1.2 ?_
  refine g_aload_nV C dL_law_639 rfl ?_
  refine g_iload C dL_law_640 rfl ?_
  refine g_iconst C dL_law_642 ?_
  refine g_iadd C dL_law_643 ?_
  refine g_E w2 ?_
  refine g_sld C dL_law_644 hX hbl hbA b2.1 b2.2 ?_
  refine g_callV1 (As := [iv (sv xs (z + 1)), iv (sv xs (z + 2))]) C dL_law_645 mi_X11_distance ml_L_73 (ct_X11_distance (iI _) (iI _) q1) rfl rfl ⟨rfl, rfl⟩ ⟨Nat.le_of_ble_eq_true rfl, Nat.le_of_ble_eq_true rfl⟩ hcs rfl (Nat.le_of_ble_eq_true rfl) (fun iy0 => ?_)
  refine g_aload_n C dL_law_648 rfl ?_
  refine g_aload_nV C dL_law_649 rfl ?_
  refine g_iload C dL_law_650 rfl ?_
  refine g_iconst C dL_law_652 ?_
  refine g_iadd C dL_law_653 ?_
  refine g_E w1 ?_
  refine g_sld C dL_law_654 hX hbl hbA b1.1 b1.2 ?_
  refine g_aload_nV C dL_law_655 rfl ?_
  refine g_iload C dL_law_656 rfl ?_
  refine g_iconst C dL_law_658 ?_
  refine g_iadd C dL_law_659 ?_
  refine g_E w2 ?_
  refine g_sld C dL_law_660 hX hbl hbA b2.1 b2.2 ?_
  refine g_callV1 (As := [iv (sv xs (z + 1)), iv (sv xs (z + 2))]) C dL_law_661 mi_X12_distance ml_L_76 (ct_X12_distance (iI _) (iI _) q2) rfl rfl ⟨rfl, rfl⟩ ⟨Nat.le_of_ble_eq_true rfl, Nat.le_of_ble_eq_true rfl⟩ hcs rfl (Nat.le_of_ble_eq_true rfl) (fun iy1 => ?_)
  refine g_icmp_eq C dL_law_664 iy0 iy0 rfl (tgt := 1613) (fun _ => ?_) (fun c9 => absurd rfl c9)
  exact g_widen (by omega) (by omega) (kk σ2 hI2)
set_option maxRecDepth 100000 in
set_option maxHeartbeats 4000000 in
theorem lc_run {z : Int} {j : Nat} {σ : St} (hPS : PS_run Inv) (C : Cx w p s m #[Value.ref b] c (fun q => s.heap.size ≤ q) code RL 7) (hX : va_X b N xs s s.heap) (hbl : b < s.heap.size) (hz : 0 ≤ z ∧ z + 7 ≤ (N : Int)) (hN : N ≤ 3584) (hj : j ≤ 513) (hI : Inv σ)
    (kk : ∀ σ2, Inv σ2 → GL w p l e s m b below meth c (235 + (j + 1)) (54422 + 64 * (j + 1)) 1613 [some (.ref b), some (rv w 0), some (rv w 170), some (rv w 234), some (iv z), none, none] [] σ2) : GL w p l e s m b below meth c (235 + j) (54422 + 64 * j) 669 [some (.ref b), some (rv w 0), some (rv w 170), some (rv w 234), some (iv z), none, none] [] σ := by
  have hbA : ¬ (fun q : Nat => s.heap.size ≤ q) b := Nat.not_le.mpr hbl
  have hcs : 235 + j ≤ room_1.cells ∧ 54422 + 64 * j ≤ room_1.slots := ⟨by show _ ≤ 601024; omega, by show _ ≤ 7293034; omega⟩
  have b1 : InI (z + 1) ∧ (0 ≤ z + 1 ∧ z + 1 < (N : Int)) := ⟨⟨by omega, by omega⟩, by omega, by omega⟩
  have w1 : wr (z + 1) = z + 1 := wr_id b1.1
  refine g_ok (fun ho => ?_)
  obtain ⟨y, σ1, σ2, q1, q2, hI2⟩ := hPS σ (sv xs (z + 1)) ho hI (iI _)
  refine g_aload_n C dL_law_669 rfl ?_
  refine g_aload_nV C dL_law_670 rfl ?_
  refine g_iload C dL_law_671 rfl ?_
  refine g_iconst C dL_law_673 ?_
  refine g_iadd C dL_law_674 ?_
  refine g_E w1 ?_
  refine g_sld C dL_law_675 hX hbl hbA b1.1 b1.2 ?_
  refine g_callV1 (As := [iv (sv xs (z + 1))]) C dL_law_676 mi_X11_run ml_L_77 (ct_X11_run (iI _) q1) rfl rfl ⟨rfl, rfl⟩ ⟨Nat.le_of_ble_eq_true rfl, Nat.le_of_ble_eq_true rfl⟩ hcs rfl (Nat.le_of_ble_eq_true rfl) (fun iy0 => ?_)
  refine g_aload_n C dL_law_679 rfl ?_
  refine g_aload_nV C dL_law_680 rfl ?_
  refine g_iload C dL_law_681 rfl ?_
  refine g_iconst C dL_law_683 ?_
  refine g_iadd C dL_law_684 ?_
  refine g_E w1 ?_
  refine g_sld C dL_law_685 hX hbl hbA b1.1 b1.2 ?_
  refine g_callV1 (As := [iv (sv xs (z + 1))]) C dL_law_686 mi_X12_run ml_L_80 (ct_X12_run (iI _) q2) rfl rfl ⟨rfl, rfl⟩ ⟨Nat.le_of_ble_eq_true rfl, Nat.le_of_ble_eq_true rfl⟩ hcs rfl (Nat.le_of_ble_eq_true rfl) (fun iy1 => ?_)
  refine g_icmp_eq C dL_law_689 iy0 iy0 rfl (tgt := 1613) (fun _ => ?_) (fun c9 => absurd rfl c9)
  exact g_widen (by omega) (by omega) (kk σ2 hI2)
set_option maxRecDepth 100000 in
set_option maxHeartbeats 4000000 in
theorem lc_where {z : Int} {j : Nat} {σ : St} (hPS : PS_where Inv) (C : Cx w p s m #[Value.ref b] c (fun q => s.heap.size ≤ q) code RL 7) (hX : va_X b N xs s s.heap) (hbl : b < s.heap.size) (hz : 0 ≤ z ∧ z + 7 ≤ (N : Int)) (hN : N ≤ 3584) (hj : j ≤ 513) (hI : Inv σ)
    (kk : ∀ σ2, Inv σ2 → GL w p l e s m b below meth c (235 + (j + 1)) (54422 + 64 * (j + 1)) 1613 [some (.ref b), some (rv w 0), some (rv w 170), some (rv w 234), some (iv z), none, none] [] σ2) : GL w p l e s m b below meth c (235 + j) (54422 + 64 * j) 694 [some (.ref b), some (rv w 0), some (rv w 170), some (rv w 234), some (iv z), none, none] [] σ := by
  have hbA : ¬ (fun q : Nat => s.heap.size ≤ q) b := Nat.not_le.mpr hbl
  have hcs : 235 + j ≤ room_1.cells ∧ 54422 + 64 * j ≤ room_1.slots := ⟨by show _ ≤ 601024; omega, by show _ ≤ 7293034; omega⟩
  have b1 : InI (z + 1) ∧ (0 ≤ z + 1 ∧ z + 1 < (N : Int)) := ⟨⟨by omega, by omega⟩, by omega, by omega⟩
  have w1 : wr (z + 1) = z + 1 := wr_id b1.1
  have b2 : InI (z + 2) ∧ (0 ≤ z + 2 ∧ z + 2 < (N : Int)) := ⟨⟨by omega, by omega⟩, by omega, by omega⟩
  have w2 : wr (z + 2) = z + 2 := wr_id b2.1
  refine g_ok (fun ho => ?_)
  obtain ⟨y, σ2, q1, q2, hI2⟩ := hPS σ (sv xs (z + 1)) (sv xs (z + 2)) ho hI (iI _) (iI _)
  refine g_aload_n C dL_law_694 rfl ?_
  refine g_aload_nV C dL_law_695 rfl ?_
  refine g_iload C dL_law_696 rfl ?_
  refine g_iconst C dL_law_698 ?_
  refine g_iadd C dL_law_699 ?_
  refine g_E w1 ?_
  refine g_sld C dL_law_700 hX hbl hbA b1.1 b1.2 ?_
  refine g_aload_nV C dL_law_701 rfl ?_
  refine g_iload C dL_law_702 rfl ?_
  refine g_iconst C dL_law_704 ?_
  refine g_iadd C dL_law_705 ?_
  refine g_E w2 ?_
  refine g_sld C dL_law_706 hX hbl hbA b2.1 b2.2 ?_
  refine g_callV1 (As := [iv (sv xs (z + 1)), iv (sv xs (z + 2))]) C dL_law_707 mi_X11_where ml_L_81 (ct_X11_where (iI _) (iI _) q1) rfl rfl ⟨rfl, rfl⟩ ⟨Nat.le_of_ble_eq_true rfl, Nat.le_of_ble_eq_true rfl⟩ hcs rfl (Nat.le_of_ble_eq_true rfl) (fun iy0 => ?_)
  refine g_aload_n C dL_law_710 rfl ?_
  refine g_aload_nV C dL_law_711 rfl ?_
  refine g_iload C dL_law_712 rfl ?_
  refine g_iconst C dL_law_714 ?_
  refine g_iadd C dL_law_715 ?_
  refine g_E w1 ?_
  refine g_sld C dL_law_716 hX hbl hbA b1.1 b1.2 ?_
  refine g_aload_nV C dL_law_717 rfl ?_
  refine g_iload C dL_law_718 rfl ?_
  refine g_iconst C dL_law_720 ?_
  refine g_iadd C dL_law_721 ?_
  refine g_E w2 ?_
  refine g_sld C dL_law_722 hX hbl hbA b2.1 b2.2 ?_
  refine g_callV1 (As := [iv (sv xs (z + 1)), iv (sv xs (z + 2))]) C dL_law_723 mi_X12_where ml_L_84 (ct_X12_where (iI _) (iI _) q2) rfl rfl ⟨rfl, rfl⟩ ⟨Nat.le_of_ble_eq_true rfl, Nat.le_of_ble_eq_true rfl⟩ hcs rfl (Nat.le_of_ble_eq_true rfl) (fun iy1 => ?_)
  refine g_icmp_eq C dL_law_726 iy0 iy0 rfl (tgt := 1613) (fun _ => ?_) (fun c9 => absurd rfl c9)
  exact g_widen (by omega) (by omega) (kk σ2 hI2)
set_option maxRecDepth 100000 in
set_option maxHeartbeats 4000000 in
theorem lc_knows {z : Int} {j : Nat} {σ : St} (hPS : PS_knows Inv) (C : Cx w p s m #[Value.ref b] c (fun q => s.heap.size ≤ q) code RL 7) (hX : va_X b N xs s s.heap) (hbl : b < s.heap.size) (hz : 0 ≤ z ∧ z + 7 ≤ (N : Int)) (hN : N ≤ 3584) (hj : j ≤ 513) (hI : Inv σ)
    (kk : ∀ σ2, Inv σ2 → GL w p l e s m b below meth c (235 + (j + 1)) (54422 + 64 * (j + 1)) 1613 [some (.ref b), some (rv w 0), some (rv w 170), some (rv w 234), some (iv z), none, none] [] σ2) : GL w p l e s m b below meth c (235 + j) (54422 + 64 * j) 731 [some (.ref b), some (rv w 0), some (rv w 170), some (rv w 234), some (iv z), none, none] [] σ := by
  have hbA : ¬ (fun q : Nat => s.heap.size ≤ q) b := Nat.not_le.mpr hbl
  have hcs : 235 + j ≤ room_1.cells ∧ 54422 + 64 * j ≤ room_1.slots := ⟨by show _ ≤ 601024; omega, by show _ ≤ 7293034; omega⟩
  have b1 : InI (z + 1) ∧ (0 ≤ z + 1 ∧ z + 1 < (N : Int)) := ⟨⟨by omega, by omega⟩, by omega, by omega⟩
  have w1 : wr (z + 1) = z + 1 := wr_id b1.1
  have b2 : InI (z + 2) ∧ (0 ≤ z + 2 ∧ z + 2 < (N : Int)) := ⟨⟨by omega, by omega⟩, by omega, by omega⟩
  have w2 : wr (z + 2) = z + 2 := wr_id b2.1
  refine g_ok (fun ho => ?_)
  obtain ⟨y, σ2, q1, q2, hI2⟩ := hPS σ (sv xs (z + 1)) (sv xs (z + 2)) ho hI (iI _) (iI _)
  refine g_aload_n C dL_law_731 rfl ?_
  refine g_aload_nV C dL_law_732 rfl ?_
  refine g_iload C dL_law_733 rfl ?_
  refine g_iconst C dL_law_735 ?_
  refine g_iadd C dL_law_736 ?_
  refine g_E w1 ?_
  refine g_sld C dL_law_737 hX hbl hbA b1.1 b1.2 ?_
  refine g_aload_nV C dL_law_738 rfl ?_
  refine g_iload C dL_law_739 rfl ?_
  refine g_iconst C dL_law_741 ?_
  refine g_iadd C dL_law_742 ?_
  refine g_E w2 ?_
  refine g_sld C dL_law_743 hX hbl hbA b2.1 b2.2 ?_
  refine g_callV1 (As := [iv (sv xs (z + 1)), iv (sv xs (z + 2))]) C dL_law_744 mi_X11_knows ml_L_85 (ct_X11_knows (iI _) (iI _) q1) rfl rfl ⟨rfl, rfl⟩ ⟨Nat.le_of_ble_eq_true rfl, Nat.le_of_ble_eq_true rfl⟩ hcs rfl (Nat.le_of_ble_eq_true rfl) (fun iy0 => ?_)
  refine g_aload_n C dL_law_747 rfl ?_
  refine g_aload_nV C dL_law_748 rfl ?_
  refine g_iload C dL_law_749 rfl ?_
  refine g_iconst C dL_law_751 ?_
  refine g_iadd C dL_law_752 ?_
  refine g_E w1 ?_
  refine g_sld C dL_law_753 hX hbl hbA b1.1 b1.2 ?_
  refine g_aload_nV C dL_law_754 rfl ?_
  refine g_iload C dL_law_755 rfl ?_
  refine g_iconst C dL_law_757 ?_
  refine g_iadd C dL_law_758 ?_
  refine g_E w2 ?_
  refine g_sld C dL_law_759 hX hbl hbA b2.1 b2.2 ?_
  refine g_callV1 (As := [iv (sv xs (z + 1)), iv (sv xs (z + 2))]) C dL_law_760 mi_X12_knows ml_L_88 (ct_X12_knows (iI _) (iI _) q2) rfl rfl ⟨rfl, rfl⟩ ⟨Nat.le_of_ble_eq_true rfl, Nat.le_of_ble_eq_true rfl⟩ hcs rfl (Nat.le_of_ble_eq_true rfl) (fun iy1 => ?_)
  refine g_icmp_eq C dL_law_763 iy0 iy0 rfl (tgt := 1613) (fun _ => ?_) (fun c9 => absurd rfl c9)
  exact g_widen (by omega) (by omega) (kk σ2 hI2)
set_option maxRecDepth 100000 in
set_option maxHeartbeats 4000000 in
theorem lc_chain {z : Int} {j : Nat} {σ : St} (hPS : PS_chain Inv) (C : Cx w p s m #[Value.ref b] c (fun q => s.heap.size ≤ q) code RL 7) (hX : va_X b N xs s s.heap) (hbl : b < s.heap.size) (hz : 0 ≤ z ∧ z + 7 ≤ (N : Int)) (hN : N ≤ 3584) (hj : j ≤ 513) (hI : Inv σ)
    (kk : ∀ σ2, Inv σ2 → GL w p l e s m b below meth c (235 + (j + 1)) (54422 + 64 * (j + 1)) 1613 [some (.ref b), some (rv w 0), some (rv w 170), some (rv w 234), some (iv z), none, none] [] σ2) : GL w p l e s m b below meth c (235 + j) (54422 + 64 * j) 768 [some (.ref b), some (rv w 0), some (rv w 170), some (rv w 234), some (iv z), none, none] [] σ := by
  have hbA : ¬ (fun q : Nat => s.heap.size ≤ q) b := Nat.not_le.mpr hbl
  have hcs : 235 + j ≤ room_1.cells ∧ 54422 + 64 * j ≤ room_1.slots := ⟨by show _ ≤ 601024; omega, by show _ ≤ 7293034; omega⟩
  have b1 : InI (z + 1) ∧ (0 ≤ z + 1 ∧ z + 1 < (N : Int)) := ⟨⟨by omega, by omega⟩, by omega, by omega⟩
  have w1 : wr (z + 1) = z + 1 := wr_id b1.1
  have b2 : InI (z + 2) ∧ (0 ≤ z + 2 ∧ z + 2 < (N : Int)) := ⟨⟨by omega, by omega⟩, by omega, by omega⟩
  have w2 : wr (z + 2) = z + 2 := wr_id b2.1
  have b3 : InI (z + 3) ∧ (0 ≤ z + 3 ∧ z + 3 < (N : Int)) := ⟨⟨by omega, by omega⟩, by omega, by omega⟩
  have w3 : wr (z + 3) = z + 3 := wr_id b3.1
  refine g_ok (fun ho => ?_)
  obtain ⟨y, σ2, q1, q2, hI2⟩ := hPS σ (sv xs (z + 1)) (sv xs (z + 2)) (sv xs (z + 3)) ho hI (iI _) (iI _) (iI _)
  refine g_aload_n C dL_law_768 rfl ?_
  refine g_aload_nV C dL_law_769 rfl ?_
  refine g_iload C dL_law_770 rfl ?_
  refine g_iconst C dL_law_772 ?_
  refine g_iadd C dL_law_773 ?_
  refine g_E w1 ?_
  refine g_sld C dL_law_774 hX hbl hbA b1.1 b1.2 ?_
  refine g_aload_nV C dL_law_775 rfl ?_
  refine g_iload C dL_law_776 rfl ?_
  refine g_iconst C dL_law_778 ?_
  refine g_iadd C dL_law_779 ?_
  refine g_E w2 ?_
  refine g_sld C dL_law_780 hX hbl hbA b2.1 b2.2 ?_
  refine g_aload_nV C dL_law_781 rfl ?_
  refine g_iload C dL_law_782 rfl ?_
  refine g_iconst C dL_law_784 ?_
  refine g_iadd C dL_law_785 ?_
  refine g_E w3 ?_
  refine g_sld C dL_law_786 hX hbl hbA b3.1 b3.2 ?_
  refine g_callV1 (As := [iv (sv xs (z + 1)), iv (sv xs (z + 2)), iv (sv xs (z + 3))]) C dL_law_787 mi_X11_chain ml_L_89 (ct_X11_chain (iI _) (iI _) (iI _) q1) rfl rfl ⟨rfl, rfl⟩ ⟨Nat.le_of_ble_eq_true rfl, Nat.le_of_ble_eq_true rfl⟩ hcs rfl (Nat.le_of_ble_eq_true rfl) (fun iy0 => ?_)
  refine g_aload_n C dL_law_790 rfl ?_
  refine g_aload_nV C dL_law_791 rfl ?_
  refine g_iload C dL_law_792 rfl ?_
  refine g_iconst C dL_law_794 ?_
  refine g_iadd C dL_law_795 ?_
  refine g_E w1 ?_
  refine g_sld C dL_law_796 hX hbl hbA b1.1 b1.2 ?_
  refine g_aload_nV C dL_law_797 rfl ?_
  refine g_iload C dL_law_798 rfl ?_
  refine g_iconst C dL_law_800 ?_
  refine g_iadd C dL_law_801 ?_
  refine g_E w2 ?_
  refine g_sld C dL_law_802 hX hbl hbA b2.1 b2.2 ?_
  refine g_aload_nV C dL_law_803 rfl ?_
  refine g_iload C dL_law_804 rfl ?_
  refine g_iconst C dL_law_806 ?_
  refine g_iadd C dL_law_807 ?_
  refine g_E w3 ?_
  refine g_sld C dL_law_808 hX hbl hbA b3.1 b3.2 ?_
  refine g_callV1 (As := [iv (sv xs (z + 1)), iv (sv xs (z + 2)), iv (sv xs (z + 3))]) C dL_law_809 mi_X12_chain ml_L_92 (ct_X12_chain (iI _) (iI _) (iI _) q2) rfl rfl ⟨rfl, rfl⟩ ⟨Nat.le_of_ble_eq_true rfl, Nat.le_of_ble_eq_true rfl⟩ hcs rfl (Nat.le_of_ble_eq_true rfl) (fun iy1 => ?_)
  refine g_icmp_eq C dL_law_812 iy0 iy0 rfl (tgt := 1613) (fun _ => ?_) (fun c9 => absurd rfl c9)
  exact g_widen (by omega) (by omega) (kk σ2 hI2)
set_option maxRecDepth 100000 in
set_option maxHeartbeats 4000000 in
theorem lc_has {z : Int} {j : Nat} {σ : St} (hPS : PS_has Inv) (C : Cx w p s m #[Value.ref b] c (fun q => s.heap.size ≤ q) code RL 7) (hX : va_X b N xs s s.heap) (hbl : b < s.heap.size) (hz : 0 ≤ z ∧ z + 7 ≤ (N : Int)) (hN : N ≤ 3584) (hj : j ≤ 513) (hI : Inv σ)
    (kk : ∀ σ2, Inv σ2 → GL w p l e s m b below meth c (235 + (j + 1)) (54422 + 64 * (j + 1)) 1613 [some (.ref b), some (rv w 0), some (rv w 170), some (rv w 234), some (iv z), none, none] [] σ2) : GL w p l e s m b below meth c (235 + j) (54422 + 64 * j) 817 [some (.ref b), some (rv w 0), some (rv w 170), some (rv w 234), some (iv z), none, none] [] σ := by
  have hbA : ¬ (fun q : Nat => s.heap.size ≤ q) b := Nat.not_le.mpr hbl
  have hcs : 235 + j ≤ room_1.cells ∧ 54422 + 64 * j ≤ room_1.slots := ⟨by show _ ≤ 601024; omega, by show _ ≤ 7293034; omega⟩
  have b1 : InI (z + 1) ∧ (0 ≤ z + 1 ∧ z + 1 < (N : Int)) := ⟨⟨by omega, by omega⟩, by omega, by omega⟩
  have w1 : wr (z + 1) = z + 1 := wr_id b1.1
  have b2 : InI (z + 2) ∧ (0 ≤ z + 2 ∧ z + 2 < (N : Int)) := ⟨⟨by omega, by omega⟩, by omega, by omega⟩
  have w2 : wr (z + 2) = z + 2 := wr_id b2.1
  refine g_ok (fun ho => ?_)
  obtain ⟨y, σ2, q1, q2, hI2⟩ := hPS σ (sv xs (z + 1)) (sv xs (z + 2)) ho hI (iI _) (iI _)
  refine g_aload_n C dL_law_817 rfl ?_
  refine g_aload_nV C dL_law_818 rfl ?_
  refine g_iload C dL_law_819 rfl ?_
  refine g_iconst C dL_law_821 ?_
  refine g_iadd C dL_law_822 ?_
  refine g_E w1 ?_
  refine g_sld C dL_law_823 hX hbl hbA b1.1 b1.2 ?_
  refine g_aload_nV C dL_law_824 rfl ?_
  refine g_iload C dL_law_825 rfl ?_
  refine g_iconst C dL_law_827 ?_
  refine g_iadd C dL_law_828 ?_
  refine g_E w2 ?_
  refine g_sld C dL_law_829 hX hbl hbA b2.1 b2.2 ?_
  refine g_callV1 (As := [iv (sv xs (z + 1)), iv (sv xs (z + 2))]) C dL_law_830 mi_X11_has ml_L_93 (ct_X11_has (iI _) (iI _) q1) rfl rfl ⟨rfl, rfl⟩ ⟨Nat.le_of_ble_eq_true rfl, Nat.le_of_ble_eq_true rfl⟩ hcs rfl (Nat.le_of_ble_eq_true rfl) (fun iy0 => ?_)
  refine g_aload_n C dL_law_833 rfl ?_
  refine g_aload_nV C dL_law_834 rfl ?_
  refine g_iload C dL_law_835 rfl ?_
  refine g_iconst C dL_law_837 ?_
  refine g_iadd C dL_law_838 ?_
  refine g_E w1 ?_
  refine g_sld C dL_law_839 hX hbl hbA b1.1 b1.2 ?_
  refine g_aload_nV C dL_law_840 rfl ?_
  refine g_iload C dL_law_841 rfl ?_
  refine g_iconst C dL_law_843 ?_
  refine g_iadd C dL_law_844 ?_
  refine g_E w2 ?_
  refine g_sld C dL_law_845 hX hbl hbA b2.1 b2.2 ?_
  refine g_callV1 (As := [iv (sv xs (z + 1)), iv (sv xs (z + 2))]) C dL_law_846 mi_X12_has ml_L_96 (ct_X12_has (iI _) (iI _) q2) rfl rfl ⟨rfl, rfl⟩ ⟨Nat.le_of_ble_eq_true rfl, Nat.le_of_ble_eq_true rfl⟩ hcs rfl (Nat.le_of_ble_eq_true rfl) (fun iy1 => ?_)
  refine g_icmp_eq C dL_law_849 iy0 iy0 rfl (tgt := 1613) (fun _ => ?_) (fun c9 => absurd rfl c9)
  exact g_widen (by omega) (by omega) (kk σ2 hI2)
set_option maxRecDepth 100000 in
set_option maxHeartbeats 4000000 in
theorem lc_left {z : Int} {j : Nat} {σ : St} (hPS : PS_left Inv) (C : Cx w p s m #[Value.ref b] c (fun q => s.heap.size ≤ q) code RL 7) (hX : va_X b N xs s s.heap) (hbl : b < s.heap.size) (hz : 0 ≤ z ∧ z + 7 ≤ (N : Int)) (hN : N ≤ 3584) (hj : j ≤ 513) (hI : Inv σ)
    (kk : ∀ σ2, Inv σ2 → GL w p l e s m b below meth c (235 + (j + 1)) (54422 + 64 * (j + 1)) 1613 [some (.ref b), some (rv w 0), some (rv w 170), some (rv w 234), some (iv z), none, none] [] σ2) : GL w p l e s m b below meth c (235 + j) (54422 + 64 * j) 854 [some (.ref b), some (rv w 0), some (rv w 170), some (rv w 234), some (iv z), none, none] [] σ := by
  have hbA : ¬ (fun q : Nat => s.heap.size ≤ q) b := Nat.not_le.mpr hbl
  have hcs : 235 + j ≤ room_1.cells ∧ 54422 + 64 * j ≤ room_1.slots := ⟨by show _ ≤ 601024; omega, by show _ ≤ 7293034; omega⟩
  have b1 : InI (z + 1) ∧ (0 ≤ z + 1 ∧ z + 1 < (N : Int)) := ⟨⟨by omega, by omega⟩, by omega, by omega⟩
  have w1 : wr (z + 1) = z + 1 := wr_id b1.1
  refine g_ok (fun ho => ?_)
  obtain ⟨y, σ2, q1, q2, hI2⟩ := hPS σ (sv xs (z + 1)) ho hI (iI _)
  refine g_aload_n C dL_law_854 rfl ?_
  refine g_aload_nV C dL_law_855 rfl ?_
  refine g_iload C dL_law_856 rfl ?_
  refine g_iconst C dL_law_858 ?_
  refine g_iadd C dL_law_859 ?_
  refine g_E w1 ?_
  refine g_sld C dL_law_860 hX hbl hbA b1.1 b1.2 ?_
  refine g_callV1 (As := [iv (sv xs (z + 1))]) C dL_law_861 mi_X11_left ml_L_97 (ct_X11_left (iI _) q1) rfl rfl ⟨rfl, rfl⟩ ⟨Nat.le_of_ble_eq_true rfl, Nat.le_of_ble_eq_true rfl⟩ hcs rfl (Nat.le_of_ble_eq_true rfl) (fun iy0 => ?_)
  refine g_aload_n C dL_law_864 rfl ?_
  refine g_aload_nV C dL_law_865 rfl ?_
  refine g_iload C dL_law_866 rfl ?_
  refine g_iconst C dL_law_868 ?_
  refine g_iadd C dL_law_869 ?_
  refine g_E w1 ?_
  refine g_sld C dL_law_870 hX hbl hbA b1.1 b1.2 ?_
  refine g_callV1 (As := [iv (sv xs (z + 1))]) C dL_law_871 mi_X12_left ml_L_100 (ct_X12_left (iI _) q2) rfl rfl ⟨rfl, rfl⟩ ⟨Nat.le_of_ble_eq_true rfl, Nat.le_of_ble_eq_true rfl⟩ hcs rfl (Nat.le_of_ble_eq_true rfl) (fun iy1 => ?_)
  refine g_icmp_eq C dL_law_874 iy0 iy0 rfl (tgt := 1613) (fun _ => ?_) (fun c9 => absurd rfl c9)
  exact g_widen (by omega) (by omega) (kk σ2 hI2)
set_option maxRecDepth 100000 in
set_option maxHeartbeats 4000000 in
theorem lc_met {z : Int} {j : Nat} {σ : St} (hPS : PS_met Inv) (C : Cx w p s m #[Value.ref b] c (fun q => s.heap.size ≤ q) code RL 7) (hX : va_X b N xs s s.heap) (hbl : b < s.heap.size) (hz : 0 ≤ z ∧ z + 7 ≤ (N : Int)) (hN : N ≤ 3584) (hj : j ≤ 513) (hI : Inv σ)
    (kk : ∀ σ2, Inv σ2 → GL w p l e s m b below meth c (235 + (j + 1)) (54422 + 64 * (j + 1)) 1613 [some (.ref b), some (rv w 0), some (rv w 170), some (rv w 234), some (iv z), none, none] [] σ2) : GL w p l e s m b below meth c (235 + j) (54422 + 64 * j) 879 [some (.ref b), some (rv w 0), some (rv w 170), some (rv w 234), some (iv z), none, none] [] σ := by
  have hbA : ¬ (fun q : Nat => s.heap.size ≤ q) b := Nat.not_le.mpr hbl
  have hcs : 235 + j ≤ room_1.cells ∧ 54422 + 64 * j ≤ room_1.slots := ⟨by show _ ≤ 601024; omega, by show _ ≤ 7293034; omega⟩
  have b1 : InI (z + 1) ∧ (0 ≤ z + 1 ∧ z + 1 < (N : Int)) := ⟨⟨by omega, by omega⟩, by omega, by omega⟩
  have w1 : wr (z + 1) = z + 1 := wr_id b1.1
  have b2 : InI (z + 2) ∧ (0 ≤ z + 2 ∧ z + 2 < (N : Int)) := ⟨⟨by omega, by omega⟩, by omega, by omega⟩
  have w2 : wr (z + 2) = z + 2 := wr_id b2.1
  refine g_ok (fun ho => ?_)
  obtain ⟨y, σ2, q1, q2, hI2⟩ := hPS σ (sv xs (z + 1)) (sv xs (z + 2)) ho hI (iI _) (iI _)
  refine g_aload_n C dL_law_879 rfl ?_
  refine g_aload_nV C dL_law_880 rfl ?_
  refine g_iload C dL_law_881 rfl ?_
  refine g_iconst C dL_law_883 ?_
  refine g_iadd C dL_law_884 ?_
  refine g_E w1 ?_
  refine g_sld C dL_law_885 hX hbl hbA b1.1 b1.2 ?_
  refine g_aload_nV C dL_law_886 rfl ?_
  refine g_iload C dL_law_887 rfl ?_
  refine g_iconst C dL_law_889 ?_
  refine g_iadd C dL_law_890 ?_
  refine g_E w2 ?_
  refine g_sld C dL_law_891 hX hbl hbA b2.1 b2.2 ?_
  refine g_callV1 (As := [iv (sv xs (z + 1)), iv (sv xs (z + 2))]) C dL_law_892 mi_X11_met ml_L_101 (ct_X11_met (iI _) (iI _) q1) rfl rfl ⟨rfl, rfl⟩ ⟨Nat.le_of_ble_eq_true rfl, Nat.le_of_ble_eq_true rfl⟩ hcs rfl (Nat.le_of_ble_eq_true rfl) (fun iy0 => ?_)
  refine g_aload_n C dL_law_895 rfl ?_
  refine g_aload_nV C dL_law_896 rfl ?_
  refine g_iload C dL_law_897 rfl ?_
  refine g_iconst C dL_law_899 ?_
  refine g_iadd C dL_law_900 ?_
  refine g_E w1 ?_
  refine g_sld C dL_law_901 hX hbl hbA b1.1 b1.2 ?_
  refine g_aload_nV C dL_law_902 rfl ?_
  refine g_iload C dL_law_903 rfl ?_
  refine g_iconst C dL_law_905 ?_
  refine g_iadd C dL_law_906 ?_
  refine g_E w2 ?_
  refine g_sld C dL_law_907 hX hbl hbA b2.1 b2.2 ?_
  refine g_callV1 (As := [iv (sv xs (z + 1)), iv (sv xs (z + 2))]) C dL_law_908 mi_X12_met ml_L_104 (ct_X12_met (iI _) (iI _) q2) rfl rfl ⟨rfl, rfl⟩ ⟨Nat.le_of_ble_eq_true rfl, Nat.le_of_ble_eq_true rfl⟩ hcs rfl (Nat.le_of_ble_eq_true rfl) (fun iy1 => ?_)
  refine g_icmp_eq C dL_law_911 iy0 iy0 rfl (tgt := 1613) (fun _ => ?_) (fun c9 => absurd rfl c9)
  exact g_widen (by omega) (by omega) (kk σ2 hI2)
set_option maxRecDepth 100000 in
set_option maxHeartbeats 4000000 in
theorem lc_ended {z : Int} {j : Nat} {σ : St} (hPS : PS_ended Inv) (C : Cx w p s m #[Value.ref b] c (fun q => s.heap.size ≤ q) code RL 7) (hX : va_X b N xs s s.heap) (hbl : b < s.heap.size) (hz : 0 ≤ z ∧ z + 7 ≤ (N : Int)) (hN : N ≤ 3584) (hj : j ≤ 513) (hI : Inv σ)
    (kk : ∀ σ2, Inv σ2 → GL w p l e s m b below meth c (235 + (j + 1)) (54422 + 64 * (j + 1)) 1613 [some (.ref b), some (rv w 0), some (rv w 170), some (rv w 234), some (iv z), none, none] [] σ2) : GL w p l e s m b below meth c (235 + j) (54422 + 64 * j) 916 [some (.ref b), some (rv w 0), some (rv w 170), some (rv w 234), some (iv z), none, none] [] σ := by
  have hbA : ¬ (fun q : Nat => s.heap.size ≤ q) b := Nat.not_le.mpr hbl
  have hcs : 235 + j ≤ room_1.cells ∧ 54422 + 64 * j ≤ room_1.slots := ⟨by show _ ≤ 601024; omega, by show _ ≤ 7293034; omega⟩
  have b1 : InI (z + 1) ∧ (0 ≤ z + 1 ∧ z + 1 < (N : Int)) := ⟨⟨by omega, by omega⟩, by omega, by omega⟩
  have w1 : wr (z + 1) = z + 1 := wr_id b1.1
  refine g_ok (fun ho => ?_)
  obtain ⟨y, σ2, q1, q2, hI2⟩ := hPS σ (sv xs (z + 1)) ho hI (iI _)
  refine g_aload_n C dL_law_916 rfl ?_
  refine g_aload_nV C dL_law_917 rfl ?_
  refine g_iload C dL_law_918 rfl ?_
  refine g_iconst C dL_law_920 ?_
  refine g_iadd C dL_law_921 ?_
  refine g_E w1 ?_
  refine g_sld C dL_law_922 hX hbl hbA b1.1 b1.2 ?_
  refine g_callV1 (As := [iv (sv xs (z + 1))]) C dL_law_923 mi_X11_ended ml_L_105 (ct_X11_ended (iI _) q1) rfl rfl ⟨rfl, rfl⟩ ⟨Nat.le_of_ble_eq_true rfl, Nat.le_of_ble_eq_true rfl⟩ hcs rfl (Nat.le_of_ble_eq_true rfl) (fun iy0 => ?_)
  refine g_aload_n C dL_law_926 rfl ?_
  refine g_aload_nV C dL_law_927 rfl ?_
  refine g_iload C dL_law_928 rfl ?_
  refine g_iconst C dL_law_930 ?_
  refine g_iadd C dL_law_931 ?_
  refine g_E w1 ?_
  refine g_sld C dL_law_932 hX hbl hbA b1.1 b1.2 ?_
  refine g_callV1 (As := [iv (sv xs (z + 1))]) C dL_law_933 mi_X12_ended ml_L_108 (ct_X12_ended (iI _) q2) rfl rfl ⟨rfl, rfl⟩ ⟨Nat.le_of_ble_eq_true rfl, Nat.le_of_ble_eq_true rfl⟩ hcs rfl (Nat.le_of_ble_eq_true rfl) (fun iy1 => ?_)
  refine g_icmp_eq C dL_law_936 iy0 iy0 rfl (tgt := 1613) (fun _ => ?_) (fun c9 => absurd rfl c9)
  exact g_widen (by omega) (by omega) (kk σ2 hI2)
set_option maxRecDepth 100000 in
set_option maxHeartbeats 4000000 in
theorem lc_deeds {z : Int} {j : Nat} {σ : St} (hPS : PS_deeds Inv) (C : Cx w p s m #[Value.ref b] c (fun q => s.heap.size ≤ q) code RL 7) (hX : va_X b N xs s s.heap) (hbl : b < s.heap.size) (hz : 0 ≤ z ∧ z + 7 ≤ (N : Int)) (hN : N ≤ 3584) (hj : j ≤ 513) (hI : Inv σ)
    (kk : ∀ σ2, Inv σ2 → GL w p l e s m b below meth c (235 + (j + 1)) (54422 + 64 * (j + 1)) 1613 [some (.ref b), some (rv w 0), some (rv w 170), some (rv w 234), some (iv z), none, none] [] σ2) : GL w p l e s m b below meth c (235 + j) (54422 + 64 * j) 941 [some (.ref b), some (rv w 0), some (rv w 170), some (rv w 234), some (iv z), none, none] [] σ := by
  have hbA : ¬ (fun q : Nat => s.heap.size ≤ q) b := Nat.not_le.mpr hbl
  have hcs : 235 + j ≤ room_1.cells ∧ 54422 + 64 * j ≤ room_1.slots := ⟨by show _ ≤ 601024; omega, by show _ ≤ 7293034; omega⟩
  have b1 : InI (z + 1) ∧ (0 ≤ z + 1 ∧ z + 1 < (N : Int)) := ⟨⟨by omega, by omega⟩, by omega, by omega⟩
  have w1 : wr (z + 1) = z + 1 := wr_id b1.1
  refine g_ok (fun ho => ?_)
  obtain ⟨y, σ2, q1, q2, hI2⟩ := hPS σ (sv xs (z + 1)) ho hI (iI _)
  refine g_aload_n C dL_law_941 rfl ?_
  refine g_aload_nV C dL_law_942 rfl ?_
  refine g_iload C dL_law_943 rfl ?_
  refine g_iconst C dL_law_945 ?_
  refine g_iadd C dL_law_946 ?_
  refine g_E w1 ?_
  refine g_sld C dL_law_947 hX hbl hbA b1.1 b1.2 ?_
  refine g_callV1 (As := [iv (sv xs (z + 1))]) C dL_law_948 mi_X11_deeds ml_L_109 (ct_X11_deeds (iI _) q1) rfl rfl ⟨rfl, rfl⟩ ⟨Nat.le_of_ble_eq_true rfl, Nat.le_of_ble_eq_true rfl⟩ hcs rfl (Nat.le_of_ble_eq_true rfl) (fun iy0 => ?_)
  refine g_aload_n C dL_law_951 rfl ?_
  refine g_aload_nV C dL_law_952 rfl ?_
  refine g_iload C dL_law_953 rfl ?_
  refine g_iconst C dL_law_955 ?_
  refine g_iadd C dL_law_956 ?_
  refine g_E w1 ?_
  refine g_sld C dL_law_957 hX hbl hbA b1.1 b1.2 ?_
  refine g_callV1 (As := [iv (sv xs (z + 1))]) C dL_law_958 mi_X12_deeds ml_L_112 (ct_X12_deeds (iI _) q2) rfl rfl ⟨rfl, rfl⟩ ⟨Nat.le_of_ble_eq_true rfl, Nat.le_of_ble_eq_true rfl⟩ hcs rfl (Nat.le_of_ble_eq_true rfl) (fun iy1 => ?_)
  refine g_icmp_eq C dL_law_961 iy0 iy0 rfl (tgt := 1613) (fun _ => ?_) (fun c9 => absurd rfl c9)
  exact g_widen (by omega) (by omega) (kk σ2 hI2)
set_option maxRecDepth 100000 in
set_option maxHeartbeats 4000000 in
theorem lc_saws {z : Int} {j : Nat} {σ : St} (hPS : PS_saws Inv) (C : Cx w p s m #[Value.ref b] c (fun q => s.heap.size ≤ q) code RL 7) (hX : va_X b N xs s s.heap) (hbl : b < s.heap.size) (hz : 0 ≤ z ∧ z + 7 ≤ (N : Int)) (hN : N ≤ 3584) (hj : j ≤ 513) (hI : Inv σ)
    (kk : ∀ σ2, Inv σ2 → GL w p l e s m b below meth c (235 + (j + 1)) (54422 + 64 * (j + 1)) 1613 [some (.ref b), some (rv w 0), some (rv w 170), some (rv w 234), some (iv z), none, none] [] σ2) : GL w p l e s m b below meth c (235 + j) (54422 + 64 * j) 966 [some (.ref b), some (rv w 0), some (rv w 170), some (rv w 234), some (iv z), none, none] [] σ := by
  have hbA : ¬ (fun q : Nat => s.heap.size ≤ q) b := Nat.not_le.mpr hbl
  have hcs : 235 + j ≤ room_1.cells ∧ 54422 + 64 * j ≤ room_1.slots := ⟨by show _ ≤ 601024; omega, by show _ ≤ 7293034; omega⟩
  refine g_ok (fun ho => ?_)
  obtain ⟨y, σ2, q1, q2, hI2⟩ := hPS σ ho hI
  refine g_aload_n C dL_law_966 rfl ?_
  refine g_callV1 (As := []) C dL_law_967 mi_X11_saws ml_L_113 (ct_X11_saws q1) rfl rfl ⟨rfl, rfl⟩ ⟨Nat.le_of_ble_eq_true rfl, Nat.le_of_ble_eq_true rfl⟩ hcs rfl (Nat.le_of_ble_eq_true rfl) (fun iy0 => ?_)
  refine g_aload_n C dL_law_970 rfl ?_
  refine g_callV1 (As := []) C dL_law_971 mi_X12_saws ml_L_116 (ct_X12_saws q2) rfl rfl ⟨rfl, rfl⟩ ⟨Nat.le_of_ble_eq_true rfl, Nat.le_of_ble_eq_true rfl⟩ hcs rfl (Nat.le_of_ble_eq_true rfl) (fun iy1 => ?_)
  refine g_icmp_eq C dL_law_974 iy0 iy0 rfl (tgt := 1613) (fun _ => ?_) (fun c9 => absurd rfl c9)
  exact g_widen (by omega) (by omega) (kk σ2 hI2)
set_option maxRecDepth 100000 in
set_option maxHeartbeats 4000000 in
theorem lc_saw {z : Int} {j : Nat} {σ : St} (hPS : PS_saw Inv) (hSaw : SawRule w l) (htl : ∀ t ∈ lw_tbl, t.before #[Value.ref b] s = true) (hgv : (Jvm.Cond.and given_1 narrow_1).before #[Value.ref b] s = true) (hlk : meth.locks = false) (C : Cx w p s m #[Value.ref b] c (fun q => s.heap.size ≤ q) code RL 7) (hX : va_X b N xs s s.heap) (hbl : b < s.heap.size) (hz : 0 ≤ z ∧ z + 7 ≤ (N : Int)) (hN : N ≤ 3584) (hj : j ≤ 513) (hI : Inv σ)
    (kk : ∀ σ2, Inv σ2 → GL w p l e s m b below meth c (235 + (j + 1)) (54422 + 64 * (j + 1)) 1613 [some (.ref b), some (rv w 0), some (rv w 170), some (rv w 234), some (iv z), none, none] [] σ2) : GL w p l e s m b below meth c (235 + j) (54422 + 64 * j) 979 [some (.ref b), some (rv w 0), some (rv w 170), some (rv w 234), some (iv z), none, none] [] σ := by
  have hbA : ¬ (fun q : Nat => s.heap.size ≤ q) b := Nat.not_le.mpr hbl
  have hcs : 235 + j ≤ room_1.cells ∧ 54422 + 64 * j ≤ room_1.slots := ⟨by show _ ≤ 601024; omega, by show _ ≤ 7293034; omega⟩
  have b1 : InI (z + 1) ∧ (0 ≤ z + 1 ∧ z + 1 < (N : Int)) := ⟨⟨by omega, by omega⟩, by omega, by omega⟩
  have w1 : wr (z + 1) = z + 1 := wr_id b1.1
  refine g_ok (fun ho => ?_)
  obtain ⟨y1, y2, σ1, σ2, q1, hr01, q2, q3, q4, hI2⟩ := hPS σ (sv xs (z + 1)) ho hI (iI _)
  refine g_aload_n C dL_law_979 rfl ?_
  refine g_aload_nV C dL_law_980 rfl ?_
  refine g_iload C dL_law_981 rfl ?_
  refine g_iconst C dL_law_983 ?_
  refine g_iadd C dL_law_984 ?_
  refine g_E w1 ?_
  refine g_sld C dL_law_985 hX hbl hbA b1.1 b1.2 ?_
  refine g_aload_n C dL_law_986 rfl ?_
  refine hSaw _ _ _ _ _ _ _ _ _ _ _ _ _ _ _ _ C htl hgv hlk (iI _) q1 ⟨by omega, by omega⟩ (Nat.le_of_ble_eq_true rfl) ?_
  refine g_widen (c1 := 235 + (j + 1)) (s1 := 54422 + 64 * (j + 1)) (by omega) (by omega) ?_
  have hcs : 235 + (j + 1) ≤ room_1.cells ∧ 54422 + 64 * (j + 1) ≤ room_1.slots := ⟨by show _ ≤ 601024; omega, by show _ ≤ 7293034; omega⟩
  refine g_istore (L1 := [some (.ref b), some (rv w 0), some (rv w 170), some (rv w 234), some (iv z), some (iv y1), none]) C dL_law_990 rfl (Nat.le_of_ble_eq_true rfl) rfl ?_
  refine g_aload_n C dL_law_992 rfl ?_
  refine g_aload_nV C dL_law_993 rfl ?_
  refine g_iload C dL_law_994 rfl ?_
  refine g_iconst C dL_law_996 ?_
  refine g_iadd C dL_law_997 ?_
  refine g_E w1 ?_
  refine g_sld C dL_law_998 hX hbl hbA b1.1 b1.2 ?_
  refine g_callV1 (As := [iv (sv xs (z + 1))]) C dL_law_999 mi_X12_saw ml_L_122 (ct_X12_saw (iI _) q2) rfl rfl ⟨rfl, rfl⟩ ⟨Nat.le_of_ble_eq_true rfl, Nat.le_of_ble_eq_true rfl⟩ hcs rfl (Nat.le_of_ble_eq_true rfl) (fun iy1 => ?_)
  refine g_istore (L1 := [some (.ref b), some (rv w 0), some (rv w 170), some (rv w 234), some (iv z), some (iv y1), some (iv y2)]) C dL_law_1002 rfl (Nat.le_of_ble_eq_true rfl) rfl ?_
  refine g_aload_n C dL_law_1004 rfl ?_
  refine g_callV1 (As := []) C dL_law_1005 mi_X12_thrown ml_L_123 (ct_X12_thrown q3) rfl rfl ⟨rfl, rfl⟩ ⟨Nat.le_of_ble_eq_true rfl, Nat.le_of_ble_eq_true rfl⟩ hcs rfl (Nat.le_of_ble_eq_true rfl) (fun iy2 => ?_)
  refine g_iload C dL_law_1008 rfl ?_
  refine g_icmp_eq C dL_law_1010 (zI hr01) (zI hr01) rfl (tgt := 1015) (fun _ => ?_) (fun c9 => absurd rfl c9)
  refine g_iload C dL_law_1015 rfl ?_
  refine g_if_ne C dL_law_1017 (zI hr01) rfl (tgt := 1032) (fun _ => ?_) (fun c0 => ?_)
  · refine g_goto C dL_law_1032 rfl (tgt := 1613) ?_
    refine g_mask [true, true, true, true, true, false, false] ?_
    exact kk σ2 hI2
  refine g_aload_n C dL_law_1020 rfl ?_
  refine g_iconst C dL_law_1021 ?_
  have q5 : rd σ2 234 1 0 = some (σ2 234 0) := rfl
  refine g_lald C dL_law_1022 rfl rfl q5 (by decide) (fun i5 => ?_)
  refine g_iload C dL_law_1023 rfl ?_
  refine g_i2l C dL_law_1025 iy1 ?_
  refine g_lcmp C dL_law_1026 i5 (i2l iy1) ?_
  have q6 : lcI (σ2 234 0) y2 = 0 := by rw [q4 c0]; simp [lcI]
  refine g_if_eq C dL_law_1027 (ilcI _ _) rfl (tgt := 1032) (fun _ => ?_) (fun c9 => absurd q6 c9)
  refine g_goto C dL_law_1032 rfl (tgt := 1613) ?_
  refine g_mask [true, true, true, true, true, false, false] ?_
  exact kk σ2 hI2
set_option maxRecDepth 100000 in
set_option maxHeartbeats 4000000 in
theorem lc_falls {z : Int} {j : Nat} {σ : St} (hPS : PS_falls Inv) (C : Cx w p s m #[Value.ref b] c (fun q => s.heap.size ≤ q) code RL 7) (hX : va_X b N xs s s.heap) (hbl : b < s.heap.size) (hz : 0 ≤ z ∧ z + 7 ≤ (N : Int)) (hN : N ≤ 3584) (hj : j ≤ 513) (hI : Inv σ)
    (kk : ∀ σ2, Inv σ2 → GL w p l e s m b below meth c (235 + (j + 1)) (54422 + 64 * (j + 1)) 1613 [some (.ref b), some (rv w 0), some (rv w 170), some (rv w 234), some (iv z), none, none] [] σ2) : GL w p l e s m b below meth c (235 + j) (54422 + 64 * j) 1035 [some (.ref b), some (rv w 0), some (rv w 170), some (rv w 234), some (iv z), none, none] [] σ := by
  have hbA : ¬ (fun q : Nat => s.heap.size ≤ q) b := Nat.not_le.mpr hbl
  have hcs : 235 + j ≤ room_1.cells ∧ 54422 + 64 * j ≤ room_1.slots := ⟨by show _ ≤ 601024; omega, by show _ ≤ 7293034; omega⟩
  have b1 : InI (z + 1) ∧ (0 ≤ z + 1 ∧ z + 1 < (N : Int)) := ⟨⟨by omega, by omega⟩, by omega, by omega⟩
  have w1 : wr (z + 1) = z + 1 := wr_id b1.1
  refine g_ok (fun ho => ?_)
  obtain ⟨y, σ2, q1, q2, hI2⟩ := hPS σ (sv xs (z + 1)) ho hI (iI _)
  refine g_aload_n C dL_law_1035 rfl ?_
  refine g_aload_nV C dL_law_1036 rfl ?_
  refine g_iload C dL_law_1037 rfl ?_
  refine g_iconst C dL_law_1039 ?_
  refine g_iadd C dL_law_1040 ?_
  refine g_E w1 ?_
  refine g_sld C dL_law_1041 hX hbl hbA b1.1 b1.2 ?_
  refine g_callV1 (As := [iv (sv xs (z + 1))]) C dL_law_1042 mi_X11_falls ml_L_126 (ct_X11_falls (iI _) q1) rfl rfl ⟨rfl, rfl⟩ ⟨Nat.le_of_ble_eq_true rfl, Nat.le_of_ble_eq_true rfl⟩ hcs rfl (Nat.le_of_ble_eq_true rfl) (fun iy0 => ?_)
  refine g_aload_n C dL_law_1045 rfl ?_
  refine g_aload_nV C dL_law_1046 rfl ?_
  refine g_iload C dL_law_1047 rfl ?_
  refine g_iconst C dL_law_1049 ?_
  refine g_iadd C dL_law_1050 ?_
  refine g_E w1 ?_
  refine g_sld C dL_law_1051 hX hbl hbA b1.1 b1.2 ?_
  refine g_callV1 (As := [iv (sv xs (z + 1))]) C dL_law_1052 mi_X12_falls ml_L_129 (ct_X12_falls (iI _) q2) rfl rfl ⟨rfl, rfl⟩ ⟨Nat.le_of_ble_eq_true rfl, Nat.le_of_ble_eq_true rfl⟩ hcs rfl (Nat.le_of_ble_eq_true rfl) (fun iy1 => ?_)
  refine g_icmp_eq C dL_law_1055 iy0 iy0 rfl (tgt := 1613) (fun _ => ?_) (fun c9 => absurd rfl c9)
  exact g_widen (by omega) (by omega) (kk σ2 hI2)
set_option maxRecDepth 100000 in
set_option maxHeartbeats 4000000 in
theorem lc_fallen {z : Int} {j : Nat} {σ : St} (hPS : PS_fallen Inv) (C : Cx w p s m #[Value.ref b] c (fun q => s.heap.size ≤ q) code RL 7) (hX : va_X b N xs s s.heap) (hbl : b < s.heap.size) (hz : 0 ≤ z ∧ z + 7 ≤ (N : Int)) (hN : N ≤ 3584) (hj : j ≤ 513) (hI : Inv σ)
    (kk : ∀ σ2, Inv σ2 → GL w p l e s m b below meth c (235 + (j + 1)) (54422 + 64 * (j + 1)) 1613 [some (.ref b), some (rv w 0), some (rv w 170), some (rv w 234), some (iv z), none, none] [] σ2) : GL w p l e s m b below meth c (235 + j) (54422 + 64 * j) 1060 [some (.ref b), some (rv w 0), some (rv w 170), some (rv w 234), some (iv z), none, none] [] σ := by
  have hbA : ¬ (fun q : Nat => s.heap.size ≤ q) b := Nat.not_le.mpr hbl
  have hcs : 235 + j ≤ room_1.cells ∧ 54422 + 64 * j ≤ room_1.slots := ⟨by show _ ≤ 601024; omega, by show _ ≤ 7293034; omega⟩
  have b1 : InI (z + 1) ∧ (0 ≤ z + 1 ∧ z + 1 < (N : Int)) := ⟨⟨by omega, by omega⟩, by omega, by omega⟩
  have w1 : wr (z + 1) = z + 1 := wr_id b1.1
  refine g_ok (fun ho => ?_)
  obtain ⟨y, σ2, q1, q2, hI2⟩ := hPS σ (sv xs (z + 1)) ho hI (iI _)
  refine g_aload_n C dL_law_1060 rfl ?_
  refine g_aload_nV C dL_law_1061 rfl ?_
  refine g_iload C dL_law_1062 rfl ?_
  refine g_iconst C dL_law_1064 ?_
  refine g_iadd C dL_law_1065 ?_
  refine g_E w1 ?_
  refine g_sld C dL_law_1066 hX hbl hbA b1.1 b1.2 ?_
  refine g_callV1 (As := [iv (sv xs (z + 1))]) C dL_law_1067 mi_X11_fallen ml_L_130 (ct_X11_fallen (iI _) q1) rfl rfl ⟨rfl, rfl⟩ ⟨Nat.le_of_ble_eq_true rfl, Nat.le_of_ble_eq_true rfl⟩ hcs rfl (Nat.le_of_ble_eq_true rfl) (fun iy0 => ?_)
  refine g_aload_n C dL_law_1070 rfl ?_
  refine g_aload_nV C dL_law_1071 rfl ?_
  refine g_iload C dL_law_1072 rfl ?_
  refine g_iconst C dL_law_1074 ?_
  refine g_iadd C dL_law_1075 ?_
  refine g_E w1 ?_
  refine g_sld C dL_law_1076 hX hbl hbA b1.1 b1.2 ?_
  refine g_callV1 (As := [iv (sv xs (z + 1))]) C dL_law_1077 mi_X12_fallen ml_L_133 (ct_X12_fallen (iI _) q2) rfl rfl ⟨rfl, rfl⟩ ⟨Nat.le_of_ble_eq_true rfl, Nat.le_of_ble_eq_true rfl⟩ hcs rfl (Nat.le_of_ble_eq_true rfl) (fun iy1 => ?_)
  refine g_icmp_eq C dL_law_1080 iy0 iy0 rfl (tgt := 1613) (fun _ => ?_) (fun c9 => absurd rfl c9)
  exact g_widen (by omega) (by omega) (kk σ2 hI2)
set_option maxRecDepth 100000 in
set_option maxHeartbeats 4000000 in
theorem lc_struck {z : Int} {j : Nat} {σ : St} (hPS : PS_struck Inv) (C : Cx w p s m #[Value.ref b] c (fun q => s.heap.size ≤ q) code RL 7) (hX : va_X b N xs s s.heap) (hbl : b < s.heap.size) (hz : 0 ≤ z ∧ z + 7 ≤ (N : Int)) (hN : N ≤ 3584) (hj : j ≤ 513) (hI : Inv σ)
    (kk : ∀ σ2, Inv σ2 → GL w p l e s m b below meth c (235 + (j + 1)) (54422 + 64 * (j + 1)) 1613 [some (.ref b), some (rv w 0), some (rv w 170), some (rv w 234), some (iv z), none, none] [] σ2) : GL w p l e s m b below meth c (235 + j) (54422 + 64 * j) 1085 [some (.ref b), some (rv w 0), some (rv w 170), some (rv w 234), some (iv z), none, none] [] σ := by
  have hbA : ¬ (fun q : Nat => s.heap.size ≤ q) b := Nat.not_le.mpr hbl
  have hcs : 235 + j ≤ room_1.cells ∧ 54422 + 64 * j ≤ room_1.slots := ⟨by show _ ≤ 601024; omega, by show _ ≤ 7293034; omega⟩
  have b1 : InI (z + 1) ∧ (0 ≤ z + 1 ∧ z + 1 < (N : Int)) := ⟨⟨by omega, by omega⟩, by omega, by omega⟩
  have w1 : wr (z + 1) = z + 1 := wr_id b1.1
  have b2 : InI (z + 2) ∧ (0 ≤ z + 2 ∧ z + 2 < (N : Int)) := ⟨⟨by omega, by omega⟩, by omega, by omega⟩
  have w2 : wr (z + 2) = z + 2 := wr_id b2.1
  refine g_ok (fun ho => ?_)
  obtain ⟨y, σ1, σ2, q1, q2, hI2⟩ := hPS σ (sv xs (z + 1)) (sv xs (z + 2)) ho hI (iI _) (iI _)
  refine g_aload_n C dL_law_1085 rfl ?_
  refine g_aload_nV C dL_law_1086 rfl ?_
  refine g_iload C dL_law_1087 rfl ?_
  refine g_iconst C dL_law_1089 ?_
  refine g_iadd C dL_law_1090 ?_
  refine g_E w1 ?_
  refine g_sld C dL_law_1091 hX hbl hbA b1.1 b1.2 ?_
  refine g_aload_nV C dL_law_1092 rfl ?_
  refine g_iload C dL_law_1093 rfl ?_
  refine g_iconst C dL_law_1095 ?_
  refine g_iadd C dL_law_1096 ?_
  refine g_E w2 ?_
  refine g_sld C dL_law_1097 hX hbl hbA b2.1 b2.2 ?_
  refine g_callV1 (As := [iv (sv xs (z + 1)), iv (sv xs (z + 2))]) C dL_law_1098 mi_X11_struck ml_L_134 (ct_X11_struck (iI _) (iI _) q1) rfl rfl ⟨rfl, rfl⟩ ⟨Nat.le_of_ble_eq_true rfl, Nat.le_of_ble_eq_true rfl⟩ hcs rfl (Nat.le_of_ble_eq_true rfl) (fun iy0 => ?_)
  refine g_aload_n C dL_law_1101 rfl ?_
  refine g_aload_nV C dL_law_1102 rfl ?_
  refine g_iload C dL_law_1103 rfl ?_
  refine g_iconst C dL_law_1105 ?_
  refine g_iadd C dL_law_1106 ?_
  refine g_E w1 ?_
  refine g_sld C dL_law_1107 hX hbl hbA b1.1 b1.2 ?_
  refine g_aload_nV C dL_law_1108 rfl ?_
  refine g_iload C dL_law_1109 rfl ?_
  refine g_iconst C dL_law_1111 ?_
  refine g_iadd C dL_law_1112 ?_
  refine g_E w2 ?_
  refine g_sld C dL_law_1113 hX hbl hbA b2.1 b2.2 ?_
  refine g_callV1 (As := [iv (sv xs (z + 1)), iv (sv xs (z + 2))]) C dL_law_1114 mi_X12_struck ml_L_137 (ct_X12_struck (iI _) (iI _) q2) rfl rfl ⟨rfl, rfl⟩ ⟨Nat.le_of_ble_eq_true rfl, Nat.le_of_ble_eq_true rfl⟩ hcs rfl (Nat.le_of_ble_eq_true rfl) (fun iy1 => ?_)
  refine g_icmp_eq C dL_law_1117 iy0 iy0 rfl (tgt := 1613) (fun _ => ?_) (fun c9 => absurd rfl c9)
  exact g_widen (by omega) (by omega) (kk σ2 hI2)
set_option maxRecDepth 100000 in
set_option maxHeartbeats 4000000 in
theorem lc_canBe {z : Int} {j : Nat} {σ : St} (hPS : PS_canBe Inv) (C : Cx w p s m #[Value.ref b] c (fun q => s.heap.size ≤ q) code RL 7) (hX : va_X b N xs s s.heap) (hbl : b < s.heap.size) (hz : 0 ≤ z ∧ z + 7 ≤ (N : Int)) (hN : N ≤ 3584) (hj : j ≤ 513) (hI : Inv σ)
    (kk : ∀ σ2, Inv σ2 → GL w p l e s m b below meth c (235 + (j + 1)) (54422 + 64 * (j + 1)) 1613 [some (.ref b), some (rv w 0), some (rv w 170), some (rv w 234), some (iv z), none, none] [] σ2) : GL w p l e s m b below meth c (235 + j) (54422 + 64 * j) 1122 [some (.ref b), some (rv w 0), some (rv w 170), some (rv w 234), some (iv z), none, none] [] σ := by
  have hbA : ¬ (fun q : Nat => s.heap.size ≤ q) b := Nat.not_le.mpr hbl
  have hcs : 235 + j ≤ room_1.cells ∧ 54422 + 64 * j ≤ room_1.slots := ⟨by show _ ≤ 601024; omega, by show _ ≤ 7293034; omega⟩
  have b1 : InI (z + 1) ∧ (0 ≤ z + 1 ∧ z + 1 < (N : Int)) := ⟨⟨by omega, by omega⟩, by omega, by omega⟩
  have w1 : wr (z + 1) = z + 1 := wr_id b1.1
  have b2 : InI (z + 2) ∧ (0 ≤ z + 2 ∧ z + 2 < (N : Int)) := ⟨⟨by omega, by omega⟩, by omega, by omega⟩
  have w2 : wr (z + 2) = z + 2 := wr_id b2.1
  have b3 : InI (z + 3) ∧ (0 ≤ z + 3 ∧ z + 3 < (N : Int)) := ⟨⟨by omega, by omega⟩, by omega, by omega⟩
  have w3 : wr (z + 3) = z + 3 := wr_id b3.1
  have b4 : InI (z + 4) ∧ (0 ≤ z + 4 ∧ z + 4 < (N : Int)) := ⟨⟨by omega, by omega⟩, by omega, by omega⟩
  have w4 : wr (z + 4) = z + 4 := wr_id b4.1
  refine g_ok (fun ho => ?_)
  obtain ⟨y, σ1, σ2, q1, q2, hI2⟩ := hPS σ (sv xs (z + 1)) (sv xs (z + 2)) (sv xs (z + 3)) (sv xs (z + 4)) ho hI (iI _) (iI _) (iI _) (iI _)
  refine g_aload_n C dL_law_1122 rfl ?_
  refine g_aload_nV C dL_law_1123 rfl ?_
  refine g_iload C dL_law_1124 rfl ?_
  refine g_iconst C dL_law_1126 ?_
  refine g_iadd C dL_law_1127 ?_
  refine g_E w1 ?_
  refine g_sld C dL_law_1128 hX hbl hbA b1.1 b1.2 ?_
  refine g_aload_nV C dL_law_1129 rfl ?_
  refine g_iload C dL_law_1130 rfl ?_
  refine g_iconst C dL_law_1132 ?_
  refine g_iadd C dL_law_1133 ?_
  refine g_E w2 ?_
  refine g_sld C dL_law_1134 hX hbl hbA b2.1 b2.2 ?_
  refine g_aload_nV C dL_law_1135 rfl ?_
  refine g_iload C dL_law_1136 rfl ?_
  refine g_iconst C dL_law_1138 ?_
  refine g_iadd C dL_law_1139 ?_
  refine g_E w3 ?_
  refine g_sld C dL_law_1140 hX hbl hbA b3.1 b3.2 ?_
  refine g_aload_nV C dL_law_1141 rfl ?_
  refine g_iload C dL_law_1142 rfl ?_
  refine g_iconst C dL_law_1144 ?_
  refine g_iadd C dL_law_1145 ?_
  refine g_E w4 ?_
  refine g_sld C dL_law_1146 hX hbl hbA b4.1 b4.2 ?_
  refine g_callV1 (As := [iv (sv xs (z + 1)), iv (sv xs (z + 2)), iv (sv xs (z + 3)), iv (sv xs (z + 4))]) C dL_law_1147 mi_X11_canBe ml_L_138 (ct_X11_canBe (iI _) (iI _) (iI _) (iI _) q1) rfl rfl ⟨rfl, rfl⟩ ⟨Nat.le_of_ble_eq_true rfl, Nat.le_of_ble_eq_true rfl⟩ hcs rfl (Nat.le_of_ble_eq_true rfl) (fun iy0 => ?_)
  refine g_aload_n C dL_law_1150 rfl ?_
  refine g_aload_nV C dL_law_1151 rfl ?_
  refine g_iload C dL_law_1152 rfl ?_
  refine g_iconst C dL_law_1154 ?_
  refine g_iadd C dL_law_1155 ?_
  refine g_E w1 ?_
  refine g_sld C dL_law_1156 hX hbl hbA b1.1 b1.2 ?_
  refine g_aload_nV C dL_law_1157 rfl ?_
  refine g_iload C dL_law_1158 rfl ?_
  refine g_iconst C dL_law_1160 ?_
  refine g_iadd C dL_law_1161 ?_
  refine g_E w2 ?_
  refine g_sld C dL_law_1162 hX hbl hbA b2.1 b2.2 ?_
  refine g_aload_nV C dL_law_1163 rfl ?_
  refine g_iload C dL_law_1164 rfl ?_
  refine g_iconst C dL_law_1166 ?_
  refine g_iadd C dL_law_1167 ?_
  refine g_E w3 ?_
  refine g_sld C dL_law_1168 hX hbl hbA b3.1 b3.2 ?_
  refine g_aload_nV C dL_law_1169 rfl ?_
  refine g_iload C dL_law_1170 rfl ?_
  refine g_iconst C dL_law_1172 ?_
  refine g_iadd C dL_law_1173 ?_
  refine g_E w4 ?_
  refine g_sld C dL_law_1174 hX hbl hbA b4.1 b4.2 ?_
  refine g_callV1 (As := [iv (sv xs (z + 1)), iv (sv xs (z + 2)), iv (sv xs (z + 3)), iv (sv xs (z + 4))]) C dL_law_1175 mi_X12_canBe ml_L_141 (ct_X12_canBe (iI _) (iI _) (iI _) (iI _) q2) rfl rfl ⟨rfl, rfl⟩ ⟨Nat.le_of_ble_eq_true rfl, Nat.le_of_ble_eq_true rfl⟩ hcs rfl (Nat.le_of_ble_eq_true rfl) (fun iy1 => ?_)
  refine g_icmp_eq C dL_law_1178 iy0 iy0 rfl (tgt := 1613) (fun _ => ?_) (fun c9 => absurd rfl c9)
  exact g_widen (by omega) (by omega) (kk σ2 hI2)
set_option maxRecDepth 100000 in
set_option maxHeartbeats 4000000 in
theorem lc_fits {z : Int} {j : Nat} {σ : St} (hPS : PS_fits Inv) (C : Cx w p s m #[Value.ref b] c (fun q => s.heap.size ≤ q) code RL 7) (hX : va_X b N xs s s.heap) (hbl : b < s.heap.size) (hz : 0 ≤ z ∧ z + 7 ≤ (N : Int)) (hN : N ≤ 3584) (hj : j ≤ 513) (hI : Inv σ)
    (kk : ∀ σ2, Inv σ2 → GL w p l e s m b below meth c (235 + (j + 1)) (54422 + 64 * (j + 1)) 1613 [some (.ref b), some (rv w 0), some (rv w 170), some (rv w 234), some (iv z), none, none] [] σ2) : GL w p l e s m b below meth c (235 + j) (54422 + 64 * j) 1183 [some (.ref b), some (rv w 0), some (rv w 170), some (rv w 234), some (iv z), none, none] [] σ := by
  have hbA : ¬ (fun q : Nat => s.heap.size ≤ q) b := Nat.not_le.mpr hbl
  have hcs : 235 + j ≤ room_1.cells ∧ 54422 + 64 * j ≤ room_1.slots := ⟨by show _ ≤ 601024; omega, by show _ ≤ 7293034; omega⟩
  have b1 : InI (z + 1) ∧ (0 ≤ z + 1 ∧ z + 1 < (N : Int)) := ⟨⟨by omega, by omega⟩, by omega, by omega⟩
  have w1 : wr (z + 1) = z + 1 := wr_id b1.1
  have b2 : InI (z + 2) ∧ (0 ≤ z + 2 ∧ z + 2 < (N : Int)) := ⟨⟨by omega, by omega⟩, by omega, by omega⟩
  have w2 : wr (z + 2) = z + 2 := wr_id b2.1
  refine g_ok (fun ho => ?_)
  obtain ⟨y, σ1, σ2, q1, q2, hI2⟩ := hPS σ (sv xs (z + 1)) (sv xs (z + 2)) ho hI (iI _) (iI _)
  refine g_aload_n C dL_law_1183 rfl ?_
  refine g_aload_nV C dL_law_1184 rfl ?_
  refine g_iload C dL_law_1185 rfl ?_
  refine g_iconst C dL_law_1187 ?_
  refine g_iadd C dL_law_1188 ?_
  refine g_E w1 ?_
  refine g_sld C dL_law_1189 hX hbl hbA b1.1 b1.2 ?_
  refine g_aload_nV C dL_law_1190 rfl ?_
  refine g_iload C dL_law_1191 rfl ?_
  refine g_iconst C dL_law_1193 ?_
  refine g_iadd C dL_law_1194 ?_
  refine g_E w2 ?_
  refine g_sld C dL_law_1195 hX hbl hbA b2.1 b2.2 ?_
  refine g_callV1 (As := [iv (sv xs (z + 1)), iv (sv xs (z + 2))]) C dL_law_1196 mi_X11_fits ml_L_142 (ct_X11_fits (iI _) (iI _) q1) rfl rfl ⟨rfl, rfl⟩ ⟨Nat.le_of_ble_eq_true rfl, Nat.le_of_ble_eq_true rfl⟩ hcs rfl (Nat.le_of_ble_eq_true rfl) (fun iy0 => ?_)
  refine g_aload_n C dL_law_1199 rfl ?_
  refine g_aload_nV C dL_law_1200 rfl ?_
  refine g_iload C dL_law_1201 rfl ?_
  refine g_iconst C dL_law_1203 ?_
  refine g_iadd C dL_law_1204 ?_
  refine g_E w1 ?_
  refine g_sld C dL_law_1205 hX hbl hbA b1.1 b1.2 ?_
  refine g_aload_nV C dL_law_1206 rfl ?_
  refine g_iload C dL_law_1207 rfl ?_
  refine g_iconst C dL_law_1209 ?_
  refine g_iadd C dL_law_1210 ?_
  refine g_E w2 ?_
  refine g_sld C dL_law_1211 hX hbl hbA b2.1 b2.2 ?_
  refine g_callV1 (As := [iv (sv xs (z + 1)), iv (sv xs (z + 2))]) C dL_law_1212 mi_X12_fits ml_L_145 (ct_X12_fits (iI _) (iI _) q2) rfl rfl ⟨rfl, rfl⟩ ⟨Nat.le_of_ble_eq_true rfl, Nat.le_of_ble_eq_true rfl⟩ hcs rfl (Nat.le_of_ble_eq_true rfl) (fun iy1 => ?_)
  refine g_icmp_eq C dL_law_1215 iy0 iy0 rfl (tgt := 1613) (fun _ => ?_) (fun c9 => absurd rfl c9)
  exact g_widen (by omega) (by omega) (kk σ2 hI2)
set_option maxRecDepth 100000 in
set_option maxHeartbeats 4000000 in
theorem lc_could {z : Int} {j : Nat} {σ : St} (hPS : PS_could Inv) (C : Cx w p s m #[Value.ref b] c (fun q => s.heap.size ≤ q) code RL 7) (hX : va_X b N xs s s.heap) (hbl : b < s.heap.size) (hz : 0 ≤ z ∧ z + 7 ≤ (N : Int)) (hN : N ≤ 3584) (hj : j ≤ 513) (hI : Inv σ)
    (kk : ∀ σ2, Inv σ2 → GL w p l e s m b below meth c (235 + (j + 1)) (54422 + 64 * (j + 1)) 1613 [some (.ref b), some (rv w 0), some (rv w 170), some (rv w 234), some (iv z), none, none] [] σ2) : GL w p l e s m b below meth c (235 + j) (54422 + 64 * j) 1220 [some (.ref b), some (rv w 0), some (rv w 170), some (rv w 234), some (iv z), none, none] [] σ := by
  have hbA : ¬ (fun q : Nat => s.heap.size ≤ q) b := Nat.not_le.mpr hbl
  have hcs : 235 + j ≤ room_1.cells ∧ 54422 + 64 * j ≤ room_1.slots := ⟨by show _ ≤ 601024; omega, by show _ ≤ 7293034; omega⟩
  have b1 : InI (z + 1) ∧ (0 ≤ z + 1 ∧ z + 1 < (N : Int)) := ⟨⟨by omega, by omega⟩, by omega, by omega⟩
  have w1 : wr (z + 1) = z + 1 := wr_id b1.1
  have b2 : InI (z + 2) ∧ (0 ≤ z + 2 ∧ z + 2 < (N : Int)) := ⟨⟨by omega, by omega⟩, by omega, by omega⟩
  have w2 : wr (z + 2) = z + 2 := wr_id b2.1
  have b3 : InI (z + 3) ∧ (0 ≤ z + 3 ∧ z + 3 < (N : Int)) := ⟨⟨by omega, by omega⟩, by omega, by omega⟩
  have w3 : wr (z + 3) = z + 3 := wr_id b3.1
  have b4 : InI (z + 4) ∧ (0 ≤ z + 4 ∧ z + 4 < (N : Int)) := ⟨⟨by omega, by omega⟩, by omega, by omega⟩
  have w4 : wr (z + 4) = z + 4 := wr_id b4.1
  have b5 : InI (z + 5) ∧ (0 ≤ z + 5 ∧ z + 5 < (N : Int)) := ⟨⟨by omega, by omega⟩, by omega, by omega⟩
  have w5 : wr (z + 5) = z + 5 := wr_id b5.1
  refine g_ok (fun ho => ?_)
  by_cases hb0 : sv xs (z + 4) = 0
  · skip
    obtain ⟨y, σ1, σ2, q1, q2, hI2⟩ := hPS σ (sv xs (z + 1)) (sv xs (z + 2)) (sv xs (z + 3)) 0 (sv xs (z + 5)) ho hI (iI _) (iI _) (iI _) (Or.inl rfl) (iI _)
    refine g_aload_n C dL_law_1220 rfl ?_
    refine g_aload_nV C dL_law_1221 rfl ?_
    refine g_iload C dL_law_1222 rfl ?_
    refine g_iconst C dL_law_1224 ?_
    refine g_iadd C dL_law_1225 ?_
    refine g_E w1 ?_
    refine g_sld C dL_law_1226 hX hbl hbA b1.1 b1.2 ?_
    refine g_aload_nV C dL_law_1227 rfl ?_
    refine g_iload C dL_law_1228 rfl ?_
    refine g_iconst C dL_law_1230 ?_
    refine g_iadd C dL_law_1231 ?_
    refine g_E w2 ?_
    refine g_sld C dL_law_1232 hX hbl hbA b2.1 b2.2 ?_
    refine g_aload_nV C dL_law_1233 rfl ?_
    refine g_iload C dL_law_1234 rfl ?_
    refine g_iconst C dL_law_1236 ?_
    refine g_iadd C dL_law_1237 ?_
    refine g_E w3 ?_
    refine g_sld C dL_law_1238 hX hbl hbA b3.1 b3.2 ?_
    refine g_aload_nV C dL_law_1239 rfl ?_
    refine g_iload C dL_law_1240 rfl ?_
    refine g_iconst C dL_law_1242 ?_
    refine g_iadd C dL_law_1243 ?_
    refine g_E w4 ?_
    refine g_sld C dL_law_1244 hX hbl hbA b4.1 b4.2 ?_
    refine g_if_eq C dL_law_1245 (iI _) rfl (tgt := 1252) (fun _ => ?_) (fun c9 => absurd hb0 c9)
    refine g_iconst C dL_law_1252 ?_
    refine g_aload_nV C dL_law_1253 rfl ?_
    refine g_iload C dL_law_1254 rfl ?_
    refine g_iconst C dL_law_1256 ?_
    refine g_iadd C dL_law_1257 ?_
    refine g_E w5 ?_
    refine g_sld C dL_law_1258 hX hbl hbA b5.1 b5.2 ?_
    refine g_callV1 (As := [iv (sv xs (z + 1)), iv (sv xs (z + 2)), iv (sv xs (z + 3)), iv 0, iv (sv xs (z + 5))]) C dL_law_1259 mi_X11_could ml_L_146 (ct_X11_could (iI _) (iI _) (iI _) (Or.inl rfl) (iI _) q1) rfl rfl ⟨rfl, rfl⟩ ⟨Nat.le_of_ble_eq_true rfl, Nat.le_of_ble_eq_true rfl⟩ hcs rfl (Nat.le_of_ble_eq_true rfl) (fun iy0 => ?_)
    refine g_aload_n C dL_law_1262 rfl ?_
    refine g_aload_nV C dL_law_1263 rfl ?_
    refine g_iload C dL_law_1264 rfl ?_
    refine g_iconst C dL_law_1266 ?_
    refine g_iadd C dL_law_1267 ?_
    refine g_E w1 ?_
    refine g_sld C dL_law_1268 hX hbl hbA b1.1 b1.2 ?_
    refine g_aload_nV C dL_law_1269 rfl ?_
    refine g_iload C dL_law_1270 rfl ?_
    refine g_iconst C dL_law_1272 ?_
    refine g_iadd C dL_law_1273 ?_
    refine g_E w2 ?_
    refine g_sld C dL_law_1274 hX hbl hbA b2.1 b2.2 ?_
    refine g_aload_nV C dL_law_1275 rfl ?_
    refine g_iload C dL_law_1276 rfl ?_
    refine g_iconst C dL_law_1278 ?_
    refine g_iadd C dL_law_1279 ?_
    refine g_E w3 ?_
    refine g_sld C dL_law_1280 hX hbl hbA b3.1 b3.2 ?_
    refine g_aload_nV C dL_law_1281 rfl ?_
    refine g_iload C dL_law_1282 rfl ?_
    refine g_iconst C dL_law_1284 ?_
    refine g_iadd C dL_law_1285 ?_
    refine g_E w4 ?_
    refine g_sld C dL_law_1286 hX hbl hbA b4.1 b4.2 ?_
    refine g_if_eq C dL_law_1287 (iI _) rfl (tgt := 1294) (fun _ => ?_) (fun c9 => absurd hb0 c9)
    refine g_iconst C dL_law_1294 ?_
    refine g_aload_nV C dL_law_1295 rfl ?_
    refine g_iload C dL_law_1296 rfl ?_
    refine g_iconst C dL_law_1298 ?_
    refine g_iadd C dL_law_1299 ?_
    refine g_E w5 ?_
    refine g_sld C dL_law_1300 hX hbl hbA b5.1 b5.2 ?_
    refine g_callV1 (As := [iv (sv xs (z + 1)), iv (sv xs (z + 2)), iv (sv xs (z + 3)), iv 0, iv (sv xs (z + 5))]) C dL_law_1301 mi_X12_could ml_L_150 (ct_X12_could (iI _) (iI _) (iI _) (Or.inl rfl) (iI _) q2) rfl rfl ⟨rfl, rfl⟩ ⟨Nat.le_of_ble_eq_true rfl, Nat.le_of_ble_eq_true rfl⟩ hcs rfl (Nat.le_of_ble_eq_true rfl) (fun iy1 => ?_)
    refine g_icmp_eq C dL_law_1304 iy0 iy0 rfl (tgt := 1613) (fun _ => ?_) (fun c9 => absurd rfl c9)
    exact g_widen (by omega) (by omega) (kk σ2 hI2)
  · skip
    obtain ⟨y, σ1, σ2, q1, q2, hI2⟩ := hPS σ (sv xs (z + 1)) (sv xs (z + 2)) (sv xs (z + 3)) 1 (sv xs (z + 5)) ho hI (iI _) (iI _) (iI _) (Or.inr rfl) (iI _)
    refine g_aload_n C dL_law_1220 rfl ?_
    refine g_aload_nV C dL_law_1221 rfl ?_
    refine g_iload C dL_law_1222 rfl ?_
    refine g_iconst C dL_law_1224 ?_
    refine g_iadd C dL_law_1225 ?_
    refine g_E w1 ?_
    refine g_sld C dL_law_1226 hX hbl hbA b1.1 b1.2 ?_
    refine g_aload_nV C dL_law_1227 rfl ?_
    refine g_iload C dL_law_1228 rfl ?_
    refine g_iconst C dL_law_1230 ?_
    refine g_iadd C dL_law_1231 ?_
    refine g_E w2 ?_
    refine g_sld C dL_law_1232 hX hbl hbA b2.1 b2.2 ?_
    refine g_aload_nV C dL_law_1233 rfl ?_
    refine g_iload C dL_law_1234 rfl ?_
    refine g_iconst C dL_law_1236 ?_
    refine g_iadd C dL_law_1237 ?_
    refine g_E w3 ?_
    refine g_sld C dL_law_1238 hX hbl hbA b3.1 b3.2 ?_
    refine g_aload_nV C dL_law_1239 rfl ?_
    refine g_iload C dL_law_1240 rfl ?_
    refine g_iconst C dL_law_1242 ?_
    refine g_iadd C dL_law_1243 ?_
    refine g_E w4 ?_
    refine g_sld C dL_law_1244 hX hbl hbA b4.1 b4.2 ?_
    refine g_if_eq C dL_law_1245 (iI _) rfl (tgt := 1252) (fun c9 => absurd c9 hb0) (fun _ => ?_)
    refine g_iconst C dL_law_1248 ?_
    refine g_goto C dL_law_1249 rfl (tgt := 1253) ?_
    refine g_aload_nV C dL_law_1253 rfl ?_
    refine g_iload C dL_law_1254 rfl ?_
    refine g_iconst C dL_law_1256 ?_
    refine g_iadd C dL_law_1257 ?_
    refine g_E w5 ?_
    refine g_sld C dL_law_1258 hX hbl hbA b5.1 b5.2 ?_
    refine g_callV1 (As := [iv (sv xs (z + 1)), iv (sv xs (z + 2)), iv (sv xs (z + 3)), iv 1, iv (sv xs (z + 5))]) C dL_law_1259 mi_X11_could ml_L_146 (ct_X11_could (iI _) (iI _) (iI _) (Or.inr rfl) (iI _) q1) rfl rfl ⟨rfl, rfl⟩ ⟨Nat.le_of_ble_eq_true rfl, Nat.le_of_ble_eq_true rfl⟩ hcs rfl (Nat.le_of_ble_eq_true rfl) (fun iy0 => ?_)
    refine g_aload_n C dL_law_1262 rfl ?_
    refine g_aload_nV C dL_law_1263 rfl ?_
    refine g_iload C dL_law_1264 rfl ?_
    refine g_iconst C dL_law_1266 ?_
    refine g_iadd C dL_law_1267 ?_
    refine g_E w1 ?_
    refine g_sld C dL_law_1268 hX hbl hbA b1.1 b1.2 ?_
    refine g_aload_nV C dL_law_1269 rfl ?_
    refine g_iload C dL_law_1270 rfl ?_
    refine g_iconst C dL_law_1272 ?_
    refine g_iadd C dL_law_1273 ?_
    refine g_E w2 ?_
    refine g_sld C dL_law_1274 hX hbl hbA b2.1 b2.2 ?_
    refine g_aload_nV C dL_law_1275 rfl ?_
    refine g_iload C dL_law_1276 rfl ?_
    refine g_iconst C dL_law_1278 ?_
    refine g_iadd C dL_law_1279 ?_
    refine g_E w3 ?_
    refine g_sld C dL_law_1280 hX hbl hbA b3.1 b3.2 ?_
    refine g_aload_nV C dL_law_1281 rfl ?_
    refine g_iload C dL_law_1282 rfl ?_
    refine g_iconst C dL_law_1284 ?_
    refine g_iadd C dL_law_1285 ?_
    refine g_E w4 ?_
    refine g_sld C dL_law_1286 hX hbl hbA b4.1 b4.2 ?_
    refine g_if_eq C dL_law_1287 (iI _) rfl (tgt := 1294) (fun c9 => absurd c9 hb0) (fun _ => ?_)
    refine g_iconst C dL_law_1290 ?_
    refine g_goto C dL_law_1291 rfl (tgt := 1295) ?_
    refine g_aload_nV C dL_law_1295 rfl ?_
    refine g_iload C dL_law_1296 rfl ?_
    refine g_iconst C dL_law_1298 ?_
    refine g_iadd C dL_law_1299 ?_
    refine g_E w5 ?_
    refine g_sld C dL_law_1300 hX hbl hbA b5.1 b5.2 ?_
    refine g_callV1 (As := [iv (sv xs (z + 1)), iv (sv xs (z + 2)), iv (sv xs (z + 3)), iv 1, iv (sv xs (z + 5))]) C dL_law_1301 mi_X12_could ml_L_150 (ct_X12_could (iI _) (iI _) (iI _) (Or.inr rfl) (iI _) q2) rfl rfl ⟨rfl, rfl⟩ ⟨Nat.le_of_ble_eq_true rfl, Nat.le_of_ble_eq_true rfl⟩ hcs rfl (Nat.le_of_ble_eq_true rfl) (fun iy1 => ?_)
    refine g_icmp_eq C dL_law_1304 iy0 iy0 rfl (tgt := 1613) (fun _ => ?_) (fun c9 => absurd rfl c9)
    exact g_widen (by omega) (by omega) (kk σ2 hI2)
set_option maxRecDepth 100000 in
set_option maxHeartbeats 4000000 in
theorem lc_since {z : Int} {j : Nat} {σ : St} (hPS : PS_since Inv) (C : Cx w p s m #[Value.ref b] c (fun q => s.heap.size ≤ q) code RL 7) (hX : va_X b N xs s s.heap) (hbl : b < s.heap.size) (hz : 0 ≤ z ∧ z + 7 ≤ (N : Int)) (hN : N ≤ 3584) (hj : j ≤ 513) (hI : Inv σ)
    (kk : ∀ σ2, Inv σ2 → GL w p l e s m b below meth c (235 + (j + 1)) (54422 + 64 * (j + 1)) 1613 [some (.ref b), some (rv w 0), some (rv w 170), some (rv w 234), some (iv z), none, none] [] σ2) : GL w p l e s m b below meth c (235 + j) (54422 + 64 * j) 1309 [some (.ref b), some (rv w 0), some (rv w 170), some (rv w 234), some (iv z), none, none] [] σ := by
  have hbA : ¬ (fun q : Nat => s.heap.size ≤ q) b := Nat.not_le.mpr hbl
  have hcs : 235 + j ≤ room_1.cells ∧ 54422 + 64 * j ≤ room_1.slots := ⟨by show _ ≤ 601024; omega, by show _ ≤ 7293034; omega⟩
  have b1 : InI (z + 1) ∧ (0 ≤ z + 1 ∧ z + 1 < (N : Int)) := ⟨⟨by omega, by omega⟩, by omega, by omega⟩
  have w1 : wr (z + 1) = z + 1 := wr_id b1.1
  have b2 : InI (z + 2) ∧ (0 ≤ z + 2 ∧ z + 2 < (N : Int)) := ⟨⟨by omega, by omega⟩, by omega, by omega⟩
  have w2 : wr (z + 2) = z + 2 := wr_id b2.1
  have b3 : InI (z + 3) ∧ (0 ≤ z + 3 ∧ z + 3 < (N : Int)) := ⟨⟨by omega, by omega⟩, by omega, by omega⟩
  have w3 : wr (z + 3) = z + 3 := wr_id b3.1
  have b4 : InI (z + 4) ∧ (0 ≤ z + 4 ∧ z + 4 < (N : Int)) := ⟨⟨by omega, by omega⟩, by omega, by omega⟩
  have w4 : wr (z + 4) = z + 4 := wr_id b4.1
  have b5 : InI (z + 5) ∧ (0 ≤ z + 5 ∧ z + 5 < (N : Int)) := ⟨⟨by omega, by omega⟩, by omega, by omega⟩
  have w5 : wr (z + 5) = z + 5 := wr_id b5.1
  refine g_ok (fun ho => ?_)
  by_cases hb0 : sv xs (z + 4) = 0
  · skip
    obtain ⟨y, σ1, σ2, q1, q2, hI2⟩ := hPS σ (sv xs (z + 1)) (sv xs (z + 2)) (sv xs (z + 3)) 0 (sv xs (z + 5)) ho hI (iI _) (iI _) (iI _) (Or.inl rfl) (iI _)
    refine g_aload_n C dL_law_1309 rfl ?_
    refine g_aload_nV C dL_law_1310 rfl ?_
    refine g_iload C dL_law_1311 rfl ?_
    refine g_iconst C dL_law_1313 ?_
    refine g_iadd C dL_law_1314 ?_
    refine g_E w1 ?_
    refine g_sld C dL_law_1315 hX hbl hbA b1.1 b1.2 ?_
    refine g_aload_nV C dL_law_1316 rfl ?_
    refine g_iload C dL_law_1317 rfl ?_
    refine g_iconst C dL_law_1319 ?_
    refine g_iadd C dL_law_1320 ?_
    refine g_E w2 ?_
    refine g_sld C dL_law_1321 hX hbl hbA b2.1 b2.2 ?_
    refine g_aload_nV C dL_law_1322 rfl ?_
    refine g_iload C dL_law_1323 rfl ?_
    refine g_iconst C dL_law_1325 ?_
    refine g_iadd C dL_law_1326 ?_
    refine g_E w3 ?_
    refine g_sld C dL_law_1327 hX hbl hbA b3.1 b3.2 ?_
    refine g_aload_nV C dL_law_1328 rfl ?_
    refine g_iload C dL_law_1329 rfl ?_
    refine g_iconst C dL_law_1331 ?_
    refine g_iadd C dL_law_1332 ?_
    refine g_E w4 ?_
    refine g_sld C dL_law_1333 hX hbl hbA b4.1 b4.2 ?_
    refine g_if_eq C dL_law_1334 (iI _) rfl (tgt := 1341) (fun _ => ?_) (fun c9 => absurd hb0 c9)
    refine g_iconst C dL_law_1341 ?_
    refine g_aload_nV C dL_law_1342 rfl ?_
    refine g_iload C dL_law_1343 rfl ?_
    refine g_iconst C dL_law_1345 ?_
    refine g_iadd C dL_law_1346 ?_
    refine g_E w5 ?_
    refine g_sld C dL_law_1347 hX hbl hbA b5.1 b5.2 ?_
    refine g_callV1 (As := [iv (sv xs (z + 1)), iv (sv xs (z + 2)), iv (sv xs (z + 3)), iv 0, iv (sv xs (z + 5))]) C dL_law_1348 mi_X11_since ml_L_151 (ct_X11_since (iI _) (iI _) (iI _) (Or.inl rfl) (iI _) q1) rfl rfl ⟨rfl, rfl⟩ ⟨Nat.le_of_ble_eq_true rfl, Nat.le_of_ble_eq_true rfl⟩ hcs rfl (Nat.le_of_ble_eq_true rfl) (fun iy0 => ?_)
    refine g_aload_n C dL_law_1351 rfl ?_
    refine g_aload_nV C dL_law_1352 rfl ?_
    refine g_iload C dL_law_1353 rfl ?_
    refine g_iconst C dL_law_1355 ?_
    refine g_iadd C dL_law_1356 ?_
    refine g_E w1 ?_
    refine g_sld C dL_law_1357 hX hbl hbA b1.1 b1.2 ?_
    refine g_aload_nV C dL_law_1358 rfl ?_
    refine g_iload C dL_law_1359 rfl ?_
    refine g_iconst C dL_law_1361 ?_
    refine g_iadd C dL_law_1362 ?_
    refine g_E w2 ?_
    refine g_sld C dL_law_1363 hX hbl hbA b2.1 b2.2 ?_
    refine g_aload_nV C dL_law_1364 rfl ?_
    refine g_iload C dL_law_1365 rfl ?_
    refine g_iconst C dL_law_1367 ?_
    refine g_iadd C dL_law_1368 ?_
    refine g_E w3 ?_
    refine g_sld C dL_law_1369 hX hbl hbA b3.1 b3.2 ?_
    refine g_aload_nV C dL_law_1370 rfl ?_
    refine g_iload C dL_law_1371 rfl ?_
    refine g_iconst C dL_law_1373 ?_
    refine g_iadd C dL_law_1374 ?_
    refine g_E w4 ?_
    refine g_sld C dL_law_1375 hX hbl hbA b4.1 b4.2 ?_
    refine g_if_eq C dL_law_1376 (iI _) rfl (tgt := 1383) (fun _ => ?_) (fun c9 => absurd hb0 c9)
    refine g_iconst C dL_law_1383 ?_
    refine g_aload_nV C dL_law_1384 rfl ?_
    refine g_iload C dL_law_1385 rfl ?_
    refine g_iconst C dL_law_1387 ?_
    refine g_iadd C dL_law_1388 ?_
    refine g_E w5 ?_
    refine g_sld C dL_law_1389 hX hbl hbA b5.1 b5.2 ?_
    refine g_callV1 (As := [iv (sv xs (z + 1)), iv (sv xs (z + 2)), iv (sv xs (z + 3)), iv 0, iv (sv xs (z + 5))]) C dL_law_1390 mi_X12_since ml_L_154 (ct_X12_since (iI _) (iI _) (iI _) (Or.inl rfl) (iI _) q2) rfl rfl ⟨rfl, rfl⟩ ⟨Nat.le_of_ble_eq_true rfl, Nat.le_of_ble_eq_true rfl⟩ hcs rfl (Nat.le_of_ble_eq_true rfl) (fun iy1 => ?_)
    refine g_icmp_eq C dL_law_1393 iy0 iy0 rfl (tgt := 1613) (fun _ => ?_) (fun c9 => absurd rfl c9)
    exact g_widen (by omega) (by omega) (kk σ2 hI2)
  · skip
    obtain ⟨y, σ1, σ2, q1, q2, hI2⟩ := hPS σ (sv xs (z + 1)) (sv xs (z + 2)) (sv xs (z + 3)) 1 (sv xs (z + 5)) ho hI (iI _) (iI _) (iI _) (Or.inr rfl) (iI _)
    refine g_aload_n C dL_law_1309 rfl ?_
    refine g_aload_nV C dL_law_1310 rfl ?_
    refine g_iload C dL_law_1311 rfl ?_
    refine g_iconst C dL_law_1313 ?_
    refine g_iadd C dL_law_1314 ?_
    refine g_E w1 ?_
    refine g_sld C dL_law_1315 hX hbl hbA b1.1 b1.2 ?_
    refine g_aload_nV C dL_law_1316 rfl ?_
    refine g_iload C dL_law_1317 rfl ?_
    refine g_iconst C dL_law_1319 ?_
    refine g_iadd C dL_law_1320 ?_
    refine g_E w2 ?_
    refine g_sld C dL_law_1321 hX hbl hbA b2.1 b2.2 ?_
    refine g_aload_nV C dL_law_1322 rfl ?_
    refine g_iload C dL_law_1323 rfl ?_
    refine g_iconst C dL_law_1325 ?_
    refine g_iadd C dL_law_1326 ?_
    refine g_E w3 ?_
    refine g_sld C dL_law_1327 hX hbl hbA b3.1 b3.2 ?_
    refine g_aload_nV C dL_law_1328 rfl ?_
    refine g_iload C dL_law_1329 rfl ?_
    refine g_iconst C dL_law_1331 ?_
    refine g_iadd C dL_law_1332 ?_
    refine g_E w4 ?_
    refine g_sld C dL_law_1333 hX hbl hbA b4.1 b4.2 ?_
    refine g_if_eq C dL_law_1334 (iI _) rfl (tgt := 1341) (fun c9 => absurd c9 hb0) (fun _ => ?_)
    refine g_iconst C dL_law_1337 ?_
    refine g_goto C dL_law_1338 rfl (tgt := 1342) ?_
    refine g_aload_nV C dL_law_1342 rfl ?_
    refine g_iload C dL_law_1343 rfl ?_
    refine g_iconst C dL_law_1345 ?_
    refine g_iadd C dL_law_1346 ?_
    refine g_E w5 ?_
    refine g_sld C dL_law_1347 hX hbl hbA b5.1 b5.2 ?_
    refine g_callV1 (As := [iv (sv xs (z + 1)), iv (sv xs (z + 2)), iv (sv xs (z + 3)), iv 1, iv (sv xs (z + 5))]) C dL_law_1348 mi_X11_since ml_L_151 (ct_X11_since (iI _) (iI _) (iI _) (Or.inr rfl) (iI _) q1) rfl rfl ⟨rfl, rfl⟩ ⟨Nat.le_of_ble_eq_true rfl, Nat.le_of_ble_eq_true rfl⟩ hcs rfl (Nat.le_of_ble_eq_true rfl) (fun iy0 => ?_)
    refine g_aload_n C dL_law_1351 rfl ?_
    refine g_aload_nV C dL_law_1352 rfl ?_
    refine g_iload C dL_law_1353 rfl ?_
    refine g_iconst C dL_law_1355 ?_
    refine g_iadd C dL_law_1356 ?_
    refine g_E w1 ?_
    refine g_sld C dL_law_1357 hX hbl hbA b1.1 b1.2 ?_
    refine g_aload_nV C dL_law_1358 rfl ?_
    refine g_iload C dL_law_1359 rfl ?_
    refine g_iconst C dL_law_1361 ?_
    refine g_iadd C dL_law_1362 ?_
    refine g_E w2 ?_
    refine g_sld C dL_law_1363 hX hbl hbA b2.1 b2.2 ?_
    refine g_aload_nV C dL_law_1364 rfl ?_
    refine g_iload C dL_law_1365 rfl ?_
    refine g_iconst C dL_law_1367 ?_
    refine g_iadd C dL_law_1368 ?_
    refine g_E w3 ?_
    refine g_sld C dL_law_1369 hX hbl hbA b3.1 b3.2 ?_
    refine g_aload_nV C dL_law_1370 rfl ?_
    refine g_iload C dL_law_1371 rfl ?_
    refine g_iconst C dL_law_1373 ?_
    refine g_iadd C dL_law_1374 ?_
    refine g_E w4 ?_
    refine g_sld C dL_law_1375 hX hbl hbA b4.1 b4.2 ?_
    refine g_if_eq C dL_law_1376 (iI _) rfl (tgt := 1383) (fun c9 => absurd c9 hb0) (fun _ => ?_)
    refine g_iconst C dL_law_1379 ?_
    refine g_goto C dL_law_1380 rfl (tgt := 1384) ?_
    refine g_aload_nV C dL_law_1384 rfl ?_
    refine g_iload C dL_law_1385 rfl ?_
    refine g_iconst C dL_law_1387 ?_
    refine g_iadd C dL_law_1388 ?_
    refine g_E w5 ?_
    refine g_sld C dL_law_1389 hX hbl hbA b5.1 b5.2 ?_
    refine g_callV1 (As := [iv (sv xs (z + 1)), iv (sv xs (z + 2)), iv (sv xs (z + 3)), iv 1, iv (sv xs (z + 5))]) C dL_law_1390 mi_X12_since ml_L_154 (ct_X12_since (iI _) (iI _) (iI _) (Or.inr rfl) (iI _) q2) rfl rfl ⟨rfl, rfl⟩ ⟨Nat.le_of_ble_eq_true rfl, Nat.le_of_ble_eq_true rfl⟩ hcs rfl (Nat.le_of_ble_eq_true rfl) (fun iy1 => ?_)
    refine g_icmp_eq C dL_law_1393 iy0 iy0 rfl (tgt := 1613) (fun _ => ?_) (fun c9 => absurd rfl c9)
    exact g_widen (by omega) (by omega) (kk σ2 hI2)
set_option maxRecDepth 100000 in
set_option maxHeartbeats 4000000 in
theorem lc_touched {z : Int} {j : Nat} {σ : St} (hPS : PS_touched Inv) (C : Cx w p s m #[Value.ref b] c (fun q => s.heap.size ≤ q) code RL 7) (hX : va_X b N xs s s.heap) (hbl : b < s.heap.size) (hz : 0 ≤ z ∧ z + 7 ≤ (N : Int)) (hN : N ≤ 3584) (hj : j ≤ 513) (hI : Inv σ)
    (kk : ∀ σ2, Inv σ2 → GL w p l e s m b below meth c (235 + (j + 1)) (54422 + 64 * (j + 1)) 1613 [some (.ref b), some (rv w 0), some (rv w 170), some (rv w 234), some (iv z), none, none] [] σ2) : GL w p l e s m b below meth c (235 + j) (54422 + 64 * j) 1398 [some (.ref b), some (rv w 0), some (rv w 170), some (rv w 234), some (iv z), none, none] [] σ := by
  have hbA : ¬ (fun q : Nat => s.heap.size ≤ q) b := Nat.not_le.mpr hbl
  have hcs : 235 + j ≤ room_1.cells ∧ 54422 + 64 * j ≤ room_1.slots := ⟨by show _ ≤ 601024; omega, by show _ ≤ 7293034; omega⟩
  have b1 : InI (z + 1) ∧ (0 ≤ z + 1 ∧ z + 1 < (N : Int)) := ⟨⟨by omega, by omega⟩, by omega, by omega⟩
  have w1 : wr (z + 1) = z + 1 := wr_id b1.1
  have b2 : InI (z + 2) ∧ (0 ≤ z + 2 ∧ z + 2 < (N : Int)) := ⟨⟨by omega, by omega⟩, by omega, by omega⟩
  have w2 : wr (z + 2) = z + 2 := wr_id b2.1
  refine g_ok (fun ho => ?_)
  obtain ⟨y, σ1, σ2, q1, q2, hI2⟩ := hPS σ (sv xs (z + 1)) (sv xs (z + 2)) ho hI (iI _) (iI _)
  refine g_aload_n C dL_law_1398 rfl ?_
  refine g_aload_nV C dL_law_1399 rfl ?_
  refine g_iload C dL_law_1400 rfl ?_
  refine g_iconst C dL_law_1402 ?_
  refine g_iadd C dL_law_1403 ?_
  refine g_E w1 ?_
  refine g_sld C dL_law_1404 hX hbl hbA b1.1 b1.2 ?_
  refine g_aload_nV C dL_law_1405 rfl ?_
  refine g_iload C dL_law_1406 rfl ?_
  refine g_iconst C dL_law_1408 ?_
  refine g_iadd C dL_law_1409 ?_
  refine g_E w2 ?_
  refine g_sld C dL_law_1410 hX hbl hbA b2.1 b2.2 ?_
  refine g_callV1 (As := [iv (sv xs (z + 1)), iv (sv xs (z + 2))]) C dL_law_1411 mi_X11_touched ml_L_155 (ct_X11_touched (iI _) (iI _) q1) rfl rfl ⟨rfl, rfl⟩ ⟨Nat.le_of_ble_eq_true rfl, Nat.le_of_ble_eq_true rfl⟩ hcs rfl (Nat.le_of_ble_eq_true rfl) (fun iy0 => ?_)
  refine g_aload_n C dL_law_1414 rfl ?_
  refine g_aload_nV C dL_law_1415 rfl ?_
  refine g_iload C dL_law_1416 rfl ?_
  refine g_iconst C dL_law_1418 ?_
  refine g_iadd C dL_law_1419 ?_
  refine g_E w1 ?_
  refine g_sld C dL_law_1420 hX hbl hbA b1.1 b1.2 ?_
  refine g_aload_nV C dL_law_1421 rfl ?_
  refine g_iload C dL_law_1422 rfl ?_
  refine g_iconst C dL_law_1424 ?_
  refine g_iadd C dL_law_1425 ?_
  refine g_E w2 ?_
  refine g_sld C dL_law_1426 hX hbl hbA b2.1 b2.2 ?_
  refine g_callV1 (As := [iv (sv xs (z + 1)), iv (sv xs (z + 2))]) C dL_law_1427 mi_X12_touched ml_L_158 (ct_X12_touched (iI _) (iI _) q2) rfl rfl ⟨rfl, rfl⟩ ⟨Nat.le_of_ble_eq_true rfl, Nat.le_of_ble_eq_true rfl⟩ hcs rfl (Nat.le_of_ble_eq_true rfl) (fun iy1 => ?_)
  refine g_icmp_eq C dL_law_1430 iy0 iy0 rfl (tgt := 1613) (fun _ => ?_) (fun c9 => absurd rfl c9)
  exact g_widen (by omega) (by omega) (kk σ2 hI2)
set_option maxRecDepth 100000 in
set_option maxHeartbeats 4000000 in
theorem lc_fed {z : Int} {j : Nat} {σ : St} (hPS : PS_fed Inv) (C : Cx w p s m #[Value.ref b] c (fun q => s.heap.size ≤ q) code RL 7) (hX : va_X b N xs s s.heap) (hbl : b < s.heap.size) (hz : 0 ≤ z ∧ z + 7 ≤ (N : Int)) (hN : N ≤ 3584) (hj : j ≤ 513) (hI : Inv σ)
    (kk : ∀ σ2, Inv σ2 → GL w p l e s m b below meth c (235 + (j + 1)) (54422 + 64 * (j + 1)) 1613 [some (.ref b), some (rv w 0), some (rv w 170), some (rv w 234), some (iv z), none, none] [] σ2) : GL w p l e s m b below meth c (235 + j) (54422 + 64 * j) 1435 [some (.ref b), some (rv w 0), some (rv w 170), some (rv w 234), some (iv z), none, none] [] σ := by
  have hbA : ¬ (fun q : Nat => s.heap.size ≤ q) b := Nat.not_le.mpr hbl
  have hcs : 235 + j ≤ room_1.cells ∧ 54422 + 64 * j ≤ room_1.slots := ⟨by show _ ≤ 601024; omega, by show _ ≤ 7293034; omega⟩
  have b1 : InI (z + 1) ∧ (0 ≤ z + 1 ∧ z + 1 < (N : Int)) := ⟨⟨by omega, by omega⟩, by omega, by omega⟩
  have w1 : wr (z + 1) = z + 1 := wr_id b1.1
  have b2 : InI (z + 2) ∧ (0 ≤ z + 2 ∧ z + 2 < (N : Int)) := ⟨⟨by omega, by omega⟩, by omega, by omega⟩
  have w2 : wr (z + 2) = z + 2 := wr_id b2.1
  have b3 : InI (z + 3) ∧ (0 ≤ z + 3 ∧ z + 3 < (N : Int)) := ⟨⟨by omega, by omega⟩, by omega, by omega⟩
  have w3 : wr (z + 3) = z + 3 := wr_id b3.1
  have b4 : InI (z + 4) ∧ (0 ≤ z + 4 ∧ z + 4 < (N : Int)) := ⟨⟨by omega, by omega⟩, by omega, by omega⟩
  have w4 : wr (z + 4) = z + 4 := wr_id b4.1
  have b5 : InI (z + 5) ∧ (0 ≤ z + 5 ∧ z + 5 < (N : Int)) := ⟨⟨by omega, by omega⟩, by omega, by omega⟩
  have w5 : wr (z + 5) = z + 5 := wr_id b5.1
  have b6 : InI (z + 6) ∧ (0 ≤ z + 6 ∧ z + 6 < (N : Int)) := ⟨⟨by omega, by omega⟩, by omega, by omega⟩
  have w6 : wr (z + 6) = z + 6 := wr_id b6.1
  refine g_ok (fun ho => ?_)
  by_cases hb0 : sv xs (z + 5) = 0
  · skip
    obtain ⟨y, σ1, σ2, q1, q2, hI2⟩ := hPS σ (sv xs (z + 1)) (sv xs (z + 2)) (sv xs (z + 3)) (sv xs (z + 4)) 0 (sv xs (z + 6)) ho hI (iI _) (iI _) (iI _) (iI _) (Or.inl rfl) (iI _)
    refine g_aload_n C dL_law_1435 rfl ?_
    refine g_aload_nV C dL_law_1436 rfl ?_
    refine g_iload C dL_law_1437 rfl ?_
    refine g_iconst C dL_law_1439 ?_
    refine g_iadd C dL_law_1440 ?_
    refine g_E w1 ?_
    refine g_sld C dL_law_1441 hX hbl hbA b1.1 b1.2 ?_
    refine g_aload_nV C dL_law_1442 rfl ?_
    refine g_iload C dL_law_1443 rfl ?_
    refine g_iconst C dL_law_1445 ?_
    refine g_iadd C dL_law_1446 ?_
    refine g_E w2 ?_
    refine g_sld C dL_law_1447 hX hbl hbA b2.1 b2.2 ?_
    refine g_aload_nV C dL_law_1448 rfl ?_
    refine g_iload C dL_law_1449 rfl ?_
    refine g_iconst C dL_law_1451 ?_
    refine g_iadd C dL_law_1452 ?_
    refine g_E w3 ?_
    refine g_sld C dL_law_1453 hX hbl hbA b3.1 b3.2 ?_
    refine g_aload_nV C dL_law_1454 rfl ?_
    refine g_iload C dL_law_1455 rfl ?_
    refine g_iconst C dL_law_1457 ?_
    refine g_iadd C dL_law_1458 ?_
    refine g_E w4 ?_
    refine g_sld C dL_law_1459 hX hbl hbA b4.1 b4.2 ?_
    refine g_aload_nV C dL_law_1460 rfl ?_
    refine g_iload C dL_law_1461 rfl ?_
    refine g_iconst C dL_law_1463 ?_
    refine g_iadd C dL_law_1464 ?_
    refine g_E w5 ?_
    refine g_sld C dL_law_1465 hX hbl hbA b5.1 b5.2 ?_
    refine g_if_eq C dL_law_1466 (iI _) rfl (tgt := 1473) (fun _ => ?_) (fun c9 => absurd hb0 c9)
    refine g_iconst C dL_law_1473 ?_
    refine g_aload_nV C dL_law_1474 rfl ?_
    refine g_iload C dL_law_1475 rfl ?_
    refine g_bipush C dL_law_1477 rfl ?_
    refine g_iadd C dL_law_1479 ?_
    refine g_E w6 ?_
    refine g_sld C dL_law_1480 hX hbl hbA b6.1 b6.2 ?_
    refine g_callV1 (As := [iv (sv xs (z + 1)), iv (sv xs (z + 2)), iv (sv xs (z + 3)), iv (sv xs (z + 4)), iv 0, iv (sv xs (z + 6))]) C dL_law_1481 mi_X11_fed ml_L_159 (ct_X11_fed (iI _) (iI _) (iI _) (iI _) (Or.inl rfl) (iI _) q1) rfl rfl ⟨rfl, rfl⟩ ⟨Nat.le_of_ble_eq_true rfl, Nat.le_of_ble_eq_true rfl⟩ hcs rfl (Nat.le_of_ble_eq_true rfl) (fun iy0 => ?_)
    refine g_aload_n C dL_law_1484 rfl ?_
    refine g_aload_nV C dL_law_1485 rfl ?_
    refine g_iload C dL_law_1486 rfl ?_
    refine g_iconst C dL_law_1488 ?_
    refine g_iadd C dL_law_1489 ?_
    refine g_E w1 ?_
    refine g_sld C dL_law_1490 hX hbl hbA b1.1 b1.2 ?_
    refine g_aload_nV C dL_law_1491 rfl ?_
    refine g_iload C dL_law_1492 rfl ?_
    refine g_iconst C dL_law_1494 ?_
    refine g_iadd C dL_law_1495 ?_
    refine g_E w2 ?_
    refine g_sld C dL_law_1496 hX hbl hbA b2.1 b2.2 ?_
    refine g_aload_nV C dL_law_1497 rfl ?_
    refine g_iload C dL_law_1498 rfl ?_
    refine g_iconst C dL_law_1500 ?_
    refine g_iadd C dL_law_1501 ?_
    refine g_E w3 ?_
    refine g_sld C dL_law_1502 hX hbl hbA b3.1 b3.2 ?_
    refine g_aload_nV C dL_law_1503 rfl ?_
    refine g_iload C dL_law_1504 rfl ?_
    refine g_iconst C dL_law_1506 ?_
    refine g_iadd C dL_law_1507 ?_
    refine g_E w4 ?_
    refine g_sld C dL_law_1508 hX hbl hbA b4.1 b4.2 ?_
    refine g_aload_nV C dL_law_1509 rfl ?_
    refine g_iload C dL_law_1510 rfl ?_
    refine g_iconst C dL_law_1512 ?_
    refine g_iadd C dL_law_1513 ?_
    refine g_E w5 ?_
    refine g_sld C dL_law_1514 hX hbl hbA b5.1 b5.2 ?_
    refine g_if_eq C dL_law_1515 (iI _) rfl (tgt := 1522) (fun _ => ?_) (fun c9 => absurd hb0 c9)
    refine g_iconst C dL_law_1522 ?_
    refine g_aload_nV C dL_law_1523 rfl ?_
    refine g_iload C dL_law_1524 rfl ?_
    refine g_bipush C dL_law_1526 rfl ?_
    refine g_iadd C dL_law_1528 ?_
    refine g_E w6 ?_
    refine g_sld C dL_law_1529 hX hbl hbA b6.1 b6.2 ?_
    refine g_callV1 (As := [iv (sv xs (z + 1)), iv (sv xs (z + 2)), iv (sv xs (z + 3)), iv (sv xs (z + 4)), iv 0, iv (sv xs (z + 6))]) C dL_law_1530 mi_X12_fed ml_L_163 (ct_X12_fed (iI _) (iI _) (iI _) (iI _) (Or.inl rfl) (iI _) q2) rfl rfl ⟨rfl, rfl⟩ ⟨Nat.le_of_ble_eq_true rfl, Nat.le_of_ble_eq_true rfl⟩ hcs rfl (Nat.le_of_ble_eq_true rfl) (fun iy1 => ?_)
    refine g_icmp_eq C dL_law_1533 iy0 iy0 rfl (tgt := 1613) (fun _ => ?_) (fun c9 => absurd rfl c9)
    exact g_widen (by omega) (by omega) (kk σ2 hI2)
  · skip
    obtain ⟨y, σ1, σ2, q1, q2, hI2⟩ := hPS σ (sv xs (z + 1)) (sv xs (z + 2)) (sv xs (z + 3)) (sv xs (z + 4)) 1 (sv xs (z + 6)) ho hI (iI _) (iI _) (iI _) (iI _) (Or.inr rfl) (iI _)
    refine g_aload_n C dL_law_1435 rfl ?_
    refine g_aload_nV C dL_law_1436 rfl ?_
    refine g_iload C dL_law_1437 rfl ?_
    refine g_iconst C dL_law_1439 ?_
    refine g_iadd C dL_law_1440 ?_
    refine g_E w1 ?_
    refine g_sld C dL_law_1441 hX hbl hbA b1.1 b1.2 ?_
    refine g_aload_nV C dL_law_1442 rfl ?_
    refine g_iload C dL_law_1443 rfl ?_
    refine g_iconst C dL_law_1445 ?_
    refine g_iadd C dL_law_1446 ?_
    refine g_E w2 ?_
    refine g_sld C dL_law_1447 hX hbl hbA b2.1 b2.2 ?_
    refine g_aload_nV C dL_law_1448 rfl ?_
    refine g_iload C dL_law_1449 rfl ?_
    refine g_iconst C dL_law_1451 ?_
    refine g_iadd C dL_law_1452 ?_
    refine g_E w3 ?_
    refine g_sld C dL_law_1453 hX hbl hbA b3.1 b3.2 ?_
    refine g_aload_nV C dL_law_1454 rfl ?_
    refine g_iload C dL_law_1455 rfl ?_
    refine g_iconst C dL_law_1457 ?_
    refine g_iadd C dL_law_1458 ?_
    refine g_E w4 ?_
    refine g_sld C dL_law_1459 hX hbl hbA b4.1 b4.2 ?_
    refine g_aload_nV C dL_law_1460 rfl ?_
    refine g_iload C dL_law_1461 rfl ?_
    refine g_iconst C dL_law_1463 ?_
    refine g_iadd C dL_law_1464 ?_
    refine g_E w5 ?_
    refine g_sld C dL_law_1465 hX hbl hbA b5.1 b5.2 ?_
    refine g_if_eq C dL_law_1466 (iI _) rfl (tgt := 1473) (fun c9 => absurd c9 hb0) (fun _ => ?_)
    refine g_iconst C dL_law_1469 ?_
    refine g_goto C dL_law_1470 rfl (tgt := 1474) ?_
    refine g_aload_nV C dL_law_1474 rfl ?_
    refine g_iload C dL_law_1475 rfl ?_
    refine g_bipush C dL_law_1477 rfl ?_
    refine g_iadd C dL_law_1479 ?_
    refine g_E w6 ?_
    refine g_sld C dL_law_1480 hX hbl hbA b6.1 b6.2 ?_
    refine g_callV1 (As := [iv (sv xs (z + 1)), iv (sv xs (z + 2)), iv (sv xs (z + 3)), iv (sv xs (z + 4)), iv 1, iv (sv xs (z + 6))]) C dL_law_1481 mi_X11_fed ml_L_159 (ct_X11_fed (iI _) (iI _) (iI _) (iI _) (Or.inr rfl) (iI _) q1) rfl rfl ⟨rfl, rfl⟩ ⟨Nat.le_of_ble_eq_true rfl, Nat.le_of_ble_eq_true rfl⟩ hcs rfl (Nat.le_of_ble_eq_true rfl) (fun iy0 => ?_)
    refine g_aload_n C dL_law_1484 rfl ?_
    refine g_aload_nV C dL_law_1485 rfl ?_
    refine g_iload C dL_law_1486 rfl ?_
    refine g_iconst C dL_law_1488 ?_
    refine g_iadd C dL_law_1489 ?_
    refine g_E w1 ?_
    refine g_sld C dL_law_1490 hX hbl hbA b1.1 b1.2 ?_
    refine g_aload_nV C dL_law_1491 rfl ?_
    refine g_iload C dL_law_1492 rfl ?_
    refine g_iconst C dL_law_1494 ?_
    refine g_iadd C dL_law_1495 ?_
    refine g_E w2 ?_
    refine g_sld C dL_law_1496 hX hbl hbA b2.1 b2.2 ?_
    refine g_aload_nV C dL_law_1497 rfl ?_
    refine g_iload C dL_law_1498 rfl ?_
    refine g_iconst C dL_law_1500 ?_
    refine g_iadd C dL_law_1501 ?_
    refine g_E w3 ?_
    refine g_sld C dL_law_1502 hX hbl hbA b3.1 b3.2 ?_
    refine g_aload_nV C dL_law_1503 rfl ?_
    refine g_iload C dL_law_1504 rfl ?_
    refine g_iconst C dL_law_1506 ?_
    refine g_iadd C dL_law_1507 ?_
    refine g_E w4 ?_
    refine g_sld C dL_law_1508 hX hbl hbA b4.1 b4.2 ?_
    refine g_aload_nV C dL_law_1509 rfl ?_
    refine g_iload C dL_law_1510 rfl ?_
    refine g_iconst C dL_law_1512 ?_
    refine g_iadd C dL_law_1513 ?_
    refine g_E w5 ?_
    refine g_sld C dL_law_1514 hX hbl hbA b5.1 b5.2 ?_
    refine g_if_eq C dL_law_1515 (iI _) rfl (tgt := 1522) (fun c9 => absurd c9 hb0) (fun _ => ?_)
    refine g_iconst C dL_law_1518 ?_
    refine g_goto C dL_law_1519 rfl (tgt := 1523) ?_
    refine g_aload_nV C dL_law_1523 rfl ?_
    refine g_iload C dL_law_1524 rfl ?_
    refine g_bipush C dL_law_1526 rfl ?_
    refine g_iadd C dL_law_1528 ?_
    refine g_E w6 ?_
    refine g_sld C dL_law_1529 hX hbl hbA b6.1 b6.2 ?_
    refine g_callV1 (As := [iv (sv xs (z + 1)), iv (sv xs (z + 2)), iv (sv xs (z + 3)), iv (sv xs (z + 4)), iv 1, iv (sv xs (z + 6))]) C dL_law_1530 mi_X12_fed ml_L_163 (ct_X12_fed (iI _) (iI _) (iI _) (iI _) (Or.inr rfl) (iI _) q2) rfl rfl ⟨rfl, rfl⟩ ⟨Nat.le_of_ble_eq_true rfl, Nat.le_of_ble_eq_true rfl⟩ hcs rfl (Nat.le_of_ble_eq_true rfl) (fun iy1 => ?_)
    refine g_icmp_eq C dL_law_1533 iy0 iy0 rfl (tgt := 1613) (fun _ => ?_) (fun c9 => absurd rfl c9)
    exact g_widen (by omega) (by omega) (kk σ2 hI2)
set_option maxRecDepth 100000 in
set_option maxHeartbeats 4000000 in
theorem lc_word {z : Int} {j : Nat} {σ : St} (hPS : PS_word Inv) (C : Cx w p s m #[Value.ref b] c (fun q => s.heap.size ≤ q) code RL 7) (hX : va_X b N xs s s.heap) (hbl : b < s.heap.size) (hz : 0 ≤ z ∧ z + 7 ≤ (N : Int)) (hN : N ≤ 3584) (hj : j ≤ 513) (hI : Inv σ)
    (kk : ∀ σ2, Inv σ2 → GL w p l e s m b below meth c (235 + (j + 1)) (54422 + 64 * (j + 1)) 1613 [some (.ref b), some (rv w 0), some (rv w 170), some (rv w 234), some (iv z), none, none] [] σ2) : GL w p l e s m b below meth c (235 + j) (54422 + 64 * j) 1538 [some (.ref b), some (rv w 0), some (rv w 170), some (rv w 234), some (iv z), none, none] [] σ := by
  have hbA : ¬ (fun q : Nat => s.heap.size ≤ q) b := Nat.not_le.mpr hbl
  have hcs : 235 + j ≤ room_1.cells ∧ 54422 + 64 * j ≤ room_1.slots := ⟨by show _ ≤ 601024; omega, by show _ ≤ 7293034; omega⟩
  have b1 : InI (z + 1) ∧ (0 ≤ z + 1 ∧ z + 1 < (N : Int)) := ⟨⟨by omega, by omega⟩, by omega, by omega⟩
  have w1 : wr (z + 1) = z + 1 := wr_id b1.1
  refine g_ok (fun ho => ?_)
  obtain ⟨y, σ2, q1, q2, hI2⟩ := hPS σ (sv xs (z + 1)) ho hI (iI _)
  refine g_aload_n C dL_law_1538 rfl ?_
  refine g_aload_nV C dL_law_1539 rfl ?_
  refine g_iload C dL_law_1540 rfl ?_
  refine g_iconst C dL_law_1542 ?_
  refine g_iadd C dL_law_1543 ?_
  refine g_E w1 ?_
  refine g_sld C dL_law_1544 hX hbl hbA b1.1 b1.2 ?_
  refine g_callV1 (As := [iv (sv xs (z + 1))]) C dL_law_1545 mi_X11_word ml_L_164 (ct_X11_word (iI _) q1) rfl rfl ⟨rfl, rfl⟩ ⟨Nat.le_of_ble_eq_true rfl, Nat.le_of_ble_eq_true rfl⟩ hcs rfl (Nat.le_of_ble_eq_true rfl) (fun iy0 => ?_)
  refine g_aload_n C dL_law_1548 rfl ?_
  refine g_aload_nV C dL_law_1549 rfl ?_
  refine g_iload C dL_law_1550 rfl ?_
  refine g_iconst C dL_law_1552 ?_
  refine g_iadd C dL_law_1553 ?_
  refine g_E w1 ?_
  refine g_sld C dL_law_1554 hX hbl hbA b1.1 b1.2 ?_
  refine g_callV1 (As := [iv (sv xs (z + 1))]) C dL_law_1555 mi_X12_word_ ml_L_167 (ct_X12_word_ (iI _) q2) rfl rfl ⟨rfl, rfl⟩ ⟨Nat.le_of_ble_eq_true rfl, Nat.le_of_ble_eq_true rfl⟩ hcs rfl (Nat.le_of_ble_eq_true rfl) (fun iy1 => ?_)
  refine g_icmp_eq C dL_law_1558 iy0 iy0 rfl (tgt := 1613) (fun _ => ?_) (fun c9 => absurd rfl c9)
  exact g_widen (by omega) (by omega) (kk σ2 hI2)
set_option maxRecDepth 100000 in
set_option maxHeartbeats 4000000 in
theorem lc_doubt {z : Int} {j : Nat} {σ : St} (hPS : PS_doubt Inv) (C : Cx w p s m #[Value.ref b] c (fun q => s.heap.size ≤ q) code RL 7) (hX : va_X b N xs s s.heap) (hbl : b < s.heap.size) (hz : 0 ≤ z ∧ z + 7 ≤ (N : Int)) (hN : N ≤ 3584) (hj : j ≤ 513) (hI : Inv σ)
    (kk : ∀ σ2, Inv σ2 → GL w p l e s m b below meth c (235 + (j + 1)) (54422 + 64 * (j + 1)) 1613 [some (.ref b), some (rv w 0), some (rv w 170), some (rv w 234), some (iv z), none, none] [] σ2) : GL w p l e s m b below meth c (235 + j) (54422 + 64 * j) 1563 [some (.ref b), some (rv w 0), some (rv w 170), some (rv w 234), some (iv z), none, none] [] σ := by
  have hbA : ¬ (fun q : Nat => s.heap.size ≤ q) b := Nat.not_le.mpr hbl
  have hcs : 235 + j ≤ room_1.cells ∧ 54422 + 64 * j ≤ room_1.slots := ⟨by show _ ≤ 601024; omega, by show _ ≤ 7293034; omega⟩
  have b1 : InI (z + 1) ∧ (0 ≤ z + 1 ∧ z + 1 < (N : Int)) := ⟨⟨by omega, by omega⟩, by omega, by omega⟩
  have w1 : wr (z + 1) = z + 1 := wr_id b1.1
  refine g_ok (fun ho => ?_)
  obtain ⟨y, σ2, q1, q2, hI2⟩ := hPS σ (sv xs (z + 1)) ho hI (iI _)
  refine g_aload_n C dL_law_1563 rfl ?_
  refine g_aload_nV C dL_law_1564 rfl ?_
  refine g_iload C dL_law_1565 rfl ?_
  refine g_iconst C dL_law_1567 ?_
  refine g_iadd C dL_law_1568 ?_
  refine g_E w1 ?_
  refine g_sld C dL_law_1569 hX hbl hbA b1.1 b1.2 ?_
  refine g_callV1 (As := [iv (sv xs (z + 1))]) C dL_law_1570 mi_X11_doubt ml_L_168 (ct_X11_doubt (iI _) q1) rfl rfl ⟨rfl, rfl⟩ ⟨Nat.le_of_ble_eq_true rfl, Nat.le_of_ble_eq_true rfl⟩ hcs rfl (Nat.le_of_ble_eq_true rfl) (fun iy0 => ?_)
  refine g_aload_n C dL_law_1573 rfl ?_
  refine g_aload_nV C dL_law_1574 rfl ?_
  refine g_iload C dL_law_1575 rfl ?_
  refine g_iconst C dL_law_1577 ?_
  refine g_iadd C dL_law_1578 ?_
  refine g_E w1 ?_
  refine g_sld C dL_law_1579 hX hbl hbA b1.1 b1.2 ?_
  refine g_callV1 (As := [iv (sv xs (z + 1))]) C dL_law_1580 mi_X12_doubt ml_L_171 (ct_X12_doubt (iI _) q2) rfl rfl ⟨rfl, rfl⟩ ⟨Nat.le_of_ble_eq_true rfl, Nat.le_of_ble_eq_true rfl⟩ hcs rfl (Nat.le_of_ble_eq_true rfl) (fun iy1 => ?_)
  refine g_icmp_eq C dL_law_1583 iy0 iy0 rfl (tgt := 1613) (fun _ => ?_) (fun c9 => absurd rfl c9)
  exact g_widen (by omega) (by omega) (kk σ2 hI2)
set_option maxRecDepth 100000 in
set_option maxHeartbeats 4000000 in
theorem lc_count {z : Int} {j : Nat} {σ : St} (hPS : PS_count Inv) (C : Cx w p s m #[Value.ref b] c (fun q => s.heap.size ≤ q) code RL 7) (hX : va_X b N xs s s.heap) (hbl : b < s.heap.size) (hz : 0 ≤ z ∧ z + 7 ≤ (N : Int)) (hN : N ≤ 3584) (hj : j ≤ 513) (hI : Inv σ)
    (kk : ∀ σ2, Inv σ2 → GL w p l e s m b below meth c (235 + (j + 1)) (54422 + 64 * (j + 1)) 1613 [some (.ref b), some (rv w 0), some (rv w 170), some (rv w 234), some (iv z), none, none] [] σ2) : GL w p l e s m b below meth c (235 + j) (54422 + 64 * j) 1588 [some (.ref b), some (rv w 0), some (rv w 170), some (rv w 234), some (iv z), none, none] [] σ := by
  have hbA : ¬ (fun q : Nat => s.heap.size ≤ q) b := Nat.not_le.mpr hbl
  have hcs : 235 + j ≤ room_1.cells ∧ 54422 + 64 * j ≤ room_1.slots := ⟨by show _ ≤ 601024; omega, by show _ ≤ 7293034; omega⟩
  have b1 : InI (z + 1) ∧ (0 ≤ z + 1 ∧ z + 1 < (N : Int)) := ⟨⟨by omega, by omega⟩, by omega, by omega⟩
  have w1 : wr (z + 1) = z + 1 := wr_id b1.1
  refine g_ok (fun ho => ?_)
  obtain ⟨y, σ2, q1, q2, hI2⟩ := hPS σ (sv xs (z + 1)) ho hI (iI _)
  refine g_aload_n C dL_law_1588 rfl ?_
  refine g_aload_nV C dL_law_1589 rfl ?_
  refine g_iload C dL_law_1590 rfl ?_
  refine g_iconst C dL_law_1592 ?_
  refine g_iadd C dL_law_1593 ?_
  refine g_E w1 ?_
  refine g_sld C dL_law_1594 hX hbl hbA b1.1 b1.2 ?_
  refine g_callV1 (As := [iv (sv xs (z + 1))]) C dL_law_1595 mi_X11_count ml_L_172 (ct_X11_count (iI _) q1) rfl rfl ⟨rfl, rfl⟩ ⟨Nat.le_of_ble_eq_true rfl, Nat.le_of_ble_eq_true rfl⟩ hcs rfl (Nat.le_of_ble_eq_true rfl) (fun iy0 => ?_)
  refine g_aload_n C dL_law_1598 rfl ?_
  refine g_aload_nV C dL_law_1599 rfl ?_
  refine g_iload C dL_law_1600 rfl ?_
  refine g_iconst C dL_law_1602 ?_
  refine g_iadd C dL_law_1603 ?_
  refine g_E w1 ?_
  refine g_sld C dL_law_1604 hX hbl hbA b1.1 b1.2 ?_
  refine g_callV1 (As := [iv (sv xs (z + 1))]) C dL_law_1605 mi_X12_count ml_L_175 (ct_X12_count (iI _) q2) rfl rfl ⟨rfl, rfl⟩ ⟨Nat.le_of_ble_eq_true rfl, Nat.le_of_ble_eq_true rfl⟩ hcs rfl (Nat.le_of_ble_eq_true rfl) (fun iy1 => ?_)
  refine g_icmp_eq C dL_law_1608 iy0 iy0 rfl (tgt := 1613) (fun _ => ?_) (fun c9 => absurd rfl c9)
  exact g_widen (by omega) (by omega) (kk σ2 hI2)
end LAW

section JSCR
variable {l : Launch} {Γ : Am} {M : Mi} {ρ : Type} {cv : ρ → Option Value} {mc ms pc : Nat} {lv : List (Nat × Value)} {st : List Value} {z : Hp}
theorem j_sld {i : Int32} {f : Int32 → Option (ρ × Hp)} (hd : decode M.2.1 pc = .ok (.iaload, 1)) (kk : ∀ x : Int32, J l Γ M cv mc ms (pc + 1) lv (.int x :: st) z (f x)) : J l Γ M cv mc ms pc lv (.int i :: .ref (mX Γ).1 :: st) z (aX (mX Γ).2 i f) := by
  unfold aX
  refine j_ite (fun hi => ?_) (fun _ => J.none)
  refine J.go (st2 := .int ((mX Γ).2.2 i.toNatClampNeg) :: st) (pc2 := pc + 1) (fun p e s m args below meth c H locs cells slots ls Q hC hK hv hR hW => ?_) (kk _)
  obtain ⟨scr, h1, h2, h3, h4, h5⟩ := hK.2.2.2.2.2.2.2.2.2.1
  have hb := hK.2.2.2.2.2.2.2.2.2.2
  exact W.iald hC.1 hC.2.1 ((hR.2.1 _ hb).trans h1) h2 h3 (by rw [h4]; exact inb_vp hi) (h5 _ (inb_lt hi)) rfl rfl hd hW
theorem j_slen {f : Int32 → Option (ρ × Hp)} (hd : decode M.2.1 pc = .ok (.arraylength, 1)) (kk : ∀ x : Int32, J l Γ M cv mc ms (pc + 1) lv (.int x :: st) z (f x)) : J l Γ M cv mc ms pc lv (.ref (mX Γ).1 :: st) z (xN (mX Γ).2 f) := by
  refine J.go (st2 := .int (nI (mX Γ).2.1) :: st) (pc2 := pc + 1) (fun p e s m args below meth c H locs cells slots ls Q hC hK hv hR hW => ?_) (kk _)
  obtain ⟨scr, h1, h2, h3, h4, h5⟩ := hK.2.2.2.2.2.2.2.2.2.1
  have hb := hK.2.2.2.2.2.2.2.2.2.2
  exact W.alen hC.1 hC.2.1 ((hR.2.1 _ hb).trans h1) h2 (by rw [h4]; rfl) rfl rfl hd hW
end JSCR
theorem dL_law_0 : decode cL_law 0 = .ok (.new 7, 3) := by decide +kernel
theorem dL_law_3 : decode cL_law 3 = .ok (.dup, 1) := by decide +kernel
theorem dL_law_4 : decode cL_law 4 = .ok (.invokespecial 9, 3) := by decide +kernel
theorem dL_law_7 : decode cL_law 7 = .ok (.astore_n 1, 1) := by decide +kernel
theorem dL_law_8 : decode cL_law 8 = .ok (.new 10, 3) := by decide +kernel
theorem dL_law_11 : decode cL_law 11 = .ok (.dup, 1) := by decide +kernel
theorem dL_law_12 : decode cL_law 12 = .ok (.invokespecial 12, 3) := by decide +kernel
theorem dL_law_15 : decode cL_law 15 = .ok (.astore_n 2, 1) := by decide +kernel
theorem dL_law_16 : decode cL_law 16 = .ok (.iconst 0, 1) := by decide +kernel
theorem dL_law_17 : decode cL_law 17 = .ok (.istore_n 3, 1) := by decide +kernel
theorem dL_law_18 : decode cL_law 18 = .ok (.iload_n 3, 1) := by decide +kernel
theorem dL_law_19 : decode cL_law 19 = .ok (.aload_n 0, 1) := by decide +kernel
theorem dL_law_20 : decode cL_law 20 = .ok (.arraylength, 1) := by decide +kernel
theorem dL_law_21 : decode cL_law 21 = .ok (.bipush 6, 2) := by decide +kernel
theorem dL_law_23 : decode cL_law 23 = .ok (.isub, 1) := by decide +kernel
theorem dL_law_24 : decode cL_law 24 = .ok (.if_icmp .gt 1141, 3) := by decide +kernel
theorem dL_law_27 : decode cL_law 27 = .ok (.aload_n 0, 1) := by decide +kernel
theorem dL_law_28 : decode cL_law 28 = .ok (.iload_n 3, 1) := by decide +kernel
theorem dL_law_29 : decode cL_law 29 = .ok (.iaload, 1) := by decide +kernel
theorem dL_law_30 : decode cL_law 30 = .ok (.bipush 63, 2) := by decide +kernel
theorem dL_law_32 : decode cL_law 32 = .ok (.iand, 1) := by decide +kernel
theorem dL_law_33 : decode cL_law 33 = .ok (.tableswitch 1126 0 34 #[155, 218, 241, 254, 277, 300, 343, 366, 415, 448, 471, 484, 497, 510, 533, 546, 579, 602, 615, 638, 651, 684, 697, 710, 743, 756, 809, 832, 855, 878, 901, 924, 947, 990, 1063], 155) := by decide +kernel
theorem dL_law_188 : decode cL_law 188 = .ok (.aload_n 1, 1) := by decide +kernel
theorem dL_law_189 : decode cL_law 189 = .ok (.aload_n 0, 1) := by decide +kernel
theorem dL_law_190 : decode cL_law 190 = .ok (.iload_n 3, 1) := by decide +kernel
theorem dL_law_191 : decode cL_law 191 = .ok (.iconst 1, 1) := by decide +kernel
theorem dL_law_192 : decode cL_law 192 = .ok (.iadd, 1) := by decide +kernel
theorem dL_law_193 : decode cL_law 193 = .ok (.iaload, 1) := by decide +kernel
theorem dL_law_194 : decode cL_law 194 = .ok (.aload_n 0, 1) := by decide +kernel
theorem dL_law_195 : decode cL_law 195 = .ok (.iload_n 3, 1) := by decide +kernel
theorem dL_law_196 : decode cL_law 196 = .ok (.iconst 2, 1) := by decide +kernel
theorem dL_law_197 : decode cL_law 197 = .ok (.iadd, 1) := by decide +kernel
theorem dL_law_198 : decode cL_law 198 = .ok (.iaload, 1) := by decide +kernel
theorem dL_law_199 : decode cL_law 199 = .ok (.aload_n 0, 1) := by decide +kernel
theorem dL_law_200 : decode cL_law 200 = .ok (.iload_n 3, 1) := by decide +kernel
theorem dL_law_201 : decode cL_law 201 = .ok (.iconst 3, 1) := by decide +kernel
theorem dL_law_202 : decode cL_law 202 = .ok (.iadd, 1) := by decide +kernel
theorem dL_law_203 : decode cL_law 203 = .ok (.iaload, 1) := by decide +kernel
theorem dL_law_204 : decode cL_law 204 = .ok (.aload_n 0, 1) := by decide +kernel
theorem dL_law_205 : decode cL_law 205 = .ok (.iload_n 3, 1) := by decide +kernel
theorem dL_law_206 : decode cL_law 206 = .ok (.iconst 4, 1) := by decide +kernel
theorem dL_law_207 : decode cL_law 207 = .ok (.iadd, 1) := by decide +kernel
theorem dL_law_208 : decode cL_law 208 = .ok (.iaload, 1) := by decide +kernel
theorem dL_law_209 : decode cL_law 209 = .ok (.aload_n 0, 1) := by decide +kernel
theorem dL_law_210 : decode cL_law 210 = .ok (.iload_n 3, 1) := by decide +kernel
theorem dL_law_211 : decode cL_law 211 = .ok (.iconst 5, 1) := by decide +kernel
theorem dL_law_212 : decode cL_law 212 = .ok (.iadd, 1) := by decide +kernel
theorem dL_law_213 : decode cL_law 213 = .ok (.iaload, 1) := by decide +kernel
theorem dL_law_214 : decode cL_law 214 = .ok (.invokevirtual 13, 3) := by decide +kernel
theorem dL_law_217 : decode cL_law 217 = .ok (.aload_n 2, 1) := by decide +kernel
theorem dL_law_218 : decode cL_law 218 = .ok (.aload_n 0, 1) := by decide +kernel
theorem dL_law_219 : decode cL_law 219 = .ok (.iload_n 3, 1) := by decide +kernel
theorem dL_law_220 : decode cL_law 220 = .ok (.iconst 1, 1) := by decide +kernel
theorem dL_law_221 : decode cL_law 221 = .ok (.iadd, 1) := by decide +kernel
theorem dL_law_222 : decode cL_law 222 = .ok (.iaload, 1) := by decide +kernel
theorem dL_law_223 : decode cL_law 223 = .ok (.aload_n 0, 1) := by decide +kernel
theorem dL_law_224 : decode cL_law 224 = .ok (.iload_n 3, 1) := by decide +kernel
theorem dL_law_225 : decode cL_law 225 = .ok (.iconst 2, 1) := by decide +kernel
theorem dL_law_226 : decode cL_law 226 = .ok (.iadd, 1) := by decide +kernel
theorem dL_law_227 : decode cL_law 227 = .ok (.iaload, 1) := by decide +kernel
theorem dL_law_228 : decode cL_law 228 = .ok (.aload_n 0, 1) := by decide +kernel
theorem dL_law_229 : decode cL_law 229 = .ok (.iload_n 3, 1) := by decide +kernel
theorem dL_law_230 : decode cL_law 230 = .ok (.iconst 3, 1) := by decide +kernel
theorem dL_law_231 : decode cL_law 231 = .ok (.iadd, 1) := by decide +kernel
theorem dL_law_232 : decode cL_law 232 = .ok (.iaload, 1) := by decide +kernel
theorem dL_law_233 : decode cL_law 233 = .ok (.aload_n 0, 1) := by decide +kernel
theorem dL_law_234 : decode cL_law 234 = .ok (.iload_n 3, 1) := by decide +kernel
theorem dL_law_235 : decode cL_law 235 = .ok (.iconst 4, 1) := by decide +kernel
theorem dL_law_236 : decode cL_law 236 = .ok (.iadd, 1) := by decide +kernel
theorem dL_law_237 : decode cL_law 237 = .ok (.iaload, 1) := by decide +kernel
theorem dL_law_238 : decode cL_law 238 = .ok (.aload_n 0, 1) := by decide +kernel
theorem dL_law_239 : decode cL_law 239 = .ok (.iload_n 3, 1) := by decide +kernel
theorem dL_law_240 : decode cL_law 240 = .ok (.iconst 5, 1) := by decide +kernel
theorem dL_law_241 : decode cL_law 241 = .ok (.iadd, 1) := by decide +kernel
theorem dL_law_242 : decode cL_law 242 = .ok (.iaload, 1) := by decide +kernel
theorem dL_law_243 : decode cL_law 243 = .ok (.invokevirtual 17, 3) := by decide +kernel
theorem dL_law_246 : decode cL_law 246 = .ok (.if_icmp .eq 913, 3) := by decide +kernel
theorem dL_law_249 : decode cL_law 249 = .ok (.iconst 0, 1) := by decide +kernel
theorem dL_law_250 : decode cL_law 250 = .ok (.ireturn, 1) := by decide +kernel
theorem dL_law_251 : decode cL_law 251 = .ok (.aload_n 1, 1) := by decide +kernel
theorem dL_law_252 : decode cL_law 252 = .ok (.aload_n 0, 1) := by decide +kernel
theorem dL_law_253 : decode cL_law 253 = .ok (.iload_n 3, 1) := by decide +kernel
theorem dL_law_254 : decode cL_law 254 = .ok (.iconst 1, 1) := by decide +kernel
theorem dL_law_255 : decode cL_law 255 = .ok (.iadd, 1) := by decide +kernel
theorem dL_law_256 : decode cL_law 256 = .ok (.iaload, 1) := by decide +kernel
theorem dL_law_257 : decode cL_law 257 = .ok (.invokevirtual 18, 3) := by decide +kernel
theorem dL_law_260 : decode cL_law 260 = .ok (.aload_n 2, 1) := by decide +kernel
theorem dL_law_261 : decode cL_law 261 = .ok (.aload_n 0, 1) := by decide +kernel
theorem dL_law_262 : decode cL_law 262 = .ok (.iload_n 3, 1) := by decide +kernel
theorem dL_law_263 : decode cL_law 263 = .ok (.iconst 1, 1) := by decide +kernel
theorem dL_law_264 : decode cL_law 264 = .ok (.iadd, 1) := by decide +kernel
theorem dL_law_265 : decode cL_law 265 = .ok (.iaload, 1) := by decide +kernel
theorem dL_law_266 : decode cL_law 266 = .ok (.invokevirtual 22, 3) := by decide +kernel
theorem dL_law_269 : decode cL_law 269 = .ok (.if_icmp .eq 890, 3) := by decide +kernel
theorem dL_law_272 : decode cL_law 272 = .ok (.iconst 0, 1) := by decide +kernel
theorem dL_law_273 : decode cL_law 273 = .ok (.ireturn, 1) := by decide +kernel
theorem dL_law_274 : decode cL_law 274 = .ok (.aload_n 1, 1) := by decide +kernel
theorem dL_law_275 : decode cL_law 275 = .ok (.invokevirtual 23, 3) := by decide +kernel
theorem dL_law_278 : decode cL_law 278 = .ok (.aload_n 2, 1) := by decide +kernel
theorem dL_law_279 : decode cL_law 279 = .ok (.invokevirtual 27, 3) := by decide +kernel
theorem dL_law_282 : decode cL_law 282 = .ok (.if_icmp .eq 877, 3) := by decide +kernel
theorem dL_law_285 : decode cL_law 285 = .ok (.iconst 0, 1) := by decide +kernel
theorem dL_law_286 : decode cL_law 286 = .ok (.ireturn, 1) := by decide +kernel
theorem dL_law_287 : decode cL_law 287 = .ok (.aload_n 1, 1) := by decide +kernel
theorem dL_law_288 : decode cL_law 288 = .ok (.aload_n 0, 1) := by decide +kernel
theorem dL_law_289 : decode cL_law 289 = .ok (.iload_n 3, 1) := by decide +kernel
theorem dL_law_290 : decode cL_law 290 = .ok (.iconst 1, 1) := by decide +kernel
theorem dL_law_291 : decode cL_law 291 = .ok (.iadd, 1) := by decide +kernel
theorem dL_law_292 : decode cL_law 292 = .ok (.iaload, 1) := by decide +kernel
theorem dL_law_293 : decode cL_law 293 = .ok (.invokevirtual 28, 3) := by decide +kernel
theorem dL_law_296 : decode cL_law 296 = .ok (.aload_n 2, 1) := by decide +kernel
theorem dL_law_297 : decode cL_law 297 = .ok (.aload_n 0, 1) := by decide +kernel
theorem dL_law_298 : decode cL_law 298 = .ok (.iload_n 3, 1) := by decide +kernel
theorem dL_law_299 : decode cL_law 299 = .ok (.iconst 1, 1) := by decide +kernel
theorem dL_law_300 : decode cL_law 300 = .ok (.iadd, 1) := by decide +kernel
theorem dL_law_301 : decode cL_law 301 = .ok (.iaload, 1) := by decide +kernel
theorem dL_law_302 : decode cL_law 302 = .ok (.invokevirtual 31, 3) := by decide +kernel
theorem dL_law_305 : decode cL_law 305 = .ok (.if_icmp .eq 854, 3) := by decide +kernel
theorem dL_law_308 : decode cL_law 308 = .ok (.iconst 0, 1) := by decide +kernel
theorem dL_law_309 : decode cL_law 309 = .ok (.ireturn, 1) := by decide +kernel
theorem dL_law_310 : decode cL_law 310 = .ok (.aload_n 1, 1) := by decide +kernel
theorem dL_law_311 : decode cL_law 311 = .ok (.aload_n 0, 1) := by decide +kernel
theorem dL_law_312 : decode cL_law 312 = .ok (.iload_n 3, 1) := by decide +kernel
theorem dL_law_313 : decode cL_law 313 = .ok (.iconst 1, 1) := by decide +kernel
theorem dL_law_314 : decode cL_law 314 = .ok (.iadd, 1) := by decide +kernel
theorem dL_law_315 : decode cL_law 315 = .ok (.iaload, 1) := by decide +kernel
theorem dL_law_316 : decode cL_law 316 = .ok (.invokevirtual 32, 3) := by decide +kernel
theorem dL_law_319 : decode cL_law 319 = .ok (.aload_n 2, 1) := by decide +kernel
theorem dL_law_320 : decode cL_law 320 = .ok (.aload_n 0, 1) := by decide +kernel
theorem dL_law_321 : decode cL_law 321 = .ok (.iload_n 3, 1) := by decide +kernel
theorem dL_law_322 : decode cL_law 322 = .ok (.iconst 1, 1) := by decide +kernel
theorem dL_law_323 : decode cL_law 323 = .ok (.iadd, 1) := by decide +kernel
theorem dL_law_324 : decode cL_law 324 = .ok (.iaload, 1) := by decide +kernel
theorem dL_law_325 : decode cL_law 325 = .ok (.invokevirtual 35, 3) := by decide +kernel
theorem dL_law_328 : decode cL_law 328 = .ok (.if_icmp .eq 831, 3) := by decide +kernel
theorem dL_law_331 : decode cL_law 331 = .ok (.iconst 0, 1) := by decide +kernel
theorem dL_law_332 : decode cL_law 332 = .ok (.ireturn, 1) := by decide +kernel
theorem dL_law_333 : decode cL_law 333 = .ok (.aload_n 1, 1) := by decide +kernel
theorem dL_law_334 : decode cL_law 334 = .ok (.aload_n 0, 1) := by decide +kernel
theorem dL_law_335 : decode cL_law 335 = .ok (.iload_n 3, 1) := by decide +kernel
theorem dL_law_336 : decode cL_law 336 = .ok (.iconst 1, 1) := by decide +kernel
theorem dL_law_337 : decode cL_law 337 = .ok (.iadd, 1) := by decide +kernel
theorem dL_law_338 : decode cL_law 338 = .ok (.iaload, 1) := by decide +kernel
theorem dL_law_339 : decode cL_law 339 = .ok (.aload_n 0, 1) := by decide +kernel
theorem dL_law_340 : decode cL_law 340 = .ok (.iload_n 3, 1) := by decide +kernel
theorem dL_law_341 : decode cL_law 341 = .ok (.iconst 2, 1) := by decide +kernel
theorem dL_law_342 : decode cL_law 342 = .ok (.iadd, 1) := by decide +kernel
theorem dL_law_343 : decode cL_law 343 = .ok (.iaload, 1) := by decide +kernel
theorem dL_law_344 : decode cL_law 344 = .ok (.aload_n 0, 1) := by decide +kernel
theorem dL_law_345 : decode cL_law 345 = .ok (.iload_n 3, 1) := by decide +kernel
theorem dL_law_346 : decode cL_law 346 = .ok (.iconst 3, 1) := by decide +kernel
theorem dL_law_347 : decode cL_law 347 = .ok (.iadd, 1) := by decide +kernel
theorem dL_law_348 : decode cL_law 348 = .ok (.iaload, 1) := by decide +kernel
theorem dL_law_349 : decode cL_law 349 = .ok (.invokevirtual 36, 3) := by decide +kernel
theorem dL_law_352 : decode cL_law 352 = .ok (.aload_n 2, 1) := by decide +kernel
theorem dL_law_353 : decode cL_law 353 = .ok (.aload_n 0, 1) := by decide +kernel
theorem dL_law_354 : decode cL_law 354 = .ok (.iload_n 3, 1) := by decide +kernel
theorem dL_law_355 : decode cL_law 355 = .ok (.iconst 1, 1) := by decide +kernel
theorem dL_law_356 : decode cL_law 356 = .ok (.iadd, 1) := by decide +kernel
theorem dL_law_357 : decode cL_law 357 = .ok (.iaload, 1) := by decide +kernel
theorem dL_law_358 : decode cL_law 358 = .ok (.aload_n 0, 1) := by decide +kernel
theorem dL_law_359 : decode cL_law 359 = .ok (.iload_n 3, 1) := by decide +kernel
theorem dL_law_360 : decode cL_law 360 = .ok (.iconst 2, 1) := by decide +kernel
theorem dL_law_361 : decode cL_law 361 = .ok (.iadd, 1) := by decide +kernel
theorem dL_law_362 : decode cL_law 362 = .ok (.iaload, 1) := by decide +kernel
theorem dL_law_363 : decode cL_law 363 = .ok (.aload_n 0, 1) := by decide +kernel
theorem dL_law_364 : decode cL_law 364 = .ok (.iload_n 3, 1) := by decide +kernel
theorem dL_law_365 : decode cL_law 365 = .ok (.iconst 3, 1) := by decide +kernel
theorem dL_law_366 : decode cL_law 366 = .ok (.iadd, 1) := by decide +kernel
theorem dL_law_367 : decode cL_law 367 = .ok (.iaload, 1) := by decide +kernel
theorem dL_law_368 : decode cL_law 368 = .ok (.invokevirtual 40, 3) := by decide +kernel
theorem dL_law_371 : decode cL_law 371 = .ok (.if_icmp .eq 788, 3) := by decide +kernel
theorem dL_law_374 : decode cL_law 374 = .ok (.iconst 0, 1) := by decide +kernel
theorem dL_law_375 : decode cL_law 375 = .ok (.ireturn, 1) := by decide +kernel
theorem dL_law_376 : decode cL_law 376 = .ok (.aload_n 1, 1) := by decide +kernel
theorem dL_law_377 : decode cL_law 377 = .ok (.aload_n 0, 1) := by decide +kernel
theorem dL_law_378 : decode cL_law 378 = .ok (.iload_n 3, 1) := by decide +kernel
theorem dL_law_379 : decode cL_law 379 = .ok (.iconst 1, 1) := by decide +kernel
theorem dL_law_380 : decode cL_law 380 = .ok (.iadd, 1) := by decide +kernel
theorem dL_law_381 : decode cL_law 381 = .ok (.iaload, 1) := by decide +kernel
theorem dL_law_382 : decode cL_law 382 = .ok (.invokevirtual 41, 3) := by decide +kernel
theorem dL_law_385 : decode cL_law 385 = .ok (.aload_n 2, 1) := by decide +kernel
theorem dL_law_386 : decode cL_law 386 = .ok (.aload_n 0, 1) := by decide +kernel
theorem dL_law_387 : decode cL_law 387 = .ok (.iload_n 3, 1) := by decide +kernel
theorem dL_law_388 : decode cL_law 388 = .ok (.iconst 1, 1) := by decide +kernel
theorem dL_law_389 : decode cL_law 389 = .ok (.iadd, 1) := by decide +kernel
theorem dL_law_390 : decode cL_law 390 = .ok (.iaload, 1) := by decide +kernel
theorem dL_law_391 : decode cL_law 391 = .ok (.invokevirtual 44, 3) := by decide +kernel
theorem dL_law_394 : decode cL_law 394 = .ok (.if_icmp .eq 765, 3) := by decide +kernel
theorem dL_law_397 : decode cL_law 397 = .ok (.iconst 0, 1) := by decide +kernel
theorem dL_law_398 : decode cL_law 398 = .ok (.ireturn, 1) := by decide +kernel
theorem dL_law_399 : decode cL_law 399 = .ok (.aload_n 1, 1) := by decide +kernel
theorem dL_law_400 : decode cL_law 400 = .ok (.aload_n 0, 1) := by decide +kernel
theorem dL_law_401 : decode cL_law 401 = .ok (.iload_n 3, 1) := by decide +kernel
theorem dL_law_402 : decode cL_law 402 = .ok (.iconst 1, 1) := by decide +kernel
theorem dL_law_403 : decode cL_law 403 = .ok (.iadd, 1) := by decide +kernel
theorem dL_law_404 : decode cL_law 404 = .ok (.iaload, 1) := by decide +kernel
theorem dL_law_405 : decode cL_law 405 = .ok (.aload_n 0, 1) := by decide +kernel
theorem dL_law_406 : decode cL_law 406 = .ok (.iload_n 3, 1) := by decide +kernel
theorem dL_law_407 : decode cL_law 407 = .ok (.iconst 2, 1) := by decide +kernel
theorem dL_law_408 : decode cL_law 408 = .ok (.iadd, 1) := by decide +kernel
theorem dL_law_409 : decode cL_law 409 = .ok (.iaload, 1) := by decide +kernel
theorem dL_law_410 : decode cL_law 410 = .ok (.ifCond .eq 7, 3) := by decide +kernel
theorem dL_law_413 : decode cL_law 413 = .ok (.iconst 1, 1) := by decide +kernel
theorem dL_law_414 : decode cL_law 414 = .ok (.goto 4, 3) := by decide +kernel
theorem dL_law_417 : decode cL_law 417 = .ok (.iconst 0, 1) := by decide +kernel
theorem dL_law_418 : decode cL_law 418 = .ok (.invokevirtual 45, 3) := by decide +kernel
theorem dL_law_421 : decode cL_law 421 = .ok (.aload_n 2, 1) := by decide +kernel
theorem dL_law_422 : decode cL_law 422 = .ok (.aload_n 0, 1) := by decide +kernel
theorem dL_law_423 : decode cL_law 423 = .ok (.iload_n 3, 1) := by decide +kernel
theorem dL_law_424 : decode cL_law 424 = .ok (.iconst 1, 1) := by decide +kernel
theorem dL_law_425 : decode cL_law 425 = .ok (.iadd, 1) := by decide +kernel
theorem dL_law_426 : decode cL_law 426 = .ok (.iaload, 1) := by decide +kernel
theorem dL_law_427 : decode cL_law 427 = .ok (.aload_n 0, 1) := by decide +kernel
theorem dL_law_428 : decode cL_law 428 = .ok (.iload_n 3, 1) := by decide +kernel
theorem dL_law_429 : decode cL_law 429 = .ok (.iconst 2, 1) := by decide +kernel
theorem dL_law_430 : decode cL_law 430 = .ok (.iadd, 1) := by decide +kernel
theorem dL_law_431 : decode cL_law 431 = .ok (.iaload, 1) := by decide +kernel
theorem dL_law_432 : decode cL_law 432 = .ok (.ifCond .eq 7, 3) := by decide +kernel
theorem dL_law_435 : decode cL_law 435 = .ok (.iconst 1, 1) := by decide +kernel
theorem dL_law_436 : decode cL_law 436 = .ok (.goto 4, 3) := by decide +kernel
theorem dL_law_439 : decode cL_law 439 = .ok (.iconst 0, 1) := by decide +kernel
theorem dL_law_440 : decode cL_law 440 = .ok (.invokevirtual 49, 3) := by decide +kernel
theorem dL_law_443 : decode cL_law 443 = .ok (.if_icmp .eq 716, 3) := by decide +kernel
theorem dL_law_446 : decode cL_law 446 = .ok (.iconst 0, 1) := by decide +kernel
theorem dL_law_447 : decode cL_law 447 = .ok (.ireturn, 1) := by decide +kernel
theorem dL_law_448 : decode cL_law 448 = .ok (.aload_n 1, 1) := by decide +kernel
theorem dL_law_449 : decode cL_law 449 = .ok (.aload_n 0, 1) := by decide +kernel
theorem dL_law_450 : decode cL_law 450 = .ok (.iload_n 3, 1) := by decide +kernel
theorem dL_law_451 : decode cL_law 451 = .ok (.iconst 1, 1) := by decide +kernel
theorem dL_law_452 : decode cL_law 452 = .ok (.iadd, 1) := by decide +kernel
theorem dL_law_453 : decode cL_law 453 = .ok (.iaload, 1) := by decide +kernel
theorem dL_law_454 : decode cL_law 454 = .ok (.aload_n 0, 1) := by decide +kernel
theorem dL_law_455 : decode cL_law 455 = .ok (.iload_n 3, 1) := by decide +kernel
theorem dL_law_456 : decode cL_law 456 = .ok (.iconst 2, 1) := by decide +kernel
theorem dL_law_457 : decode cL_law 457 = .ok (.iadd, 1) := by decide +kernel
theorem dL_law_458 : decode cL_law 458 = .ok (.iaload, 1) := by decide +kernel
theorem dL_law_459 : decode cL_law 459 = .ok (.invokevirtual 50, 3) := by decide +kernel
theorem dL_law_462 : decode cL_law 462 = .ok (.aload_n 2, 1) := by decide +kernel
theorem dL_law_463 : decode cL_law 463 = .ok (.aload_n 0, 1) := by decide +kernel
theorem dL_law_464 : decode cL_law 464 = .ok (.iload_n 3, 1) := by decide +kernel
theorem dL_law_465 : decode cL_law 465 = .ok (.iconst 1, 1) := by decide +kernel
theorem dL_law_466 : decode cL_law 466 = .ok (.iadd, 1) := by decide +kernel
theorem dL_law_467 : decode cL_law 467 = .ok (.iaload, 1) := by decide +kernel
theorem dL_law_468 : decode cL_law 468 = .ok (.aload_n 0, 1) := by decide +kernel
theorem dL_law_469 : decode cL_law 469 = .ok (.iload_n 3, 1) := by decide +kernel
theorem dL_law_470 : decode cL_law 470 = .ok (.iconst 2, 1) := by decide +kernel
theorem dL_law_471 : decode cL_law 471 = .ok (.iadd, 1) := by decide +kernel
theorem dL_law_472 : decode cL_law 472 = .ok (.iaload, 1) := by decide +kernel
theorem dL_law_473 : decode cL_law 473 = .ok (.invokevirtual 54, 3) := by decide +kernel
theorem dL_law_476 : decode cL_law 476 = .ok (.if_icmp .eq 683, 3) := by decide +kernel
theorem dL_law_479 : decode cL_law 479 = .ok (.iconst 0, 1) := by decide +kernel
theorem dL_law_480 : decode cL_law 480 = .ok (.ireturn, 1) := by decide +kernel
theorem dL_law_481 : decode cL_law 481 = .ok (.aload_n 1, 1) := by decide +kernel
theorem dL_law_482 : decode cL_law 482 = .ok (.aload_n 0, 1) := by decide +kernel
theorem dL_law_483 : decode cL_law 483 = .ok (.iload_n 3, 1) := by decide +kernel
theorem dL_law_484 : decode cL_law 484 = .ok (.iconst 1, 1) := by decide +kernel
theorem dL_law_485 : decode cL_law 485 = .ok (.iadd, 1) := by decide +kernel
theorem dL_law_486 : decode cL_law 486 = .ok (.iaload, 1) := by decide +kernel
theorem dL_law_487 : decode cL_law 487 = .ok (.invokevirtual 55, 3) := by decide +kernel
theorem dL_law_490 : decode cL_law 490 = .ok (.aload_n 2, 1) := by decide +kernel
theorem dL_law_491 : decode cL_law 491 = .ok (.aload_n 0, 1) := by decide +kernel
theorem dL_law_492 : decode cL_law 492 = .ok (.iload_n 3, 1) := by decide +kernel
theorem dL_law_493 : decode cL_law 493 = .ok (.iconst 1, 1) := by decide +kernel
theorem dL_law_494 : decode cL_law 494 = .ok (.iadd, 1) := by decide +kernel
theorem dL_law_495 : decode cL_law 495 = .ok (.iaload, 1) := by decide +kernel
theorem dL_law_496 : decode cL_law 496 = .ok (.invokevirtual 58, 3) := by decide +kernel
theorem dL_law_499 : decode cL_law 499 = .ok (.if_icmp .eq 660, 3) := by decide +kernel
theorem dL_law_502 : decode cL_law 502 = .ok (.iconst 0, 1) := by decide +kernel
theorem dL_law_503 : decode cL_law 503 = .ok (.ireturn, 1) := by decide +kernel
theorem dL_law_504 : decode cL_law 504 = .ok (.aload_n 1, 1) := by decide +kernel
theorem dL_law_505 : decode cL_law 505 = .ok (.invokevirtual 59, 3) := by decide +kernel
theorem dL_law_508 : decode cL_law 508 = .ok (.aload_n 2, 1) := by decide +kernel
theorem dL_law_509 : decode cL_law 509 = .ok (.invokevirtual 62, 3) := by decide +kernel
theorem dL_law_512 : decode cL_law 512 = .ok (.if_icmp .eq 647, 3) := by decide +kernel
theorem dL_law_515 : decode cL_law 515 = .ok (.iconst 0, 1) := by decide +kernel
theorem dL_law_516 : decode cL_law 516 = .ok (.ireturn, 1) := by decide +kernel
theorem dL_law_517 : decode cL_law 517 = .ok (.aload_n 1, 1) := by decide +kernel
theorem dL_law_518 : decode cL_law 518 = .ok (.invokevirtual 63, 3) := by decide +kernel
theorem dL_law_521 : decode cL_law 521 = .ok (.aload_n 2, 1) := by decide +kernel
theorem dL_law_522 : decode cL_law 522 = .ok (.invokevirtual 66, 3) := by decide +kernel
theorem dL_law_525 : decode cL_law 525 = .ok (.if_icmp .eq 634, 3) := by decide +kernel
theorem dL_law_528 : decode cL_law 528 = .ok (.iconst 0, 1) := by decide +kernel
theorem dL_law_529 : decode cL_law 529 = .ok (.ireturn, 1) := by decide +kernel
theorem dL_law_530 : decode cL_law 530 = .ok (.aload_n 1, 1) := by decide +kernel
theorem dL_law_531 : decode cL_law 531 = .ok (.invokevirtual 67, 3) := by decide +kernel
theorem dL_law_534 : decode cL_law 534 = .ok (.aload_n 2, 1) := by decide +kernel
theorem dL_law_535 : decode cL_law 535 = .ok (.invokevirtual 70, 3) := by decide +kernel
theorem dL_law_538 : decode cL_law 538 = .ok (.if_icmp .eq 621, 3) := by decide +kernel
theorem dL_law_541 : decode cL_law 541 = .ok (.iconst 0, 1) := by decide +kernel
theorem dL_law_542 : decode cL_law 542 = .ok (.ireturn, 1) := by decide +kernel
theorem dL_law_543 : decode cL_law 543 = .ok (.aload_n 1, 1) := by decide +kernel
theorem dL_law_544 : decode cL_law 544 = .ok (.aload_n 0, 1) := by decide +kernel
theorem dL_law_545 : decode cL_law 545 = .ok (.iload_n 3, 1) := by decide +kernel
theorem dL_law_546 : decode cL_law 546 = .ok (.iconst 1, 1) := by decide +kernel
theorem dL_law_547 : decode cL_law 547 = .ok (.iadd, 1) := by decide +kernel
theorem dL_law_548 : decode cL_law 548 = .ok (.iaload, 1) := by decide +kernel
theorem dL_law_549 : decode cL_law 549 = .ok (.invokevirtual 71, 3) := by decide +kernel
theorem dL_law_552 : decode cL_law 552 = .ok (.aload_n 2, 1) := by decide +kernel
theorem dL_law_553 : decode cL_law 553 = .ok (.aload_n 0, 1) := by decide +kernel
theorem dL_law_554 : decode cL_law 554 = .ok (.iload_n 3, 1) := by decide +kernel
theorem dL_law_555 : decode cL_law 555 = .ok (.iconst 1, 1) := by decide +kernel
theorem dL_law_556 : decode cL_law 556 = .ok (.iadd, 1) := by decide +kernel
theorem dL_law_557 : decode cL_law 557 = .ok (.iaload, 1) := by decide +kernel
theorem dL_law_558 : decode cL_law 558 = .ok (.invokevirtual 74, 3) := by decide +kernel
theorem dL_law_561 : decode cL_law 561 = .ok (.if_icmp .eq 598, 3) := by decide +kernel
theorem dL_law_564 : decode cL_law 564 = .ok (.iconst 0, 1) := by decide +kernel
theorem dL_law_565 : decode cL_law 565 = .ok (.ireturn, 1) := by decide +kernel
theorem dL_law_566 : decode cL_law 566 = .ok (.aload_n 1, 1) := by decide +kernel
theorem dL_law_567 : decode cL_law 567 = .ok (.invokevirtual 75, 3) := by decide +kernel
theorem dL_law_570 : decode cL_law 570 = .ok (.aload_n 2, 1) := by decide +kernel
theorem dL_law_571 : decode cL_law 571 = .ok (.invokevirtual 78, 3) := by decide +kernel
theorem dL_law_574 : decode cL_law 574 = .ok (.if_icmp .eq 585, 3) := by decide +kernel
theorem dL_law_577 : decode cL_law 577 = .ok (.iconst 0, 1) := by decide +kernel
theorem dL_law_578 : decode cL_law 578 = .ok (.ireturn, 1) := by decide +kernel
theorem dL_law_579 : decode cL_law 579 = .ok (.aload_n 1, 1) := by decide +kernel
theorem dL_law_580 : decode cL_law 580 = .ok (.aload_n 0, 1) := by decide +kernel
theorem dL_law_581 : decode cL_law 581 = .ok (.iload_n 3, 1) := by decide +kernel
theorem dL_law_582 : decode cL_law 582 = .ok (.iconst 1, 1) := by decide +kernel
theorem dL_law_583 : decode cL_law 583 = .ok (.iadd, 1) := by decide +kernel
theorem dL_law_584 : decode cL_law 584 = .ok (.iaload, 1) := by decide +kernel
theorem dL_law_585 : decode cL_law 585 = .ok (.aload_n 0, 1) := by decide +kernel
theorem dL_law_586 : decode cL_law 586 = .ok (.iload_n 3, 1) := by decide +kernel
theorem dL_law_587 : decode cL_law 587 = .ok (.iconst 2, 1) := by decide +kernel
theorem dL_law_588 : decode cL_law 588 = .ok (.iadd, 1) := by decide +kernel
theorem dL_law_589 : decode cL_law 589 = .ok (.iaload, 1) := by decide +kernel
theorem dL_law_590 : decode cL_law 590 = .ok (.invokevirtual 79, 3) := by decide +kernel
theorem dL_law_593 : decode cL_law 593 = .ok (.aload_n 2, 1) := by decide +kernel
theorem dL_law_594 : decode cL_law 594 = .ok (.aload_n 0, 1) := by decide +kernel
theorem dL_law_595 : decode cL_law 595 = .ok (.iload_n 3, 1) := by decide +kernel
theorem dL_law_596 : decode cL_law 596 = .ok (.iconst 1, 1) := by decide +kernel
theorem dL_law_597 : decode cL_law 597 = .ok (.iadd, 1) := by decide +kernel
theorem dL_law_598 : decode cL_law 598 = .ok (.iaload, 1) := by decide +kernel
theorem dL_law_599 : decode cL_law 599 = .ok (.aload_n 0, 1) := by decide +kernel
theorem dL_law_600 : decode cL_law 600 = .ok (.iload_n 3, 1) := by decide +kernel
theorem dL_law_601 : decode cL_law 601 = .ok (.iconst 2, 1) := by decide +kernel
theorem dL_law_602 : decode cL_law 602 = .ok (.iadd, 1) := by decide +kernel
theorem dL_law_603 : decode cL_law 603 = .ok (.iaload, 1) := by decide +kernel
theorem dL_law_604 : decode cL_law 604 = .ok (.invokevirtual 82, 3) := by decide +kernel
theorem dL_law_607 : decode cL_law 607 = .ok (.if_icmp .eq 552, 3) := by decide +kernel
theorem dL_law_610 : decode cL_law 610 = .ok (.iconst 0, 1) := by decide +kernel
theorem dL_law_611 : decode cL_law 611 = .ok (.ireturn, 1) := by decide +kernel
theorem dL_law_612 : decode cL_law 612 = .ok (.aload_n 1, 1) := by decide +kernel
theorem dL_law_613 : decode cL_law 613 = .ok (.aload_n 0, 1) := by decide +kernel
theorem dL_law_614 : decode cL_law 614 = .ok (.iload_n 3, 1) := by decide +kernel
theorem dL_law_615 : decode cL_law 615 = .ok (.iconst 1, 1) := by decide +kernel
theorem dL_law_616 : decode cL_law 616 = .ok (.iadd, 1) := by decide +kernel
theorem dL_law_617 : decode cL_law 617 = .ok (.iaload, 1) := by decide +kernel
theorem dL_law_618 : decode cL_law 618 = .ok (.invokevirtual 83, 3) := by decide +kernel
theorem dL_law_621 : decode cL_law 621 = .ok (.aload_n 2, 1) := by decide +kernel
theorem dL_law_622 : decode cL_law 622 = .ok (.aload_n 0, 1) := by decide +kernel
theorem dL_law_623 : decode cL_law 623 = .ok (.iload_n 3, 1) := by decide +kernel
theorem dL_law_624 : decode cL_law 624 = .ok (.iconst 1, 1) := by decide +kernel
theorem dL_law_625 : decode cL_law 625 = .ok (.iadd, 1) := by decide +kernel
theorem dL_law_626 : decode cL_law 626 = .ok (.iaload, 1) := by decide +kernel
theorem dL_law_627 : decode cL_law 627 = .ok (.invokevirtual 86, 3) := by decide +kernel
theorem dL_law_630 : decode cL_law 630 = .ok (.if_icmp .eq 529, 3) := by decide +kernel
theorem dL_law_633 : decode cL_law 633 = .ok (.iconst 0, 1) := by decide +kernel
theorem dL_law_634 : decode cL_law 634 = .ok (.ireturn, 1) := by decide +kernel
theorem dL_law_635 : decode cL_law 635 = .ok (.aload_n 1, 1) := by decide +kernel
theorem dL_law_636 : decode cL_law 636 = .ok (.invokevirtual 87, 3) := by decide +kernel
theorem dL_law_639 : decode cL_law 639 = .ok (.aload_n 2, 1) := by decide +kernel
theorem dL_law_640 : decode cL_law 640 = .ok (.invokevirtual 90, 3) := by decide +kernel
theorem dL_law_643 : decode cL_law 643 = .ok (.if_icmp .eq 516, 3) := by decide +kernel
theorem dL_law_646 : decode cL_law 646 = .ok (.iconst 0, 1) := by decide +kernel
theorem dL_law_647 : decode cL_law 647 = .ok (.ireturn, 1) := by decide +kernel
theorem dL_law_648 : decode cL_law 648 = .ok (.aload_n 1, 1) := by decide +kernel
theorem dL_law_649 : decode cL_law 649 = .ok (.aload_n 0, 1) := by decide +kernel
theorem dL_law_650 : decode cL_law 650 = .ok (.iload_n 3, 1) := by decide +kernel
theorem dL_law_651 : decode cL_law 651 = .ok (.iconst 1, 1) := by decide +kernel
theorem dL_law_652 : decode cL_law 652 = .ok (.iadd, 1) := by decide +kernel
theorem dL_law_653 : decode cL_law 653 = .ok (.iaload, 1) := by decide +kernel
theorem dL_law_654 : decode cL_law 654 = .ok (.invokevirtual 91, 3) := by decide +kernel
theorem dL_law_657 : decode cL_law 657 = .ok (.aload_n 2, 1) := by decide +kernel
theorem dL_law_658 : decode cL_law 658 = .ok (.aload_n 0, 1) := by decide +kernel
theorem dL_law_659 : decode cL_law 659 = .ok (.iload_n 3, 1) := by decide +kernel
theorem dL_law_660 : decode cL_law 660 = .ok (.iconst 1, 1) := by decide +kernel
theorem dL_law_661 : decode cL_law 661 = .ok (.iadd, 1) := by decide +kernel
theorem dL_law_662 : decode cL_law 662 = .ok (.iaload, 1) := by decide +kernel
theorem dL_law_663 : decode cL_law 663 = .ok (.invokevirtual 94, 3) := by decide +kernel
theorem dL_law_666 : decode cL_law 666 = .ok (.if_icmp .eq 493, 3) := by decide +kernel
theorem dL_law_669 : decode cL_law 669 = .ok (.iconst 0, 1) := by decide +kernel
theorem dL_law_670 : decode cL_law 670 = .ok (.ireturn, 1) := by decide +kernel
theorem dL_law_671 : decode cL_law 671 = .ok (.aload_n 1, 1) := by decide +kernel
theorem dL_law_672 : decode cL_law 672 = .ok (.invokevirtual 95, 3) := by decide +kernel
theorem dL_law_675 : decode cL_law 675 = .ok (.aload_n 2, 1) := by decide +kernel
theorem dL_law_676 : decode cL_law 676 = .ok (.invokevirtual 98, 3) := by decide +kernel
theorem dL_law_679 : decode cL_law 679 = .ok (.if_icmp .eq 480, 3) := by decide +kernel
theorem dL_law_682 : decode cL_law 682 = .ok (.iconst 0, 1) := by decide +kernel
theorem dL_law_683 : decode cL_law 683 = .ok (.ireturn, 1) := by decide +kernel
theorem dL_law_684 : decode cL_law 684 = .ok (.aload_n 1, 1) := by decide +kernel
theorem dL_law_685 : decode cL_law 685 = .ok (.aload_n 0, 1) := by decide +kernel
theorem dL_law_686 : decode cL_law 686 = .ok (.iload_n 3, 1) := by decide +kernel
theorem dL_law_687 : decode cL_law 687 = .ok (.iconst 1, 1) := by decide +kernel
theorem dL_law_688 : decode cL_law 688 = .ok (.iadd, 1) := by decide +kernel
theorem dL_law_689 : decode cL_law 689 = .ok (.iaload, 1) := by decide +kernel
theorem dL_law_690 : decode cL_law 690 = .ok (.aload_n 0, 1) := by decide +kernel
theorem dL_law_691 : decode cL_law 691 = .ok (.iload_n 3, 1) := by decide +kernel
theorem dL_law_692 : decode cL_law 692 = .ok (.iconst 2, 1) := by decide +kernel
theorem dL_law_693 : decode cL_law 693 = .ok (.iadd, 1) := by decide +kernel
theorem dL_law_694 : decode cL_law 694 = .ok (.iaload, 1) := by decide +kernel
theorem dL_law_695 : decode cL_law 695 = .ok (.invokevirtual 99, 3) := by decide +kernel
theorem dL_law_698 : decode cL_law 698 = .ok (.aload_n 2, 1) := by decide +kernel
theorem dL_law_699 : decode cL_law 699 = .ok (.aload_n 0, 1) := by decide +kernel
theorem dL_law_700 : decode cL_law 700 = .ok (.iload_n 3, 1) := by decide +kernel
theorem dL_law_701 : decode cL_law 701 = .ok (.iconst 1, 1) := by decide +kernel
theorem dL_law_702 : decode cL_law 702 = .ok (.iadd, 1) := by decide +kernel
theorem dL_law_703 : decode cL_law 703 = .ok (.iaload, 1) := by decide +kernel
theorem dL_law_704 : decode cL_law 704 = .ok (.aload_n 0, 1) := by decide +kernel
theorem dL_law_705 : decode cL_law 705 = .ok (.iload_n 3, 1) := by decide +kernel
theorem dL_law_706 : decode cL_law 706 = .ok (.iconst 2, 1) := by decide +kernel
theorem dL_law_707 : decode cL_law 707 = .ok (.iadd, 1) := by decide +kernel
theorem dL_law_708 : decode cL_law 708 = .ok (.iaload, 1) := by decide +kernel
theorem dL_law_709 : decode cL_law 709 = .ok (.invokevirtual 102, 3) := by decide +kernel
theorem dL_law_712 : decode cL_law 712 = .ok (.if_icmp .eq 447, 3) := by decide +kernel
theorem dL_law_715 : decode cL_law 715 = .ok (.iconst 0, 1) := by decide +kernel
theorem dL_law_716 : decode cL_law 716 = .ok (.ireturn, 1) := by decide +kernel
theorem dL_law_717 : decode cL_law 717 = .ok (.aload_n 1, 1) := by decide +kernel
theorem dL_law_718 : decode cL_law 718 = .ok (.invokevirtual 103, 3) := by decide +kernel
theorem dL_law_721 : decode cL_law 721 = .ok (.aload_n 2, 1) := by decide +kernel
theorem dL_law_722 : decode cL_law 722 = .ok (.invokevirtual 106, 3) := by decide +kernel
theorem dL_law_725 : decode cL_law 725 = .ok (.if_icmp .eq 434, 3) := by decide +kernel
theorem dL_law_728 : decode cL_law 728 = .ok (.iconst 0, 1) := by decide +kernel
theorem dL_law_729 : decode cL_law 729 = .ok (.ireturn, 1) := by decide +kernel
theorem dL_law_730 : decode cL_law 730 = .ok (.aload_n 1, 1) := by decide +kernel
theorem dL_law_731 : decode cL_law 731 = .ok (.invokevirtual 107, 3) := by decide +kernel
theorem dL_law_734 : decode cL_law 734 = .ok (.aload_n 2, 1) := by decide +kernel
theorem dL_law_735 : decode cL_law 735 = .ok (.invokevirtual 110, 3) := by decide +kernel
theorem dL_law_738 : decode cL_law 738 = .ok (.if_icmp .eq 421, 3) := by decide +kernel
theorem dL_law_741 : decode cL_law 741 = .ok (.iconst 0, 1) := by decide +kernel
theorem dL_law_742 : decode cL_law 742 = .ok (.ireturn, 1) := by decide +kernel
theorem dL_law_743 : decode cL_law 743 = .ok (.aload_n 1, 1) := by decide +kernel
theorem dL_law_744 : decode cL_law 744 = .ok (.aload_n 0, 1) := by decide +kernel
theorem dL_law_745 : decode cL_law 745 = .ok (.iload_n 3, 1) := by decide +kernel
theorem dL_law_746 : decode cL_law 746 = .ok (.iconst 1, 1) := by decide +kernel
theorem dL_law_747 : decode cL_law 747 = .ok (.iadd, 1) := by decide +kernel
theorem dL_law_748 : decode cL_law 748 = .ok (.iaload, 1) := by decide +kernel
theorem dL_law_749 : decode cL_law 749 = .ok (.aload_n 0, 1) := by decide +kernel
theorem dL_law_750 : decode cL_law 750 = .ok (.iload_n 3, 1) := by decide +kernel
theorem dL_law_751 : decode cL_law 751 = .ok (.iconst 2, 1) := by decide +kernel
theorem dL_law_752 : decode cL_law 752 = .ok (.iadd, 1) := by decide +kernel
theorem dL_law_753 : decode cL_law 753 = .ok (.iaload, 1) := by decide +kernel
theorem dL_law_754 : decode cL_law 754 = .ok (.invokevirtual 111, 3) := by decide +kernel
theorem dL_law_757 : decode cL_law 757 = .ok (.aload_n 2, 1) := by decide +kernel
theorem dL_law_758 : decode cL_law 758 = .ok (.aload_n 0, 1) := by decide +kernel
theorem dL_law_759 : decode cL_law 759 = .ok (.iload_n 3, 1) := by decide +kernel
theorem dL_law_760 : decode cL_law 760 = .ok (.iconst 1, 1) := by decide +kernel
theorem dL_law_761 : decode cL_law 761 = .ok (.iadd, 1) := by decide +kernel
theorem dL_law_762 : decode cL_law 762 = .ok (.iaload, 1) := by decide +kernel
theorem dL_law_763 : decode cL_law 763 = .ok (.aload_n 0, 1) := by decide +kernel
theorem dL_law_764 : decode cL_law 764 = .ok (.iload_n 3, 1) := by decide +kernel
theorem dL_law_765 : decode cL_law 765 = .ok (.iconst 2, 1) := by decide +kernel
theorem dL_law_766 : decode cL_law 766 = .ok (.iadd, 1) := by decide +kernel
theorem dL_law_767 : decode cL_law 767 = .ok (.iaload, 1) := by decide +kernel
theorem dL_law_768 : decode cL_law 768 = .ok (.invokevirtual 114, 3) := by decide +kernel
theorem dL_law_771 : decode cL_law 771 = .ok (.if_icmp .eq 388, 3) := by decide +kernel
theorem dL_law_774 : decode cL_law 774 = .ok (.iconst 0, 1) := by decide +kernel
theorem dL_law_775 : decode cL_law 775 = .ok (.ireturn, 1) := by decide +kernel
theorem dL_law_776 : decode cL_law 776 = .ok (.aload_n 1, 1) := by decide +kernel
theorem dL_law_777 : decode cL_law 777 = .ok (.invokevirtual 115, 3) := by decide +kernel
theorem dL_law_780 : decode cL_law 780 = .ok (.aload_n 2, 1) := by decide +kernel
theorem dL_law_781 : decode cL_law 781 = .ok (.invokevirtual 118, 3) := by decide +kernel
theorem dL_law_784 : decode cL_law 784 = .ok (.if_icmp .eq 375, 3) := by decide +kernel
theorem dL_law_787 : decode cL_law 787 = .ok (.iconst 0, 1) := by decide +kernel
theorem dL_law_788 : decode cL_law 788 = .ok (.ireturn, 1) := by decide +kernel
theorem dL_law_789 : decode cL_law 789 = .ok (.aload_n 1, 1) := by decide +kernel
theorem dL_law_790 : decode cL_law 790 = .ok (.aload_n 0, 1) := by decide +kernel
theorem dL_law_791 : decode cL_law 791 = .ok (.iload_n 3, 1) := by decide +kernel
theorem dL_law_792 : decode cL_law 792 = .ok (.iconst 1, 1) := by decide +kernel
theorem dL_law_793 : decode cL_law 793 = .ok (.iadd, 1) := by decide +kernel
theorem dL_law_794 : decode cL_law 794 = .ok (.iaload, 1) := by decide +kernel
theorem dL_law_795 : decode cL_law 795 = .ok (.aload_n 0, 1) := by decide +kernel
theorem dL_law_796 : decode cL_law 796 = .ok (.iload_n 3, 1) := by decide +kernel
theorem dL_law_797 : decode cL_law 797 = .ok (.iconst 2, 1) := by decide +kernel
theorem dL_law_798 : decode cL_law 798 = .ok (.iadd, 1) := by decide +kernel
theorem dL_law_799 : decode cL_law 799 = .ok (.iaload, 1) := by decide +kernel
theorem dL_law_800 : decode cL_law 800 = .ok (.aload_n 0, 1) := by decide +kernel
theorem dL_law_801 : decode cL_law 801 = .ok (.iload_n 3, 1) := by decide +kernel
theorem dL_law_802 : decode cL_law 802 = .ok (.iconst 3, 1) := by decide +kernel
theorem dL_law_803 : decode cL_law 803 = .ok (.iadd, 1) := by decide +kernel
theorem dL_law_804 : decode cL_law 804 = .ok (.iaload, 1) := by decide +kernel
theorem dL_law_805 : decode cL_law 805 = .ok (.aload_n 0, 1) := by decide +kernel
theorem dL_law_806 : decode cL_law 806 = .ok (.iload_n 3, 1) := by decide +kernel
theorem dL_law_807 : decode cL_law 807 = .ok (.iconst 4, 1) := by decide +kernel
theorem dL_law_808 : decode cL_law 808 = .ok (.iadd, 1) := by decide +kernel
theorem dL_law_809 : decode cL_law 809 = .ok (.iaload, 1) := by decide +kernel
theorem dL_law_810 : decode cL_law 810 = .ok (.invokevirtual 119, 3) := by decide +kernel
theorem dL_law_813 : decode cL_law 813 = .ok (.aload_n 2, 1) := by decide +kernel
theorem dL_law_814 : decode cL_law 814 = .ok (.aload_n 0, 1) := by decide +kernel
theorem dL_law_815 : decode cL_law 815 = .ok (.iload_n 3, 1) := by decide +kernel
theorem dL_law_816 : decode cL_law 816 = .ok (.iconst 1, 1) := by decide +kernel
theorem dL_law_817 : decode cL_law 817 = .ok (.iadd, 1) := by decide +kernel
theorem dL_law_818 : decode cL_law 818 = .ok (.iaload, 1) := by decide +kernel
theorem dL_law_819 : decode cL_law 819 = .ok (.aload_n 0, 1) := by decide +kernel
theorem dL_law_820 : decode cL_law 820 = .ok (.iload_n 3, 1) := by decide +kernel
theorem dL_law_821 : decode cL_law 821 = .ok (.iconst 2, 1) := by decide +kernel
theorem dL_law_822 : decode cL_law 822 = .ok (.iadd, 1) := by decide +kernel
theorem dL_law_823 : decode cL_law 823 = .ok (.iaload, 1) := by decide +kernel
theorem dL_law_824 : decode cL_law 824 = .ok (.aload_n 0, 1) := by decide +kernel
theorem dL_law_825 : decode cL_law 825 = .ok (.iload_n 3, 1) := by decide +kernel
theorem dL_law_826 : decode cL_law 826 = .ok (.iconst 3, 1) := by decide +kernel
theorem dL_law_827 : decode cL_law 827 = .ok (.iadd, 1) := by decide +kernel
theorem dL_law_828 : decode cL_law 828 = .ok (.iaload, 1) := by decide +kernel
theorem dL_law_829 : decode cL_law 829 = .ok (.aload_n 0, 1) := by decide +kernel
theorem dL_law_830 : decode cL_law 830 = .ok (.iload_n 3, 1) := by decide +kernel
theorem dL_law_831 : decode cL_law 831 = .ok (.iconst 4, 1) := by decide +kernel
theorem dL_law_832 : decode cL_law 832 = .ok (.iadd, 1) := by decide +kernel
theorem dL_law_833 : decode cL_law 833 = .ok (.iaload, 1) := by decide +kernel
theorem dL_law_834 : decode cL_law 834 = .ok (.invokevirtual 123, 3) := by decide +kernel
theorem dL_law_837 : decode cL_law 837 = .ok (.if_icmp .eq 322, 3) := by decide +kernel
theorem dL_law_840 : decode cL_law 840 = .ok (.iconst 0, 1) := by decide +kernel
theorem dL_law_841 : decode cL_law 841 = .ok (.ireturn, 1) := by decide +kernel
theorem dL_law_842 : decode cL_law 842 = .ok (.aload_n 1, 1) := by decide +kernel
theorem dL_law_843 : decode cL_law 843 = .ok (.aload_n 0, 1) := by decide +kernel
theorem dL_law_844 : decode cL_law 844 = .ok (.iload_n 3, 1) := by decide +kernel
theorem dL_law_845 : decode cL_law 845 = .ok (.iconst 1, 1) := by decide +kernel
theorem dL_law_846 : decode cL_law 846 = .ok (.iadd, 1) := by decide +kernel
theorem dL_law_847 : decode cL_law 847 = .ok (.iaload, 1) := by decide +kernel
theorem dL_law_848 : decode cL_law 848 = .ok (.invokevirtual 124, 3) := by decide +kernel
theorem dL_law_851 : decode cL_law 851 = .ok (.aload_n 2, 1) := by decide +kernel
theorem dL_law_852 : decode cL_law 852 = .ok (.aload_n 0, 1) := by decide +kernel
theorem dL_law_853 : decode cL_law 853 = .ok (.iload_n 3, 1) := by decide +kernel
theorem dL_law_854 : decode cL_law 854 = .ok (.iconst 1, 1) := by decide +kernel
theorem dL_law_855 : decode cL_law 855 = .ok (.iadd, 1) := by decide +kernel
theorem dL_law_856 : decode cL_law 856 = .ok (.iaload, 1) := by decide +kernel
theorem dL_law_857 : decode cL_law 857 = .ok (.invokevirtual 127, 3) := by decide +kernel
theorem dL_law_860 : decode cL_law 860 = .ok (.if_icmp .eq 299, 3) := by decide +kernel
theorem dL_law_863 : decode cL_law 863 = .ok (.iconst 0, 1) := by decide +kernel
theorem dL_law_864 : decode cL_law 864 = .ok (.ireturn, 1) := by decide +kernel
theorem dL_law_865 : decode cL_law 865 = .ok (.aload_n 1, 1) := by decide +kernel
theorem dL_law_866 : decode cL_law 866 = .ok (.aload_n 0, 1) := by decide +kernel
theorem dL_law_867 : decode cL_law 867 = .ok (.iload_n 3, 1) := by decide +kernel
theorem dL_law_868 : decode cL_law 868 = .ok (.iconst 1, 1) := by decide +kernel
theorem dL_law_869 : decode cL_law 869 = .ok (.iadd, 1) := by decide +kernel
theorem dL_law_870 : decode cL_law 870 = .ok (.iaload, 1) := by decide +kernel
theorem dL_law_871 : decode cL_law 871 = .ok (.invokevirtual 128, 3) := by decide +kernel
theorem dL_law_874 : decode cL_law 874 = .ok (.aload_n 2, 1) := by decide +kernel
theorem dL_law_875 : decode cL_law 875 = .ok (.aload_n 0, 1) := by decide +kernel
theorem dL_law_876 : decode cL_law 876 = .ok (.iload_n 3, 1) := by decide +kernel
theorem dL_law_877 : decode cL_law 877 = .ok (.iconst 1, 1) := by decide +kernel
theorem dL_law_878 : decode cL_law 878 = .ok (.iadd, 1) := by decide +kernel
theorem dL_law_879 : decode cL_law 879 = .ok (.iaload, 1) := by decide +kernel
theorem dL_law_880 : decode cL_law 880 = .ok (.invokevirtual 131, 3) := by decide +kernel
theorem dL_law_883 : decode cL_law 883 = .ok (.if_icmp .eq 276, 3) := by decide +kernel
theorem dL_law_886 : decode cL_law 886 = .ok (.iconst 0, 1) := by decide +kernel
theorem dL_law_887 : decode cL_law 887 = .ok (.ireturn, 1) := by decide +kernel
theorem dL_law_888 : decode cL_law 888 = .ok (.aload_n 1, 1) := by decide +kernel
theorem dL_law_889 : decode cL_law 889 = .ok (.aload_n 0, 1) := by decide +kernel
theorem dL_law_890 : decode cL_law 890 = .ok (.iload_n 3, 1) := by decide +kernel
theorem dL_law_891 : decode cL_law 891 = .ok (.iconst 1, 1) := by decide +kernel
theorem dL_law_892 : decode cL_law 892 = .ok (.iadd, 1) := by decide +kernel
theorem dL_law_893 : decode cL_law 893 = .ok (.iaload, 1) := by decide +kernel
theorem dL_law_894 : decode cL_law 894 = .ok (.invokevirtual 132, 3) := by decide +kernel
theorem dL_law_897 : decode cL_law 897 = .ok (.aload_n 2, 1) := by decide +kernel
theorem dL_law_898 : decode cL_law 898 = .ok (.aload_n 0, 1) := by decide +kernel
theorem dL_law_899 : decode cL_law 899 = .ok (.iload_n 3, 1) := by decide +kernel
theorem dL_law_900 : decode cL_law 900 = .ok (.iconst 1, 1) := by decide +kernel
theorem dL_law_901 : decode cL_law 901 = .ok (.iadd, 1) := by decide +kernel
theorem dL_law_902 : decode cL_law 902 = .ok (.iaload, 1) := by decide +kernel
theorem dL_law_903 : decode cL_law 903 = .ok (.invokevirtual 135, 3) := by decide +kernel
theorem dL_law_906 : decode cL_law 906 = .ok (.if_icmp .eq 253, 3) := by decide +kernel
theorem dL_law_909 : decode cL_law 909 = .ok (.iconst 0, 1) := by decide +kernel
theorem dL_law_910 : decode cL_law 910 = .ok (.ireturn, 1) := by decide +kernel
theorem dL_law_911 : decode cL_law 911 = .ok (.aload_n 1, 1) := by decide +kernel
theorem dL_law_912 : decode cL_law 912 = .ok (.aload_n 0, 1) := by decide +kernel
theorem dL_law_913 : decode cL_law 913 = .ok (.iload_n 3, 1) := by decide +kernel
theorem dL_law_914 : decode cL_law 914 = .ok (.iconst 1, 1) := by decide +kernel
theorem dL_law_915 : decode cL_law 915 = .ok (.iadd, 1) := by decide +kernel
theorem dL_law_916 : decode cL_law 916 = .ok (.iaload, 1) := by decide +kernel
theorem dL_law_917 : decode cL_law 917 = .ok (.invokevirtual 136, 3) := by decide +kernel
theorem dL_law_920 : decode cL_law 920 = .ok (.aload_n 2, 1) := by decide +kernel
theorem dL_law_921 : decode cL_law 921 = .ok (.aload_n 0, 1) := by decide +kernel
theorem dL_law_922 : decode cL_law 922 = .ok (.iload_n 3, 1) := by decide +kernel
theorem dL_law_923 : decode cL_law 923 = .ok (.iconst 1, 1) := by decide +kernel
theorem dL_law_924 : decode cL_law 924 = .ok (.iadd, 1) := by decide +kernel
theorem dL_law_925 : decode cL_law 925 = .ok (.iaload, 1) := by decide +kernel
theorem dL_law_926 : decode cL_law 926 = .ok (.invokevirtual 139, 3) := by decide +kernel
theorem dL_law_929 : decode cL_law 929 = .ok (.if_icmp .eq 230, 3) := by decide +kernel
theorem dL_law_932 : decode cL_law 932 = .ok (.iconst 0, 1) := by decide +kernel
theorem dL_law_933 : decode cL_law 933 = .ok (.ireturn, 1) := by decide +kernel
theorem dL_law_934 : decode cL_law 934 = .ok (.aload_n 1, 1) := by decide +kernel
theorem dL_law_935 : decode cL_law 935 = .ok (.aload_n 0, 1) := by decide +kernel
theorem dL_law_936 : decode cL_law 936 = .ok (.iload_n 3, 1) := by decide +kernel
theorem dL_law_937 : decode cL_law 937 = .ok (.iconst 1, 1) := by decide +kernel
theorem dL_law_938 : decode cL_law 938 = .ok (.iadd, 1) := by decide +kernel
theorem dL_law_939 : decode cL_law 939 = .ok (.iaload, 1) := by decide +kernel
theorem dL_law_940 : decode cL_law 940 = .ok (.invokevirtual 140, 3) := by decide +kernel
theorem dL_law_943 : decode cL_law 943 = .ok (.aload_n 2, 1) := by decide +kernel
theorem dL_law_944 : decode cL_law 944 = .ok (.aload_n 0, 1) := by decide +kernel
theorem dL_law_945 : decode cL_law 945 = .ok (.iload_n 3, 1) := by decide +kernel
theorem dL_law_946 : decode cL_law 946 = .ok (.iconst 1, 1) := by decide +kernel
theorem dL_law_947 : decode cL_law 947 = .ok (.iadd, 1) := by decide +kernel
theorem dL_law_948 : decode cL_law 948 = .ok (.iaload, 1) := by decide +kernel
theorem dL_law_949 : decode cL_law 949 = .ok (.invokevirtual 143, 3) := by decide +kernel
theorem dL_law_952 : decode cL_law 952 = .ok (.if_icmp .eq 207, 3) := by decide +kernel
theorem dL_law_955 : decode cL_law 955 = .ok (.iconst 0, 1) := by decide +kernel
theorem dL_law_956 : decode cL_law 956 = .ok (.ireturn, 1) := by decide +kernel
theorem dL_law_957 : decode cL_law 957 = .ok (.aload_n 1, 1) := by decide +kernel
theorem dL_law_958 : decode cL_law 958 = .ok (.aload_n 0, 1) := by decide +kernel
theorem dL_law_959 : decode cL_law 959 = .ok (.iload_n 3, 1) := by decide +kernel
theorem dL_law_960 : decode cL_law 960 = .ok (.iconst 1, 1) := by decide +kernel
theorem dL_law_961 : decode cL_law 961 = .ok (.iadd, 1) := by decide +kernel
theorem dL_law_962 : decode cL_law 962 = .ok (.iaload, 1) := by decide +kernel
theorem dL_law_963 : decode cL_law 963 = .ok (.invokevirtual 144, 3) := by decide +kernel
theorem dL_law_966 : decode cL_law 966 = .ok (.aload_n 2, 1) := by decide +kernel
theorem dL_law_967 : decode cL_law 967 = .ok (.aload_n 0, 1) := by decide +kernel
theorem dL_law_968 : decode cL_law 968 = .ok (.iload_n 3, 1) := by decide +kernel
theorem dL_law_969 : decode cL_law 969 = .ok (.iconst 1, 1) := by decide +kernel
theorem dL_law_970 : decode cL_law 970 = .ok (.iadd, 1) := by decide +kernel
theorem dL_law_971 : decode cL_law 971 = .ok (.iaload, 1) := by decide +kernel
theorem dL_law_972 : decode cL_law 972 = .ok (.invokevirtual 147, 3) := by decide +kernel
theorem dL_law_975 : decode cL_law 975 = .ok (.if_icmp .eq 184, 3) := by decide +kernel
theorem dL_law_978 : decode cL_law 978 = .ok (.iconst 0, 1) := by decide +kernel
theorem dL_law_979 : decode cL_law 979 = .ok (.ireturn, 1) := by decide +kernel
theorem dL_law_980 : decode cL_law 980 = .ok (.aload_n 1, 1) := by decide +kernel
theorem dL_law_981 : decode cL_law 981 = .ok (.aload_n 0, 1) := by decide +kernel
theorem dL_law_982 : decode cL_law 982 = .ok (.iload_n 3, 1) := by decide +kernel
theorem dL_law_983 : decode cL_law 983 = .ok (.iconst 1, 1) := by decide +kernel
theorem dL_law_984 : decode cL_law 984 = .ok (.iadd, 1) := by decide +kernel
theorem dL_law_985 : decode cL_law 985 = .ok (.iaload, 1) := by decide +kernel
theorem dL_law_986 : decode cL_law 986 = .ok (.aload_n 0, 1) := by decide +kernel
theorem dL_law_987 : decode cL_law 987 = .ok (.iload_n 3, 1) := by decide +kernel
theorem dL_law_988 : decode cL_law 988 = .ok (.iconst 2, 1) := by decide +kernel
theorem dL_law_989 : decode cL_law 989 = .ok (.iadd, 1) := by decide +kernel
theorem dL_law_990 : decode cL_law 990 = .ok (.iaload, 1) := by decide +kernel
theorem dL_law_991 : decode cL_law 991 = .ok (.aload_n 0, 1) := by decide +kernel
theorem dL_law_992 : decode cL_law 992 = .ok (.iload_n 3, 1) := by decide +kernel
theorem dL_law_993 : decode cL_law 993 = .ok (.iconst 3, 1) := by decide +kernel
theorem dL_law_994 : decode cL_law 994 = .ok (.iadd, 1) := by decide +kernel
theorem dL_law_995 : decode cL_law 995 = .ok (.iaload, 1) := by decide +kernel
theorem dL_law_996 : decode cL_law 996 = .ok (.invokevirtual 148, 3) := by decide +kernel
theorem dL_law_999 : decode cL_law 999 = .ok (.aload_n 2, 1) := by decide +kernel
theorem dL_law_1000 : decode cL_law 1000 = .ok (.aload_n 0, 1) := by decide +kernel
theorem dL_law_1001 : decode cL_law 1001 = .ok (.iload_n 3, 1) := by decide +kernel
theorem dL_law_1002 : decode cL_law 1002 = .ok (.iconst 1, 1) := by decide +kernel
theorem dL_law_1003 : decode cL_law 1003 = .ok (.iadd, 1) := by decide +kernel
theorem dL_law_1004 : decode cL_law 1004 = .ok (.iaload, 1) := by decide +kernel
theorem dL_law_1005 : decode cL_law 1005 = .ok (.aload_n 0, 1) := by decide +kernel
theorem dL_law_1006 : decode cL_law 1006 = .ok (.iload_n 3, 1) := by decide +kernel
theorem dL_law_1007 : decode cL_law 1007 = .ok (.iconst 2, 1) := by decide +kernel
theorem dL_law_1008 : decode cL_law 1008 = .ok (.iadd, 1) := by decide +kernel
theorem dL_law_1009 : decode cL_law 1009 = .ok (.iaload, 1) := by decide +kernel
theorem dL_law_1010 : decode cL_law 1010 = .ok (.aload_n 0, 1) := by decide +kernel
theorem dL_law_1011 : decode cL_law 1011 = .ok (.iload_n 3, 1) := by decide +kernel
theorem dL_law_1012 : decode cL_law 1012 = .ok (.iconst 3, 1) := by decide +kernel
theorem dL_law_1013 : decode cL_law 1013 = .ok (.iadd, 1) := by decide +kernel
theorem dL_law_1014 : decode cL_law 1014 = .ok (.iaload, 1) := by decide +kernel
theorem dL_law_1015 : decode cL_law 1015 = .ok (.invokevirtual 151, 3) := by decide +kernel
theorem dL_law_1018 : decode cL_law 1018 = .ok (.if_icmp .eq 141, 3) := by decide +kernel
theorem dL_law_1021 : decode cL_law 1021 = .ok (.iconst 0, 1) := by decide +kernel
theorem dL_law_1022 : decode cL_law 1022 = .ok (.ireturn, 1) := by decide +kernel
theorem dL_law_1023 : decode cL_law 1023 = .ok (.aload_n 1, 1) := by decide +kernel
theorem dL_law_1024 : decode cL_law 1024 = .ok (.aload_n 0, 1) := by decide +kernel
theorem dL_law_1025 : decode cL_law 1025 = .ok (.iload_n 3, 1) := by decide +kernel
theorem dL_law_1026 : decode cL_law 1026 = .ok (.iconst 1, 1) := by decide +kernel
theorem dL_law_1027 : decode cL_law 1027 = .ok (.iadd, 1) := by decide +kernel
theorem dL_law_1028 : decode cL_law 1028 = .ok (.iaload, 1) := by decide +kernel
theorem dL_law_1029 : decode cL_law 1029 = .ok (.aload_n 0, 1) := by decide +kernel
theorem dL_law_1030 : decode cL_law 1030 = .ok (.iload_n 3, 1) := by decide +kernel
theorem dL_law_1031 : decode cL_law 1031 = .ok (.iconst 2, 1) := by decide +kernel
theorem dL_law_1032 : decode cL_law 1032 = .ok (.iadd, 1) := by decide +kernel
theorem dL_law_1033 : decode cL_law 1033 = .ok (.iaload, 1) := by decide +kernel
theorem dL_law_1034 : decode cL_law 1034 = .ok (.aload_n 0, 1) := by decide +kernel
theorem dL_law_1035 : decode cL_law 1035 = .ok (.iload_n 3, 1) := by decide +kernel
theorem dL_law_1036 : decode cL_law 1036 = .ok (.iconst 3, 1) := by decide +kernel
theorem dL_law_1037 : decode cL_law 1037 = .ok (.iadd, 1) := by decide +kernel
theorem dL_law_1038 : decode cL_law 1038 = .ok (.iaload, 1) := by decide +kernel
theorem dL_law_1039 : decode cL_law 1039 = .ok (.i2l, 1) := by decide +kernel
theorem dL_law_1040 : decode cL_law 1040 = .ok (.bipush 32, 2) := by decide +kernel
theorem dL_law_1042 : decode cL_law 1042 = .ok (.lshl, 1) := by decide +kernel
theorem dL_law_1043 : decode cL_law 1043 = .ok (.aload_n 0, 1) := by decide +kernel
theorem dL_law_1044 : decode cL_law 1044 = .ok (.iload_n 3, 1) := by decide +kernel
theorem dL_law_1045 : decode cL_law 1045 = .ok (.iconst 4, 1) := by decide +kernel
theorem dL_law_1046 : decode cL_law 1046 = .ok (.iadd, 1) := by decide +kernel
theorem dL_law_1047 : decode cL_law 1047 = .ok (.iaload, 1) := by decide +kernel
theorem dL_law_1048 : decode cL_law 1048 = .ok (.i2l, 1) := by decide +kernel
theorem dL_law_1049 : decode cL_law 1049 = .ok (.ldc2_w 152, 3) := by decide +kernel
theorem dL_law_1052 : decode cL_law 1052 = .ok (.land, 1) := by decide +kernel
theorem dL_law_1053 : decode cL_law 1053 = .ok (.lor, 1) := by decide +kernel
theorem dL_law_1054 : decode cL_law 1054 = .ok (.invokevirtual 154, 3) := by decide +kernel
theorem dL_law_1057 : decode cL_law 1057 = .ok (.aload_n 2, 1) := by decide +kernel
theorem dL_law_1058 : decode cL_law 1058 = .ok (.aload_n 0, 1) := by decide +kernel
theorem dL_law_1059 : decode cL_law 1059 = .ok (.iload_n 3, 1) := by decide +kernel
theorem dL_law_1060 : decode cL_law 1060 = .ok (.iconst 1, 1) := by decide +kernel
theorem dL_law_1061 : decode cL_law 1061 = .ok (.iadd, 1) := by decide +kernel
theorem dL_law_1062 : decode cL_law 1062 = .ok (.iaload, 1) := by decide +kernel
theorem dL_law_1063 : decode cL_law 1063 = .ok (.aload_n 0, 1) := by decide +kernel
theorem dL_law_1064 : decode cL_law 1064 = .ok (.iload_n 3, 1) := by decide +kernel
theorem dL_law_1065 : decode cL_law 1065 = .ok (.iconst 2, 1) := by decide +kernel
theorem dL_law_1066 : decode cL_law 1066 = .ok (.iadd, 1) := by decide +kernel
theorem dL_law_1067 : decode cL_law 1067 = .ok (.iaload, 1) := by decide +kernel
theorem dL_law_1068 : decode cL_law 1068 = .ok (.aload_n 0, 1) := by decide +kernel
theorem dL_law_1069 : decode cL_law 1069 = .ok (.iload_n 3, 1) := by decide +kernel
theorem dL_law_1070 : decode cL_law 1070 = .ok (.iconst 3, 1) := by decide +kernel
theorem dL_law_1071 : decode cL_law 1071 = .ok (.iadd, 1) := by decide +kernel
theorem dL_law_1072 : decode cL_law 1072 = .ok (.iaload, 1) := by decide +kernel
theorem dL_law_1073 : decode cL_law 1073 = .ok (.i2l, 1) := by decide +kernel
theorem dL_law_1074 : decode cL_law 1074 = .ok (.bipush 32, 2) := by decide +kernel
theorem dL_law_1076 : decode cL_law 1076 = .ok (.lshl, 1) := by decide +kernel
theorem dL_law_1077 : decode cL_law 1077 = .ok (.aload_n 0, 1) := by decide +kernel
theorem dL_law_1078 : decode cL_law 1078 = .ok (.iload_n 3, 1) := by decide +kernel
theorem dL_law_1079 : decode cL_law 1079 = .ok (.iconst 4, 1) := by decide +kernel
theorem dL_law_1080 : decode cL_law 1080 = .ok (.iadd, 1) := by decide +kernel
theorem dL_law_1081 : decode cL_law 1081 = .ok (.iaload, 1) := by decide +kernel
theorem dL_law_1082 : decode cL_law 1082 = .ok (.i2l, 1) := by decide +kernel
theorem dL_law_1083 : decode cL_law 1083 = .ok (.ldc2_w 152, 3) := by decide +kernel
theorem dL_law_1086 : decode cL_law 1086 = .ok (.land, 1) := by decide +kernel
theorem dL_law_1087 : decode cL_law 1087 = .ok (.lor, 1) := by decide +kernel
theorem dL_law_1088 : decode cL_law 1088 = .ok (.invokevirtual 158, 3) := by decide +kernel
theorem dL_law_1091 : decode cL_law 1091 = .ok (.if_icmp .eq 68, 3) := by decide +kernel
theorem dL_law_1094 : decode cL_law 1094 = .ok (.iconst 0, 1) := by decide +kernel
theorem dL_law_1095 : decode cL_law 1095 = .ok (.ireturn, 1) := by decide +kernel
theorem dL_law_1096 : decode cL_law 1096 = .ok (.aload_n 1, 1) := by decide +kernel
theorem dL_law_1097 : decode cL_law 1097 = .ok (.aload_n 0, 1) := by decide +kernel
theorem dL_law_1098 : decode cL_law 1098 = .ok (.iload_n 3, 1) := by decide +kernel
theorem dL_law_1099 : decode cL_law 1099 = .ok (.iconst 1, 1) := by decide +kernel
theorem dL_law_1100 : decode cL_law 1100 = .ok (.iadd, 1) := by decide +kernel
theorem dL_law_1101 : decode cL_law 1101 = .ok (.iaload, 1) := by decide +kernel
theorem dL_law_1102 : decode cL_law 1102 = .ok (.aload_n 0, 1) := by decide +kernel
theorem dL_law_1103 : decode cL_law 1103 = .ok (.iload_n 3, 1) := by decide +kernel
theorem dL_law_1104 : decode cL_law 1104 = .ok (.iconst 2, 1) := by decide +kernel
theorem dL_law_1105 : decode cL_law 1105 = .ok (.iadd, 1) := by decide +kernel
theorem dL_law_1106 : decode cL_law 1106 = .ok (.iaload, 1) := by decide +kernel
theorem dL_law_1107 : decode cL_law 1107 = .ok (.aload_n 0, 1) := by decide +kernel
theorem dL_law_1108 : decode cL_law 1108 = .ok (.iload_n 3, 1) := by decide +kernel
theorem dL_law_1109 : decode cL_law 1109 = .ok (.iconst 3, 1) := by decide +kernel
theorem dL_law_1110 : decode cL_law 1110 = .ok (.iadd, 1) := by decide +kernel
theorem dL_law_1111 : decode cL_law 1111 = .ok (.iaload, 1) := by decide +kernel
theorem dL_law_1112 : decode cL_law 1112 = .ok (.aload_n 0, 1) := by decide +kernel
theorem dL_law_1113 : decode cL_law 1113 = .ok (.iload_n 3, 1) := by decide +kernel
theorem dL_law_1114 : decode cL_law 1114 = .ok (.iconst 4, 1) := by decide +kernel
theorem dL_law_1115 : decode cL_law 1115 = .ok (.iadd, 1) := by decide +kernel
theorem dL_law_1116 : decode cL_law 1116 = .ok (.iaload, 1) := by decide +kernel
theorem dL_law_1117 : decode cL_law 1117 = .ok (.aload_n 0, 1) := by decide +kernel
theorem dL_law_1118 : decode cL_law 1118 = .ok (.iload_n 3, 1) := by decide +kernel
theorem dL_law_1119 : decode cL_law 1119 = .ok (.iconst 5, 1) := by decide +kernel
theorem dL_law_1120 : decode cL_law 1120 = .ok (.iadd, 1) := by decide +kernel
theorem dL_law_1121 : decode cL_law 1121 = .ok (.iaload, 1) := by decide +kernel
theorem dL_law_1122 : decode cL_law 1122 = .ok (.invokevirtual 159, 3) := by decide +kernel
theorem dL_law_1125 : decode cL_law 1125 = .ok (.aload_n 2, 1) := by decide +kernel
theorem dL_law_1126 : decode cL_law 1126 = .ok (.aload_n 0, 1) := by decide +kernel
theorem dL_law_1127 : decode cL_law 1127 = .ok (.iload_n 3, 1) := by decide +kernel
theorem dL_law_1128 : decode cL_law 1128 = .ok (.iconst 1, 1) := by decide +kernel
theorem dL_law_1129 : decode cL_law 1129 = .ok (.iadd, 1) := by decide +kernel
theorem dL_law_1130 : decode cL_law 1130 = .ok (.iaload, 1) := by decide +kernel
theorem dL_law_1131 : decode cL_law 1131 = .ok (.aload_n 0, 1) := by decide +kernel
theorem dL_law_1132 : decode cL_law 1132 = .ok (.iload_n 3, 1) := by decide +kernel
theorem dL_law_1133 : decode cL_law 1133 = .ok (.iconst 2, 1) := by decide +kernel
theorem dL_law_1134 : decode cL_law 1134 = .ok (.iadd, 1) := by decide +kernel
theorem dL_law_1135 : decode cL_law 1135 = .ok (.iaload, 1) := by decide +kernel
theorem dL_law_1136 : decode cL_law 1136 = .ok (.aload_n 0, 1) := by decide +kernel
theorem dL_law_1137 : decode cL_law 1137 = .ok (.iload_n 3, 1) := by decide +kernel
theorem dL_law_1138 : decode cL_law 1138 = .ok (.iconst 3, 1) := by decide +kernel
theorem dL_law_1139 : decode cL_law 1139 = .ok (.iadd, 1) := by decide +kernel
theorem dL_law_1140 : decode cL_law 1140 = .ok (.iaload, 1) := by decide +kernel
theorem dL_law_1141 : decode cL_law 1141 = .ok (.aload_n 0, 1) := by decide +kernel
theorem dL_law_1142 : decode cL_law 1142 = .ok (.iload_n 3, 1) := by decide +kernel
theorem dL_law_1143 : decode cL_law 1143 = .ok (.iconst 4, 1) := by decide +kernel
theorem dL_law_1144 : decode cL_law 1144 = .ok (.iadd, 1) := by decide +kernel
theorem dL_law_1145 : decode cL_law 1145 = .ok (.iaload, 1) := by decide +kernel
theorem dL_law_1146 : decode cL_law 1146 = .ok (.aload_n 0, 1) := by decide +kernel
theorem dL_law_1147 : decode cL_law 1147 = .ok (.iload_n 3, 1) := by decide +kernel
theorem dL_law_1148 : decode cL_law 1148 = .ok (.iconst 5, 1) := by decide +kernel
theorem dL_law_1149 : decode cL_law 1149 = .ok (.iadd, 1) := by decide +kernel
theorem dL_law_1150 : decode cL_law 1150 = .ok (.iaload, 1) := by decide +kernel
theorem dL_law_1151 : decode cL_law 1151 = .ok (.invokevirtual 162, 3) := by decide +kernel
theorem dL_law_1154 : decode cL_law 1154 = .ok (.if_icmp .eq 5, 3) := by decide +kernel
theorem dL_law_1157 : decode cL_law 1157 = .ok (.iconst 0, 1) := by decide +kernel
theorem dL_law_1158 : decode cL_law 1158 = .ok (.ireturn, 1) := by decide +kernel
theorem dL_law_1159 : decode cL_law 1159 = .ok (.iinc 3 6, 3) := by decide +kernel
theorem dL_law_1162 : decode cL_law 1162 = .ok (.goto (-1144), 3) := by decide +kernel
theorem dL_law_1165 : decode cL_law 1165 = .ok (.iconst 1, 1) := by decide +kernel
theorem dL_law_1166 : decode cL_law 1166 = .ok (.ireturn, 1) := by decide +kernel
theorem cw_L_law_49 : CwV mi_L_law mi_X12_run yX12_run RX12 49 2 := ⟨⟨w_1592, w_1593, w_1594, w_108, w_1595⟩, ⟨by decide, by decide⟩, by decide +kernel, by decide, by decide⟩
theorem cw_L_law_45 : CwV mi_L_law mi_X11_run yX11_run RX11 45 2 := ⟨⟨w_903, w_904, w_905, w_95, w_906⟩, ⟨by decide, by decide⟩, by decide +kernel, by decide, by decide⟩
theorem cw_L_law_13 : CwV mi_L_law mi_X11_feed yX11_feed RX11 13 5 := ⟨⟨w_569, w_570, w_571, w_95, w_572⟩, ⟨by decide, by decide⟩, by decide +kernel, by decide, by decide⟩
theorem cw_L_law_17 : CwV mi_L_law mi_X12_feed yX12_feed RX12 17 5 := ⟨⟨w_1372, w_1373, w_1374, w_108, w_1375⟩, ⟨by decide, by decide⟩, by decide +kernel, by decide, by decide⟩
theorem cw_L_law_18 : CwV mi_L_law mi_X11_end yX11_end RX11 18 1 := ⟨⟨w_577, w_578, w_579, w_95, w_580⟩, ⟨by decide, by decide⟩, by decide +kernel, by decide, by decide⟩
theorem cw_L_law_22 : CwV mi_L_law mi_X12_end yX12_end RX12 22 1 := ⟨⟨w_1376, w_1377, w_1378, w_108, w_1379⟩, ⟨by decide, by decide⟩, by decide +kernel, by decide, by decide⟩
theorem cw_L_law_23 : CwV mi_L_law mi_X11_text yX11_text RX11 23 0 := ⟨⟨w_581, w_582, w_583, w_95, w_584⟩, ⟨by decide, by decide⟩, by decide +kernel, by decide, by decide⟩
theorem cw_L_law_27 : CwV mi_L_law mi_X12_text yX12_text RX12 27 0 := ⟨⟨w_1380, w_1381, w_1382, w_108, w_1383⟩, ⟨by decide, by decide⟩, by decide +kernel, by decide, by decide⟩
theorem cw_L_law_28 : CwV mi_L_law mi_X11_fault yX11_fault RX11 28 1 := ⟨⟨w_784, w_785, w_786, w_95, w_787⟩, ⟨by decide, by decide⟩, by decide +kernel, by decide, by decide⟩
theorem cw_L_law_31 : CwV mi_L_law mi_X12_fault yX12_fault RX12 31 1 := ⟨⟨w_1498, w_1499, w_1500, w_108, w_1501⟩, ⟨by decide, by decide⟩, by decide +kernel, by decide, by decide⟩
theorem cw_L_law_32 : CwV mi_L_law mi_X11_tick yX11_tick RX11 32 1 := ⟨⟨w_788, w_789, w_790, w_95, w_791⟩, ⟨by decide, by decide⟩, by decide +kernel, by decide, by decide⟩
theorem cw_L_law_35 : CwV mi_L_law mi_X12_tick yX12_tick RX12 35 1 := ⟨⟨w_1502, w_1503, w_1504, w_108, w_1505⟩, ⟨by decide, by decide⟩, by decide +kernel, by decide, by decide⟩
theorem cw_L_law_36 : CwV mi_L_law mi_X11_cell yX11_cell RX11 36 3 := ⟨⟨w_881, w_882, w_883, w_95, w_884⟩, ⟨by decide, by decide⟩, by decide +kernel, by decide, by decide⟩
theorem cw_L_law_40 : CwV mi_L_law mi_X12_cell yX12_cell RX12 40 3 := ⟨⟨w_1578, w_1579, w_1580, w_108, w_1581⟩, ⟨by decide, by decide⟩, by decide +kernel, by decide, by decide⟩
theorem cw_L_law_41 : CwV mi_L_law mi_X11_heat yX11_heat RX11 41 1 := ⟨⟨w_895, w_896, w_897, w_95, w_898⟩, ⟨by decide, by decide⟩, by decide +kernel, by decide, by decide⟩
theorem cw_L_law_44 : CwV mi_L_law mi_X12_heat yX12_heat RX12 44 1 := ⟨⟨w_1587, w_1588, w_1589, w_108, w_1590⟩, ⟨by decide, by decide⟩, by decide +kernel, by decide, by decide⟩
theorem cw_L_law_50 : CwV mi_L_law mi_X11_pipe yX11_pipe RX11 50 2 := ⟨⟨w_907, w_908, w_909, w_95, w_910⟩, ⟨by decide, by decide⟩, by decide +kernel, by decide, by decide⟩
theorem cw_L_law_54 : CwV mi_L_law mi_X12_pipe yX12_pipe RX12 54 2 := ⟨⟨w_1600, w_1601, w_1602, w_108, w_1603⟩, ⟨by decide, by decide⟩, by decide +kernel, by decide, by decide⟩
theorem cw_L_law_55 : CwV mi_L_law mi_X11_cold yX11_cold RX11 55 1 := ⟨⟨w_916, w_917, w_918, w_95, w_919⟩, ⟨by decide, by decide⟩, by decide +kernel, by decide, by decide⟩
theorem cw_L_law_58 : CwV mi_L_law mi_X12_cold yX12_cold RX12 58 1 := ⟨⟨w_1604, w_1605, w_1606, w_108, w_1607⟩, ⟨by decide, by decide⟩, by decide +kernel, by decide, by decide⟩
theorem cw_L_law_59 : CwV mi_L_law mi_X11_shut yX11_shut RX11 59 0 := ⟨⟨w_921, w_922, w_923, w_95, w_924⟩, ⟨by decide, by decide⟩, by decide +kernel, by decide, by decide⟩
theorem cw_L_law_62 : CwV mi_L_law mi_X12_shut yX12_shut RX12 62 0 := ⟨⟨w_1609, w_1610, w_1611, w_108, w_1612⟩, ⟨by decide, by decide⟩, by decide +kernel, by decide, by decide⟩
theorem cw_L_law_63 : CwV mi_L_law mi_X11_way yX11_way RX11 63 0 := ⟨⟨w_925, w_926, w_927, w_95, w_928⟩, ⟨by decide, by decide⟩, by decide +kernel, by decide, by decide⟩
theorem cw_L_law_66 : CwV mi_L_law mi_X12_way yX12_way RX12 66 0 := ⟨⟨w_1617, w_1618, w_1619, w_108, w_1620⟩, ⟨by decide, by decide⟩, by decide +kernel, by decide, by decide⟩
theorem cw_L_law_67 : CwV mi_L_law mi_X11_gaps yX11_gaps RX11 67 0 := ⟨⟨w_930, w_931, w_932, w_95, w_933⟩, ⟨by decide, by decide⟩, by decide +kernel, by decide, by decide⟩
theorem cw_L_law_70 : CwV mi_L_law mi_X12_gaps yX12_gaps RX12 70 0 := ⟨⟨w_1625, w_1626, w_1627, w_108, w_1628⟩, ⟨by decide, by decide⟩, by decide +kernel, by decide, by decide⟩
theorem cw_L_law_71 : CwV mi_L_law mi_X11_gap yX11_gap RX11 71 1 := ⟨⟨w_973, w_974, w_975, w_95, w_976⟩, ⟨by decide, by decide⟩, by decide +kernel, by decide, by decide⟩
theorem cw_L_law_74 : CwV mi_L_law mi_X12_gap yX12_gap RX12 74 1 := ⟨⟨w_1652, w_1653, w_1654, w_108, w_1655⟩, ⟨by decide, by decide⟩, by decide +kernel, by decide, by decide⟩
theorem cw_L_law_75 : CwV mi_L_law mi_X11_thick yX11_thick RX11 75 0 := ⟨⟨w_977, w_978, w_979, w_95, w_980⟩, ⟨by decide, by decide⟩, by decide +kernel, by decide, by decide⟩
theorem cw_L_law_78 : CwV mi_L_law mi_X12_thick yX12_thick RX12 78 0 := ⟨⟨w_1621, w_1622, w_1623, w_108, w_1624⟩, ⟨by decide, by decide⟩, by decide +kernel, by decide, by decide⟩
theorem cw_L_law_79 : CwV mi_L_law mi_X11_dig yX11_dig RX11 79 2 := ⟨⟨w_993, w_994, w_995, w_95, w_996⟩, ⟨by decide, by decide⟩, by decide +kernel, by decide, by decide⟩
theorem cw_L_law_82 : CwV mi_L_law mi_X12_dig yX12_dig RX12 82 2 := ⟨⟨w_1668, w_1669, w_1670, w_108, w_1671⟩, ⟨by decide, by decide⟩, by decide +kernel, by decide, by decide⟩
theorem cw_L_law_83 : CwV mi_L_law mi_X11_lacks yX11_lacks RX11 83 1 := ⟨⟨w_1018, w_1019, w_1020, w_95, w_1021⟩, ⟨by decide, by decide⟩, by decide +kernel, by decide, by decide⟩
theorem cw_L_law_86 : CwV mi_L_law mi_X12_lacks yX12_lacks RX12 86 1 := ⟨⟨w_1656, w_1657, w_1658, w_108, w_1659⟩, ⟨by decide, by decide⟩, by decide +kernel, by decide, by decide⟩
theorem cw_L_law_87 : CwV mi_L_law mi_X11_pump yX11_pump RX11 87 0 := ⟨⟨w_1022, w_1023, w_1024, w_95, w_1025⟩, ⟨by decide, by decide⟩, by decide +kernel, by decide, by decide⟩
theorem cw_L_law_90 : CwV mi_L_law mi_X12_pump yX12_pump RX12 90 0 := ⟨⟨w_1677, w_1678, w_1679, w_108, w_1680⟩, ⟨by decide, by decide⟩, by decide +kernel, by decide, by decide⟩
theorem cw_L_law_91 : CwV mi_L_law mi_X11_lift yX11_lift RX11 91 1 := ⟨⟨w_1026, w_1027, w_1028, w_95, w_1029⟩, ⟨by decide, by decide⟩, by decide +kernel, by decide, by decide⟩
theorem cw_L_law_94 : CwV mi_L_law mi_X12_lift yX12_lift RX12 94 1 := ⟨⟨w_1681, w_1682, w_1683, w_108, w_1684⟩, ⟨by decide, by decide⟩, by decide +kernel, by decide, by decide⟩
theorem cw_L_law_95 : CwV mi_L_law mi_X11_cracks yX11_cracks RX11 95 0 := ⟨⟨w_1031, w_1032, w_1033, w_95, w_1034⟩, ⟨by decide, by decide⟩, by decide +kernel, by decide, by decide⟩
theorem cw_L_law_98 : CwV mi_L_law mi_X12_cracks yX12_cracks RX12 98 0 := ⟨⟨w_1685, w_1686, w_1687, w_108, w_1688⟩, ⟨by decide, by decide⟩, by decide +kernel, by decide, by decide⟩
theorem cw_L_law_99 : CwV mi_L_law mi_X11_house yX11_house RX11 99 2 := ⟨⟨w_1039, w_1040, w_1041, w_95, w_1042⟩, ⟨by decide, by decide⟩, by decide +kernel, by decide, by decide⟩
theorem cw_L_law_102 : CwV mi_L_law mi_X12_house yX12_house RX12 102 2 := ⟨⟨w_1689, w_1690, w_1691, w_108, w_1692⟩, ⟨by decide, by decide⟩, by decide +kernel, by decide, by decide⟩
theorem cw_L_law_103 : CwV mi_L_law mi_X11_foretell yX11_foretell RX11 103 0 := ⟨⟨w_1048, w_1049, w_1050, w_95, w_1051⟩, ⟨by decide, by decide⟩, by decide +kernel, by decide, by decide⟩
theorem cw_L_law_106 : CwV mi_L_law mi_X12_foretell yX12_foretell RX12 106 0 := ⟨⟨w_1693, w_1694, w_1695, w_108, w_1696⟩, ⟨by decide, by decide⟩, by decide +kernel, by decide, by decide⟩
theorem cw_L_law_107 : CwV mi_L_law mi_X11_off yX11_off RX11 107 0 := ⟨⟨w_1088, w_1089, w_1090, w_95, w_1091⟩, ⟨by decide, by decide⟩, by decide +kernel, by decide, by decide⟩
theorem cw_L_law_110 : CwV mi_L_law mi_X12_off yX12_off RX12 110 0 := ⟨⟨w_1705, w_1706, w_1707, w_108, w_1708⟩, ⟨by decide, by decide⟩, by decide +kernel, by decide, by decide⟩
theorem cw_L_law_111 : CwV mi_L_law mi_X11_more yX11_more RX11 111 2 := ⟨⟨w_1097, w_1098, w_1099, w_95, w_1100⟩, ⟨by decide, by decide⟩, by decide +kernel, by decide, by decide⟩
theorem cw_L_law_114 : CwV mi_L_law mi_X12_more yX12_more RX12 114 2 := ⟨⟨w_1709, w_1710, w_1711, w_108, w_1712⟩, ⟨by decide, by decide⟩, by decide +kernel, by decide, by decide⟩
theorem cw_L_law_115 : CwV mi_L_law mi_X11_chosen yX11_chosen RX11 115 0 := ⟨⟨w_1132, w_1133, w_1134, w_95, w_1135⟩, ⟨by decide, by decide⟩, by decide +kernel, by decide, by decide⟩
theorem cw_L_law_118 : CwV mi_L_law mi_X12_chosen yX12_chosen RX12 118 0 := ⟨⟨w_1732, w_1733, w_1734, w_108, w_1735⟩, ⟨by decide, by decide⟩, by decide +kernel, by decide, by decide⟩
theorem cw_L_law_119 : CwV mi_L_law mi_X11_gauge yX11_gauge RX11 119 4 := ⟨⟨w_1136, w_1137, w_1138, w_95, w_1139⟩, ⟨by decide, by decide⟩, by decide +kernel, by decide, by decide⟩
theorem cw_L_law_123 : CwV mi_L_law mi_X12_gauge yX12_gauge RX12 123 4 := ⟨⟨w_1736, w_1737, w_1738, w_108, w_1739⟩, ⟨by decide, by decide⟩, by decide +kernel, by decide, by decide⟩
theorem cw_L_law_124 : CwV mi_L_law mi_X11_lies yX11_lies RX11 124 1 := ⟨⟨w_1140, w_1141, w_1142, w_95, w_1143⟩, ⟨by decide, by decide⟩, by decide +kernel, by decide, by decide⟩
theorem cw_L_law_127 : CwV mi_L_law mi_X12_lies yX12_lies RX12 127 1 := ⟨⟨w_1743, w_1744, w_1745, w_108, w_1746⟩, ⟨by decide, by decide⟩, by decide +kernel, by decide, by decide⟩
theorem cw_L_law_128 : CwV mi_L_law mi_X11_most yX11_most RX11 128 1 := ⟨⟨w_1148, w_1149, w_1150, w_95, w_1151⟩, ⟨by decide, by decide⟩, by decide +kernel, by decide, by decide⟩
theorem cw_L_law_131 : CwV mi_L_law mi_X12_most yX12_most RX12 131 1 := ⟨⟨w_1748, w_1749, w_1750, w_108, w_1751⟩, ⟨by decide, by decide⟩, by decide +kernel, by decide, by decide⟩
theorem cw_L_law_132 : CwV mi_L_law mi_X11_frost yX11_frost RX11 132 1 := ⟨⟨w_1156, w_1157, w_1158, w_95, w_1159⟩, ⟨by decide, by decide⟩, by decide +kernel, by decide, by decide⟩
theorem cw_L_law_135 : CwV mi_L_law mi_X12_frost yX12_frost RX12 135 1 := ⟨⟨w_1752, w_1753, w_1754, w_108, w_1755⟩, ⟨by decide, by decide⟩, by decide +kernel, by decide, by decide⟩
theorem cw_L_law_136 : CwV mi_L_law mi_X11_count yX11_count RX11 136 1 := ⟨⟨w_1164, w_1165, w_1166, w_95, w_1167⟩, ⟨by decide, by decide⟩, by decide +kernel, by decide, by decide⟩
theorem cw_L_law_139 : CwV mi_L_law mi_X12_count yX12_count RX12 139 1 := ⟨⟨w_1756, w_1757, w_1758, w_108, w_1759⟩, ⟨by decide, by decide⟩, by decide +kernel, by decide, by decide⟩
theorem cw_L_law_140 : CwV mi_L_law mi_X11_keep yX11_keep RX11 140 1 := ⟨⟨w_1179, w_1180, w_1181, w_95, w_1182⟩, ⟨by decide, by decide⟩, by decide +kernel, by decide, by decide⟩
theorem cw_L_law_143 : CwV mi_L_law mi_X12_keep yX12_keep RX12 143 1 := ⟨⟨w_1360, w_1361, w_1362, w_108, w_1363⟩, ⟨by decide, by decide⟩, by decide +kernel, by decide, by decide⟩
theorem cw_L_law_144 : CwV mi_L_law mi_X11_back yX11_back RX11 144 1 := ⟨⟨w_1183, w_1184, w_1185, w_95, w_1186⟩, ⟨by decide, by decide⟩, by decide +kernel, by decide, by decide⟩
theorem cw_L_law_147 : CwV mi_L_law mi_X12_back yX12_back RX12 147 1 := ⟨⟨w_1368, w_1369, w_1370, w_108, w_1371⟩, ⟨by decide, by decide⟩, by decide +kernel, by decide, by decide⟩
theorem cw_L_law_148 : CwV mi_L_law mi_X11_row yX11_row RX11 148 3 := ⟨⟨w_1187, w_1188, w_1189, w_95, w_1190⟩, ⟨by decide, by decide⟩, by decide +kernel, by decide, by decide⟩
theorem cw_L_law_151 : CwV mi_L_law mi_X12_row yX12_row RX12 151 3 := ⟨⟨w_1760, w_1761, w_1762, w_108, w_1763⟩, ⟨by decide, by decide⟩, by decide +kernel, by decide, by decide⟩
theorem cw_L_law_154 : CwV mi_L_law mi_X11_write yX11_write RX11 154 3 := ⟨⟨w_1198, w_1199, w_1200, w_95, w_1201⟩, ⟨by decide, by decide⟩, by decide +kernel, by decide, by decide⟩
theorem cw_L_law_158 : CwV mi_L_law mi_X12_write yX12_write RX12 158 3 := ⟨⟨w_1764, w_1765, w_1766, w_108, w_1767⟩, ⟨by decide, by decide⟩, by decide +kernel, by decide, by decide⟩
theorem cw_L_law_159 : CwV mi_L_law mi_X11_paste yX11_paste RX11 159 5 := ⟨⟨w_1209, w_1210, w_1211, w_95, w_1212⟩, ⟨by decide, by decide⟩, by decide +kernel, by decide, by decide⟩
theorem cw_L_law_162 : CwV mi_L_law mi_X12_paste yX12_paste RX12 162 5 := ⟨⟨w_1771, w_1772, w_1773, w_108, w_1774⟩, ⟨by decide, by decide⟩, by decide +kernel, by decide, by decide⟩
theorem cw_L_law_9 : CwI mi_L_law mi_X11_init yX11_init 9 0 := ⟨⟨w_118, w_119, w_95, w_120, rfl, rfl⟩, ⟨by decide, by decide⟩, by decide +kernel, by decide, by decide⟩
theorem cw_L_law_12 : CwI mi_L_law mi_X12_init yX12_init 12 0 := ⟨⟨w_1220, w_1221, w_108, w_1222, rfl, rfl⟩, ⟨by decide, by decide⟩, by decide +kernel, by decide, by decide⟩
theorem j_L_law_B1159 {l : Launch} {Γ : Am} {mc ms : Nat} {k18 : Nat → Nat → Int32 → Hp → Option (Int32 × Hp)} (hL18 : ∀ (r1 : Nat) (r2 : Nat) (v3 : Int32) (z : Hp), J l Γ mi_L_law cvI (mc) (ms) 18 [(0, .ref (mX Γ).1), (1, .ref (mB Γ + r1)), (2, .ref (mB Γ + r2)), (3, .int v3)] [] z (k18 r1 r2 v3 z)) : ∀ (r1 : Nat) (r2 : Nat) (v3 : Int32) (z : Hp), J l Γ mi_L_law cvI (mc) (ms) 1159 [(0, .ref (mX Γ).1), (1, .ref (mB Γ + r1)), (2, .ref (mB Γ + r2)), (3, .int v3)] [] z (m_L_law_B1159 (mX Γ).2 k18 r1 r2 v3 z) := by
  intro r1 r2 v3 z
  unfold m_L_law_B1159
  refine j_iinc (pc := 1159) (n0 := 3) (v0 := v3 + 6) (lv2 := [(3, .int (v3 + 6)), (0, .ref (mX Γ).1), (1, .ref (mB Γ + r1)), (2, .ref (mB Γ + r2))]) dL_law_1159 rfl rfl (by decide) rfl ?_
  refine j_goto (pc := 1162) 18 dL_law_1162 (by decide) ?_
  exact J.sub [1, 2, 3, 0] rfl (hL18 r1 r2 (v3 + 6) z)
theorem j_L_law_B440 {l : Launch} {Γ : Am} {mc ms : Nat} {k18 : Nat → Nat → Int32 → Hp → Option (Int32 × Hp)} (hL18 : ∀ (r1 : Nat) (r2 : Nat) (v3 : Int32) (z : Hp), J l Γ mi_L_law cvI (mc) (ms) 18 [(0, .ref (mX Γ).1), (1, .ref (mB Γ + r1)), (2, .ref (mB Γ + r2)), (3, .int v3)] [] z (k18 r1 r2 v3 z)) : ∀ (r1 : Nat) (r2 : Nat) (v3 : Int32) (t0 : Int32) (t1 : Int32) (b2 : Nat) (t3 : Int32) (z : Hp), J l Γ mi_L_law cvI (mc) (ms) 440 [(0, .ref (mX Γ).1), (1, .ref (mB Γ + r1)), (2, .ref (mB Γ + r2)), (3, .int v3)] [.int t0, .int t1, .ref (mB Γ + b2), .int t3] z (m_L_law_B440 (mX Γ).2 k18 r1 r2 v3 t0 t1 b2 t3 z) := by
  intro r1 r2 v3 t0 t1 b2 t3 z
  unfold m_L_law_B440
  refine j_isC (fun h3 => ?_)
  refine j_callV_I (pc := 440) (as := [.int t1, .int t0]) (mc2 := mc) (ms2 := ms) (ct_X12_run _ _ _ _) h3 rfl cw_L_law_49 dL_law_440 (Nat.le_of_ble_eq_true rfl) rfl (by show mc + 0 ≤ _; omega) (by show ms + 0 ≤ _; omega) (fun x2 z1 => ?_)
  refine j_icmp_eq (pc := 443) 1159 dL_law_443 (by decide) ?_ ?_
  · exact J.sub [0, 1, 2, 3] rfl ((j_L_law_B1159 hL18) r1 r2 v3 z1)
  refine j_iconst (pc := 446) (v := 0) dL_law_446 (by decide) ?_
  exact j_ireturn (pc := 447) dL_law_447 rfl rfl
theorem j_L_law_B418 {l : Launch} {Γ : Am} {mc ms : Nat} {k18 : Nat → Nat → Int32 → Hp → Option (Int32 × Hp)} (hL18 : ∀ (r1 : Nat) (r2 : Nat) (v3 : Int32) (z : Hp), J l Γ mi_L_law cvI (mc) (ms) 18 [(0, .ref (mX Γ).1), (1, .ref (mB Γ + r1)), (2, .ref (mB Γ + r2)), (3, .int v3)] [] z (k18 r1 r2 v3 z)) : ∀ (r1 : Nat) (r2 : Nat) (v3 : Int32) (t0 : Int32) (t1 : Int32) (b2 : Nat) (z : Hp), J l Γ mi_L_law cvI (mc) (ms) 418 [(0, .ref (mX Γ).1), (1, .ref (mB Γ + r1)), (2, .ref (mB Γ + r2)), (3, .int v3)] [.int t0, .int t1, .ref (mB Γ + b2)] z (m_L_law_B418 (mX Γ).2 k18 r1 r2 v3 t0 t1 b2 z) := by
  intro r1 r2 v3 t0 t1 b2 z
  unfold m_L_law_B418
  refine j_isC (fun h6 => ?_)
  refine j_callV_I (pc := 418) (as := [.int t1, .int t0]) (mc2 := mc) (ms2 := ms) (ct_X11_run _ _ _ _) h6 rfl cw_L_law_45 dL_law_418 (Nat.le_of_ble_eq_true rfl) rfl (by show mc + 0 ≤ _; omega) (by show ms + 0 ≤ _; omega) (fun x5 z4 => ?_)
  refine j_aload_n (pc := 421) 2 dL_law_421 rfl rfl ?_
  refine j_aload_n (pc := 422) 0 dL_law_422 rfl rfl ?_
  refine j_iload_n (pc := 423) 3 dL_law_423 rfl rfl ?_
  refine j_iconst (pc := 424) (v := 1) dL_law_424 (by decide) ?_
  refine j_iadd (pc := 425) dL_law_425 ?_
  refine j_sld (pc := 426) dL_law_426 (fun x7 => ?_)
  refine j_aload_n (pc := 427) 0 dL_law_427 rfl rfl ?_
  refine j_iload_n (pc := 428) 3 dL_law_428 rfl rfl ?_
  refine j_iconst (pc := 429) (v := 2) dL_law_429 (by decide) ?_
  refine j_iadd (pc := 430) dL_law_430 ?_
  refine j_sld (pc := 431) dL_law_431 (fun x8 => ?_)
  refine j_if_eq (pc := 432) 439 dL_law_432 (by decide) ?_ ?_
  · refine j_iconst (pc := 439) (v := 0) dL_law_439 (by decide) ?_
    exact J.sub [0, 1, 2, 3] rfl ((j_L_law_B440 hL18) r1 r2 v3 0 x7 r2 x5 z4)
  refine j_iconst (pc := 435) (v := 1) dL_law_435 (by decide) ?_
  refine j_goto (pc := 436) 440 dL_law_436 (by decide) ?_
  exact J.sub [0, 1, 2, 3] rfl ((j_L_law_B440 hL18) r1 r2 v3 1 x7 r2 x5 z4)
set_option maxHeartbeats 2000000 in
set_option maxRecDepth 20000 in
theorem j_L_law_L18 {l : Launch} {Γ : Am} : ∀ (f : Nat), ∀ (r1 : Nat) (r2 : Nat) (v3 : Int32) (z : Hp), J l Γ mi_L_law cvI (f * 32) (f * 982) 18 [(0, .ref (mX Γ).1), (1, .ref (mB Γ + r1)), (2, .ref (mB Γ + r2)), (3, .int v3)] [] z (m_L_law_L18 (mX Γ).2 f r1 r2 v3 z) := by
  intro f
  induction f with
  | zero => intro r1 r2 v3 z; exact J.none
  | succ f hL18 =>
    intro r1 r2 v3 z
    rw [m_L_law_L18]
    refine j_iload_n (pc := 18) 3 dL_law_18 rfl rfl ?_
    refine j_aload_n (pc := 19) 0 dL_law_19 rfl rfl ?_
    refine j_slen (pc := 20) dL_law_20 (fun x9 => ?_)
    refine j_bipush (pc := 21) (v := 6) dL_law_21 (by decide) ?_
    refine j_isub (pc := 23) dL_law_23 ?_
    refine j_icmp_gt (pc := 24) 1165 dL_law_24 (by decide) ?_ ?_
    · refine j_iconst (pc := 1165) (v := 1) dL_law_1165 (by decide) ?_
      exact j_ireturn (pc := 1166) dL_law_1166 rfl rfl
    refine j_aload_n (pc := 27) 0 dL_law_27 rfl rfl ?_
    refine j_iload_n (pc := 28) 3 dL_law_28 rfl rfl ?_
    refine j_sld (pc := 29) dL_law_29 (fun x10 => ?_)
    refine j_bipush (pc := 30) (v := 63) dL_law_30 (by decide) ?_
    refine j_iand (pc := 32) dL_law_32 ?_
    refine j_ite (fun h27 => ?_) (fun h27 => ?_)
    · refine j_case (pc := 33) 188 dL_law_33 h27 (by decide) rfl (by decide) ?_
      refine j_aload_n (pc := 188) 1 dL_law_188 rfl rfl ?_
      refine j_aload_n (pc := 189) 0 dL_law_189 rfl rfl ?_
      refine j_iload_n (pc := 190) 3 dL_law_190 rfl rfl ?_
      refine j_iconst (pc := 191) (v := 1) dL_law_191 (by decide) ?_
      refine j_iadd (pc := 192) dL_law_192 ?_
      refine j_sld (pc := 193) dL_law_193 (fun x11 => ?_)
      refine j_aload_n (pc := 194) 0 dL_law_194 rfl rfl ?_
      refine j_iload_n (pc := 195) 3 dL_law_195 rfl rfl ?_
      refine j_iconst (pc := 196) (v := 2) dL_law_196 (by decide) ?_
      refine j_iadd (pc := 197) dL_law_197 ?_
      refine j_sld (pc := 198) dL_law_198 (fun x12 => ?_)
      refine j_aload_n (pc := 199) 0 dL_law_199 rfl rfl ?_
      refine j_iload_n (pc := 200) 3 dL_law_200 rfl rfl ?_
      refine j_iconst (pc := 201) (v := 3) dL_law_201 (by decide) ?_
      refine j_iadd (pc := 202) dL_law_202 ?_
      refine j_sld (pc := 203) dL_law_203 (fun x13 => ?_)
      refine j_aload_n (pc := 204) 0 dL_law_204 rfl rfl ?_
      refine j_iload_n (pc := 205) 3 dL_law_205 rfl rfl ?_
      refine j_iconst (pc := 206) (v := 4) dL_law_206 (by decide) ?_
      refine j_iadd (pc := 207) dL_law_207 ?_
      refine j_sld (pc := 208) dL_law_208 (fun x14 => ?_)
      refine j_aload_n (pc := 209) 0 dL_law_209 rfl rfl ?_
      refine j_iload_n (pc := 210) 3 dL_law_210 rfl rfl ?_
      refine j_iconst (pc := 211) (v := 5) dL_law_211 (by decide) ?_
      refine j_iadd (pc := 212) dL_law_212 ?_
      refine j_sld (pc := 213) dL_law_213 (fun x15 => ?_)
      refine j_isC (fun h18 => ?_)
      refine j_callV_I (pc := 214) (as := [.int x11, .int x12, .int x13, .int x14, .int x15]) (mc2 := (f + 1) * 32) (ms2 := (f + 1) * 982) (ct_X11_feed _ _ _ _ _ _ _) h18 rfl cw_L_law_13 dL_law_214 (Nat.le_of_ble_eq_true rfl) rfl (by show (f + 1) * 32 + 0 ≤ _; omega) (by show (f + 1) * 982 + 0 ≤ _; omega) (fun x17 z16 => ?_)
      refine j_aload_n (pc := 217) 2 dL_law_217 rfl rfl ?_
      refine j_aload_n (pc := 218) 0 dL_law_218 rfl rfl ?_
      refine j_iload_n (pc := 219) 3 dL_law_219 rfl rfl ?_
      refine j_iconst (pc := 220) (v := 1) dL_law_220 (by decide) ?_
      refine j_iadd (pc := 221) dL_law_221 ?_
      refine j_sld (pc := 222) dL_law_222 (fun x19 => ?_)
      refine j_aload_n (pc := 223) 0 dL_law_223 rfl rfl ?_
      refine j_iload_n (pc := 224) 3 dL_law_224 rfl rfl ?_
      refine j_iconst (pc := 225) (v := 2) dL_law_225 (by decide) ?_
      refine j_iadd (pc := 226) dL_law_226 ?_
      refine j_sld (pc := 227) dL_law_227 (fun x20 => ?_)
      refine j_aload_n (pc := 228) 0 dL_law_228 rfl rfl ?_
      refine j_iload_n (pc := 229) 3 dL_law_229 rfl rfl ?_
      refine j_iconst (pc := 230) (v := 3) dL_law_230 (by decide) ?_
      refine j_iadd (pc := 231) dL_law_231 ?_
      refine j_sld (pc := 232) dL_law_232 (fun x21 => ?_)
      refine j_aload_n (pc := 233) 0 dL_law_233 rfl rfl ?_
      refine j_iload_n (pc := 234) 3 dL_law_234 rfl rfl ?_
      refine j_iconst (pc := 235) (v := 4) dL_law_235 (by decide) ?_
      refine j_iadd (pc := 236) dL_law_236 ?_
      refine j_sld (pc := 237) dL_law_237 (fun x22 => ?_)
      refine j_aload_n (pc := 238) 0 dL_law_238 rfl rfl ?_
      refine j_iload_n (pc := 239) 3 dL_law_239 rfl rfl ?_
      refine j_iconst (pc := 240) (v := 5) dL_law_240 (by decide) ?_
      refine j_iadd (pc := 241) dL_law_241 ?_
      refine j_sld (pc := 242) dL_law_242 (fun x23 => ?_)
      refine j_isC (fun h26 => ?_)
      refine j_callV_I (pc := 243) (as := [.int x19, .int x20, .int x21, .int x22, .int x23]) (mc2 := (f + 1) * 32) (ms2 := (f + 1) * 982) (ct_X12_feed _ _ _ _ _ _ _) h26 rfl cw_L_law_17 dL_law_243 (Nat.le_of_ble_eq_true rfl) rfl (by show (f + 1) * 32 + 0 ≤ _; omega) (by show (f + 1) * 982 + 0 ≤ _; omega) (fun x25 z24 => ?_)
      refine j_icmp_eq (pc := 246) 1159 dL_law_246 (by decide) ?_ ?_
      · exact J.fewer (mc1 := f * 32) (ms1 := f * 982) (by omega) (by omega) (J.sub [0, 1, 2, 3] rfl ((j_L_law_B1159 hL18) r1 r2 v3 z24))
      refine j_iconst (pc := 249) (v := 0) dL_law_249 (by decide) ?_
      exact j_ireturn (pc := 250) dL_law_250 rfl rfl
    refine j_ite (fun h36 => ?_) (fun h36 => ?_)
    · refine j_case (pc := 33) 251 dL_law_33 h36 (by decide) rfl (by decide) ?_
      refine j_aload_n (pc := 251) 1 dL_law_251 rfl rfl ?_
      refine j_aload_n (pc := 252) 0 dL_law_252 rfl rfl ?_
      refine j_iload_n (pc := 253) 3 dL_law_253 rfl rfl ?_
      refine j_iconst (pc := 254) (v := 1) dL_law_254 (by decide) ?_
      refine j_iadd (pc := 255) dL_law_255 ?_
      refine j_sld (pc := 256) dL_law_256 (fun x28 => ?_)
      refine j_isC (fun h31 => ?_)
      refine j_callV_I (pc := 257) (as := [.int x28]) (mc2 := (f + 1) * 32) (ms2 := (f + 1) * 982) (ct_X11_end _ _ _) h31 rfl cw_L_law_18 dL_law_257 (Nat.le_of_ble_eq_true rfl) rfl (by show (f + 1) * 32 + 0 ≤ _; omega) (by show (f + 1) * 982 + 0 ≤ _; omega) (fun x30 z29 => ?_)
      refine j_aload_n (pc := 260) 2 dL_law_260 rfl rfl ?_
      refine j_aload_n (pc := 261) 0 dL_law_261 rfl rfl ?_
      refine j_iload_n (pc := 262) 3 dL_law_262 rfl rfl ?_
      refine j_iconst (pc := 263) (v := 1) dL_law_263 (by decide) ?_
      refine j_iadd (pc := 264) dL_law_264 ?_
      refine j_sld (pc := 265) dL_law_265 (fun x32 => ?_)
      refine j_isC (fun h35 => ?_)
      refine j_callV_I (pc := 266) (as := [.int x32]) (mc2 := (f + 1) * 32) (ms2 := (f + 1) * 982) (ct_X12_end _ _ _) h35 rfl cw_L_law_22 dL_law_266 (Nat.le_of_ble_eq_true rfl) rfl (by show (f + 1) * 32 + 0 ≤ _; omega) (by show (f + 1) * 982 + 0 ≤ _; omega) (fun x34 z33 => ?_)
      refine j_icmp_eq (pc := 269) 1159 dL_law_269 (by decide) ?_ ?_
      · exact J.fewer (mc1 := f * 32) (ms1 := f * 982) (by omega) (by omega) (J.sub [0, 1, 2, 3] rfl ((j_L_law_B1159 hL18) r1 r2 v3 z33))
      refine j_iconst (pc := 272) (v := 0) dL_law_272 (by decide) ?_
      exact j_ireturn (pc := 273) dL_law_273 rfl rfl
    refine j_ite (fun h43 => ?_) (fun h43 => ?_)
    · refine j_case (pc := 33) 274 dL_law_33 h43 (by decide) rfl (by decide) ?_
      refine j_aload_n (pc := 274) 1 dL_law_274 rfl rfl ?_
      refine j_isC (fun h39 => ?_)
      refine j_callV_I (pc := 275) (as := []) (mc2 := (f + 1) * 32) (ms2 := (f + 1) * 982) (ct_X11_text _ _) h39 rfl cw_L_law_23 dL_law_275 (Nat.le_of_ble_eq_true rfl) rfl (by show (f + 1) * 32 + 0 ≤ _; omega) (by show (f + 1) * 982 + 0 ≤ _; omega) (fun x38 z37 => ?_)
      refine j_aload_n (pc := 278) 2 dL_law_278 rfl rfl ?_
      refine j_isC (fun h42 => ?_)
      refine j_callV_I (pc := 279) (as := []) (mc2 := (f + 1) * 32) (ms2 := (f + 1) * 982) (ct_X12_text _ _) h42 rfl cw_L_law_27 dL_law_279 (Nat.le_of_ble_eq_true rfl) rfl (by show (f + 1) * 32 + 0 ≤ _; omega) (by show (f + 1) * 982 + 0 ≤ _; omega) (fun x41 z40 => ?_)
      refine j_icmp_eq (pc := 282) 1159 dL_law_282 (by decide) ?_ ?_
      · exact J.fewer (mc1 := f * 32) (ms1 := f * 982) (by omega) (by omega) (J.sub [0, 1, 2, 3] rfl ((j_L_law_B1159 hL18) r1 r2 v3 z40))
      refine j_iconst (pc := 285) (v := 0) dL_law_285 (by decide) ?_
      exact j_ireturn (pc := 286) dL_law_286 rfl rfl
    refine j_ite (fun h52 => ?_) (fun h52 => ?_)
    · refine j_case (pc := 33) 287 dL_law_33 h52 (by decide) rfl (by decide) ?_
      refine j_aload_n (pc := 287) 1 dL_law_287 rfl rfl ?_
      refine j_aload_n (pc := 288) 0 dL_law_288 rfl rfl ?_
      refine j_iload_n (pc := 289) 3 dL_law_289 rfl rfl ?_
      refine j_iconst (pc := 290) (v := 1) dL_law_290 (by decide) ?_
      refine j_iadd (pc := 291) dL_law_291 ?_
      refine j_sld (pc := 292) dL_law_292 (fun x44 => ?_)
      refine j_isC (fun h47 => ?_)
      refine j_callV_I (pc := 293) (as := [.int x44]) (mc2 := (f + 1) * 32) (ms2 := (f + 1) * 982) (ct_X11_fault _ _ _) h47 rfl cw_L_law_28 dL_law_293 (Nat.le_of_ble_eq_true rfl) rfl (by show (f + 1) * 32 + 0 ≤ _; omega) (by show (f + 1) * 982 + 0 ≤ _; omega) (fun x46 z45 => ?_)
      refine j_aload_n (pc := 296) 2 dL_law_296 rfl rfl ?_
      refine j_aload_n (pc := 297) 0 dL_law_297 rfl rfl ?_
      refine j_iload_n (pc := 298) 3 dL_law_298 rfl rfl ?_
      refine j_iconst (pc := 299) (v := 1) dL_law_299 (by decide) ?_
      refine j_iadd (pc := 300) dL_law_300 ?_
      refine j_sld (pc := 301) dL_law_301 (fun x48 => ?_)
      refine j_isC (fun h51 => ?_)
      refine j_callV_I (pc := 302) (as := [.int x48]) (mc2 := (f + 1) * 32) (ms2 := (f + 1) * 982) (ct_X12_fault _ _ _) h51 rfl cw_L_law_31 dL_law_302 (Nat.le_of_ble_eq_true rfl) rfl (by show (f + 1) * 32 + 0 ≤ _; omega) (by show (f + 1) * 982 + 0 ≤ _; omega) (fun x50 z49 => ?_)
      refine j_icmp_eq (pc := 305) 1159 dL_law_305 (by decide) ?_ ?_
      · exact J.fewer (mc1 := f * 32) (ms1 := f * 982) (by omega) (by omega) (J.sub [0, 1, 2, 3] rfl ((j_L_law_B1159 hL18) r1 r2 v3 z49))
      refine j_iconst (pc := 308) (v := 0) dL_law_308 (by decide) ?_
      exact j_ireturn (pc := 309) dL_law_309 rfl rfl
    refine j_ite (fun h61 => ?_) (fun h61 => ?_)
    · refine j_case (pc := 33) 310 dL_law_33 h61 (by decide) rfl (by decide) ?_
      refine j_aload_n (pc := 310) 1 dL_law_310 rfl rfl ?_
      refine j_aload_n (pc := 311) 0 dL_law_311 rfl rfl ?_
      refine j_iload_n (pc := 312) 3 dL_law_312 rfl rfl ?_
      refine j_iconst (pc := 313) (v := 1) dL_law_313 (by decide) ?_
      refine j_iadd (pc := 314) dL_law_314 ?_
      refine j_sld (pc := 315) dL_law_315 (fun x53 => ?_)
      refine j_isC (fun h56 => ?_)
      refine j_callV_I (pc := 316) (as := [.int x53]) (mc2 := (f + 1) * 32) (ms2 := (f + 1) * 982) (ct_X11_tick _ _ _) h56 rfl cw_L_law_32 dL_law_316 (Nat.le_of_ble_eq_true rfl) rfl (by show (f + 1) * 32 + 0 ≤ _; omega) (by show (f + 1) * 982 + 0 ≤ _; omega) (fun x55 z54 => ?_)
      refine j_aload_n (pc := 319) 2 dL_law_319 rfl rfl ?_
      refine j_aload_n (pc := 320) 0 dL_law_320 rfl rfl ?_
      refine j_iload_n (pc := 321) 3 dL_law_321 rfl rfl ?_
      refine j_iconst (pc := 322) (v := 1) dL_law_322 (by decide) ?_
      refine j_iadd (pc := 323) dL_law_323 ?_
      refine j_sld (pc := 324) dL_law_324 (fun x57 => ?_)
      refine j_isC (fun h60 => ?_)
      refine j_callV_I (pc := 325) (as := [.int x57]) (mc2 := (f + 1) * 32) (ms2 := (f + 1) * 982) (ct_X12_tick _ _ _) h60 rfl cw_L_law_35 dL_law_325 (Nat.le_of_ble_eq_true rfl) rfl (by show (f + 1) * 32 + 0 ≤ _; omega) (by show (f + 1) * 982 + 0 ≤ _; omega) (fun x59 z58 => ?_)
      refine j_icmp_eq (pc := 328) 1159 dL_law_328 (by decide) ?_ ?_
      · exact J.fewer (mc1 := f * 32) (ms1 := f * 982) (by omega) (by omega) (J.sub [0, 1, 2, 3] rfl ((j_L_law_B1159 hL18) r1 r2 v3 z58))
      refine j_iconst (pc := 331) (v := 0) dL_law_331 (by decide) ?_
      exact j_ireturn (pc := 332) dL_law_332 rfl rfl
    refine j_ite (fun h74 => ?_) (fun h74 => ?_)
    · refine j_case (pc := 33) 333 dL_law_33 h74 (by decide) rfl (by decide) ?_
      refine j_aload_n (pc := 333) 1 dL_law_333 rfl rfl ?_
      refine j_aload_n (pc := 334) 0 dL_law_334 rfl rfl ?_
      refine j_iload_n (pc := 335) 3 dL_law_335 rfl rfl ?_
      refine j_iconst (pc := 336) (v := 1) dL_law_336 (by decide) ?_
      refine j_iadd (pc := 337) dL_law_337 ?_
      refine j_sld (pc := 338) dL_law_338 (fun x62 => ?_)
      refine j_aload_n (pc := 339) 0 dL_law_339 rfl rfl ?_
      refine j_iload_n (pc := 340) 3 dL_law_340 rfl rfl ?_
      refine j_iconst (pc := 341) (v := 2) dL_law_341 (by decide) ?_
      refine j_iadd (pc := 342) dL_law_342 ?_
      refine j_sld (pc := 343) dL_law_343 (fun x63 => ?_)
      refine j_aload_n (pc := 344) 0 dL_law_344 rfl rfl ?_
      refine j_iload_n (pc := 345) 3 dL_law_345 rfl rfl ?_
      refine j_iconst (pc := 346) (v := 3) dL_law_346 (by decide) ?_
      refine j_iadd (pc := 347) dL_law_347 ?_
      refine j_sld (pc := 348) dL_law_348 (fun x64 => ?_)
      refine j_isC (fun h67 => ?_)
      refine j_callV_I (pc := 349) (as := [.int x62, .int x63, .int x64]) (mc2 := (f + 1) * 32) (ms2 := (f + 1) * 982) (ct_X11_cell _ _ _ _ _) h67 rfl cw_L_law_36 dL_law_349 (Nat.le_of_ble_eq_true rfl) rfl (by show (f + 1) * 32 + 0 ≤ _; omega) (by show (f + 1) * 982 + 0 ≤ _; omega) (fun x66 z65 => ?_)
      refine j_aload_n (pc := 352) 2 dL_law_352 rfl rfl ?_
      refine j_aload_n (pc := 353) 0 dL_law_353 rfl rfl ?_
      refine j_iload_n (pc := 354) 3 dL_law_354 rfl rfl ?_
      refine j_iconst (pc := 355) (v := 1) dL_law_355 (by decide) ?_
      refine j_iadd (pc := 356) dL_law_356 ?_
      refine j_sld (pc := 357) dL_law_357 (fun x68 => ?_)
      refine j_aload_n (pc := 358) 0 dL_law_358 rfl rfl ?_
      refine j_iload_n (pc := 359) 3 dL_law_359 rfl rfl ?_
      refine j_iconst (pc := 360) (v := 2) dL_law_360 (by decide) ?_
      refine j_iadd (pc := 361) dL_law_361 ?_
      refine j_sld (pc := 362) dL_law_362 (fun x69 => ?_)
      refine j_aload_n (pc := 363) 0 dL_law_363 rfl rfl ?_
      refine j_iload_n (pc := 364) 3 dL_law_364 rfl rfl ?_
      refine j_iconst (pc := 365) (v := 3) dL_law_365 (by decide) ?_
      refine j_iadd (pc := 366) dL_law_366 ?_
      refine j_sld (pc := 367) dL_law_367 (fun x70 => ?_)
      refine j_isC (fun h73 => ?_)
      refine j_callV_I (pc := 368) (as := [.int x68, .int x69, .int x70]) (mc2 := (f + 1) * 32) (ms2 := (f + 1) * 982) (ct_X12_cell _ _ _ _ _) h73 rfl cw_L_law_40 dL_law_368 (Nat.le_of_ble_eq_true rfl) rfl (by show (f + 1) * 32 + 0 ≤ _; omega) (by show (f + 1) * 982 + 0 ≤ _; omega) (fun x72 z71 => ?_)
      refine j_icmp_eq (pc := 371) 1159 dL_law_371 (by decide) ?_ ?_
      · exact J.fewer (mc1 := f * 32) (ms1 := f * 982) (by omega) (by omega) (J.sub [0, 1, 2, 3] rfl ((j_L_law_B1159 hL18) r1 r2 v3 z71))
      refine j_iconst (pc := 374) (v := 0) dL_law_374 (by decide) ?_
      exact j_ireturn (pc := 375) dL_law_375 rfl rfl
    refine j_ite (fun h83 => ?_) (fun h83 => ?_)
    · refine j_case (pc := 33) 376 dL_law_33 h83 (by decide) rfl (by decide) ?_
      refine j_aload_n (pc := 376) 1 dL_law_376 rfl rfl ?_
      refine j_aload_n (pc := 377) 0 dL_law_377 rfl rfl ?_
      refine j_iload_n (pc := 378) 3 dL_law_378 rfl rfl ?_
      refine j_iconst (pc := 379) (v := 1) dL_law_379 (by decide) ?_
      refine j_iadd (pc := 380) dL_law_380 ?_
      refine j_sld (pc := 381) dL_law_381 (fun x75 => ?_)
      refine j_isC (fun h78 => ?_)
      refine j_callV_I (pc := 382) (as := [.int x75]) (mc2 := (f + 1) * 32) (ms2 := (f + 1) * 982) (ct_X11_heat _ _ _) h78 rfl cw_L_law_41 dL_law_382 (Nat.le_of_ble_eq_true rfl) rfl (by show (f + 1) * 32 + 0 ≤ _; omega) (by show (f + 1) * 982 + 0 ≤ _; omega) (fun x77 z76 => ?_)
      refine j_aload_n (pc := 385) 2 dL_law_385 rfl rfl ?_
      refine j_aload_n (pc := 386) 0 dL_law_386 rfl rfl ?_
      refine j_iload_n (pc := 387) 3 dL_law_387 rfl rfl ?_
      refine j_iconst (pc := 388) (v := 1) dL_law_388 (by decide) ?_
      refine j_iadd (pc := 389) dL_law_389 ?_
      refine j_sld (pc := 390) dL_law_390 (fun x79 => ?_)
      refine j_isC (fun h82 => ?_)
      refine j_callV_I (pc := 391) (as := [.int x79]) (mc2 := (f + 1) * 32) (ms2 := (f + 1) * 982) (ct_X12_heat _ _ _) h82 rfl cw_L_law_44 dL_law_391 (Nat.le_of_ble_eq_true rfl) rfl (by show (f + 1) * 32 + 0 ≤ _; omega) (by show (f + 1) * 982 + 0 ≤ _; omega) (fun x81 z80 => ?_)
      refine j_icmp_eq (pc := 394) 1159 dL_law_394 (by decide) ?_ ?_
      · exact J.fewer (mc1 := f * 32) (ms1 := f * 982) (by omega) (by omega) (J.sub [0, 1, 2, 3] rfl ((j_L_law_B1159 hL18) r1 r2 v3 z80))
      refine j_iconst (pc := 397) (v := 0) dL_law_397 (by decide) ?_
      exact j_ireturn (pc := 398) dL_law_398 rfl rfl
    refine j_ite (fun h86 => ?_) (fun h86 => ?_)
    · refine j_case (pc := 33) 399 dL_law_33 h86 (by decide) rfl (by decide) ?_
      refine j_aload_n (pc := 399) 1 dL_law_399 rfl rfl ?_
      refine j_aload_n (pc := 400) 0 dL_law_400 rfl rfl ?_
      refine j_iload_n (pc := 401) 3 dL_law_401 rfl rfl ?_
      refine j_iconst (pc := 402) (v := 1) dL_law_402 (by decide) ?_
      refine j_iadd (pc := 403) dL_law_403 ?_
      refine j_sld (pc := 404) dL_law_404 (fun x84 => ?_)
      refine j_aload_n (pc := 405) 0 dL_law_405 rfl rfl ?_
      refine j_iload_n (pc := 406) 3 dL_law_406 rfl rfl ?_
      refine j_iconst (pc := 407) (v := 2) dL_law_407 (by decide) ?_
      refine j_iadd (pc := 408) dL_law_408 ?_
      refine j_sld (pc := 409) dL_law_409 (fun x85 => ?_)
      refine j_if_eq (pc := 410) 417 dL_law_410 (by decide) ?_ ?_
      · refine j_iconst (pc := 417) (v := 0) dL_law_417 (by decide) ?_
        exact J.fewer (mc1 := f * 32) (ms1 := f * 982) (by omega) (by omega) (J.sub [0, 1, 2, 3] rfl ((j_L_law_B418 hL18) r1 r2 v3 0 x84 r1 z))
      refine j_iconst (pc := 413) (v := 1) dL_law_413 (by decide) ?_
      refine j_goto (pc := 414) 418 dL_law_414 (by decide) ?_
      exact J.fewer (mc1 := f * 32) (ms1 := f * 982) (by omega) (by omega) (J.sub [0, 1, 2, 3] rfl ((j_L_law_B418 hL18) r1 r2 v3 1 x84 r1 z))
    refine j_ite (fun h97 => ?_) (fun h97 => ?_)
    · refine j_case (pc := 33) 448 dL_law_33 h97 (by decide) rfl (by decide) ?_
      refine j_aload_n (pc := 448) 1 dL_law_448 rfl rfl ?_
      refine j_aload_n (pc := 449) 0 dL_law_449 rfl rfl ?_
      refine j_iload_n (pc := 450) 3 dL_law_450 rfl rfl ?_
      refine j_iconst (pc := 451) (v := 1) dL_law_451 (by decide) ?_
      refine j_iadd (pc := 452) dL_law_452 ?_
      refine j_sld (pc := 453) dL_law_453 (fun x87 => ?_)
      refine j_aload_n (pc := 454) 0 dL_law_454 rfl rfl ?_
      refine j_iload_n (pc := 455) 3 dL_law_455 rfl rfl ?_
      refine j_iconst (pc := 456) (v := 2) dL_law_456 (by decide) ?_
      refine j_iadd (pc := 457) dL_law_457 ?_
      refine j_sld (pc := 458) dL_law_458 (fun x88 => ?_)
      refine j_isC (fun h91 => ?_)
      refine j_callV_I (pc := 459) (as := [.int x87, .int x88]) (mc2 := (f + 1) * 32) (ms2 := (f + 1) * 982) (ct_X11_pipe _ _ _ _) h91 rfl cw_L_law_50 dL_law_459 (Nat.le_of_ble_eq_true rfl) rfl (by show (f + 1) * 32 + 0 ≤ _; omega) (by show (f + 1) * 982 + 0 ≤ _; omega) (fun x90 z89 => ?_)
      refine j_aload_n (pc := 462) 2 dL_law_462 rfl rfl ?_
      refine j_aload_n (pc := 463) 0 dL_law_463 rfl rfl ?_
      refine j_iload_n (pc := 464) 3 dL_law_464 rfl rfl ?_
      refine j_iconst (pc := 465) (v := 1) dL_law_465 (by decide) ?_
      refine j_iadd (pc := 466) dL_law_466 ?_
      refine j_sld (pc := 467) dL_law_467 (fun x92 => ?_)
      refine j_aload_n (pc := 468) 0 dL_law_468 rfl rfl ?_
      refine j_iload_n (pc := 469) 3 dL_law_469 rfl rfl ?_
      refine j_iconst (pc := 470) (v := 2) dL_law_470 (by decide) ?_
      refine j_iadd (pc := 471) dL_law_471 ?_
      refine j_sld (pc := 472) dL_law_472 (fun x93 => ?_)
      refine j_isC (fun h96 => ?_)
      refine j_callV_I (pc := 473) (as := [.int x92, .int x93]) (mc2 := (f + 1) * 32) (ms2 := (f + 1) * 982) (ct_X12_pipe _ _ _ _) h96 rfl cw_L_law_54 dL_law_473 (Nat.le_of_ble_eq_true rfl) rfl (by show (f + 1) * 32 + 0 ≤ _; omega) (by show (f + 1) * 982 + 0 ≤ _; omega) (fun x95 z94 => ?_)
      refine j_icmp_eq (pc := 476) 1159 dL_law_476 (by decide) ?_ ?_
      · exact J.fewer (mc1 := f * 32) (ms1 := f * 982) (by omega) (by omega) (J.sub [0, 1, 2, 3] rfl ((j_L_law_B1159 hL18) r1 r2 v3 z94))
      refine j_iconst (pc := 479) (v := 0) dL_law_479 (by decide) ?_
      exact j_ireturn (pc := 480) dL_law_480 rfl rfl
    refine j_ite (fun h106 => ?_) (fun h106 => ?_)
    · refine j_case (pc := 33) 481 dL_law_33 h106 (by decide) rfl (by decide) ?_
      refine j_aload_n (pc := 481) 1 dL_law_481 rfl rfl ?_
      refine j_aload_n (pc := 482) 0 dL_law_482 rfl rfl ?_
      refine j_iload_n (pc := 483) 3 dL_law_483 rfl rfl ?_
      refine j_iconst (pc := 484) (v := 1) dL_law_484 (by decide) ?_
      refine j_iadd (pc := 485) dL_law_485 ?_
      refine j_sld (pc := 486) dL_law_486 (fun x98 => ?_)
      refine j_isC (fun h101 => ?_)
      refine j_callV_I (pc := 487) (as := [.int x98]) (mc2 := (f + 1) * 32) (ms2 := (f + 1) * 982) (ct_X11_cold _ _ _) h101 rfl cw_L_law_55 dL_law_487 (Nat.le_of_ble_eq_true rfl) rfl (by show (f + 1) * 32 + 0 ≤ _; omega) (by show (f + 1) * 982 + 0 ≤ _; omega) (fun x100 z99 => ?_)
      refine j_aload_n (pc := 490) 2 dL_law_490 rfl rfl ?_
      refine j_aload_n (pc := 491) 0 dL_law_491 rfl rfl ?_
      refine j_iload_n (pc := 492) 3 dL_law_492 rfl rfl ?_
      refine j_iconst (pc := 493) (v := 1) dL_law_493 (by decide) ?_
      refine j_iadd (pc := 494) dL_law_494 ?_
      refine j_sld (pc := 495) dL_law_495 (fun x102 => ?_)
      refine j_isC (fun h105 => ?_)
      refine j_callV_I (pc := 496) (as := [.int x102]) (mc2 := (f + 1) * 32) (ms2 := (f + 1) * 982) (ct_X12_cold _ _ _) h105 rfl cw_L_law_58 dL_law_496 (Nat.le_of_ble_eq_true rfl) rfl (by show (f + 1) * 32 + 0 ≤ _; omega) (by show (f + 1) * 982 + 0 ≤ _; omega) (fun x104 z103 => ?_)
      refine j_icmp_eq (pc := 499) 1159 dL_law_499 (by decide) ?_ ?_
      · exact J.fewer (mc1 := f * 32) (ms1 := f * 982) (by omega) (by omega) (J.sub [0, 1, 2, 3] rfl ((j_L_law_B1159 hL18) r1 r2 v3 z103))
      refine j_iconst (pc := 502) (v := 0) dL_law_502 (by decide) ?_
      exact j_ireturn (pc := 503) dL_law_503 rfl rfl
    refine j_ite (fun h113 => ?_) (fun h113 => ?_)
    · refine j_case (pc := 33) 504 dL_law_33 h113 (by decide) rfl (by decide) ?_
      refine j_aload_n (pc := 504) 1 dL_law_504 rfl rfl ?_
      refine j_isC (fun h109 => ?_)
      refine j_callV_I (pc := 505) (as := []) (mc2 := (f + 1) * 32) (ms2 := (f + 1) * 982) (ct_X11_shut _ _) h109 rfl cw_L_law_59 dL_law_505 (Nat.le_of_ble_eq_true rfl) rfl (by show (f + 1) * 32 + 0 ≤ _; omega) (by show (f + 1) * 982 + 0 ≤ _; omega) (fun x108 z107 => ?_)
      refine j_aload_n (pc := 508) 2 dL_law_508 rfl rfl ?_
      refine j_isC (fun h112 => ?_)
      refine j_callV_I (pc := 509) (as := []) (mc2 := (f + 1) * 32) (ms2 := (f + 1) * 982) (ct_X12_shut _ _) h112 rfl cw_L_law_62 dL_law_509 (Nat.le_of_ble_eq_true rfl) rfl (by show (f + 1) * 32 + 0 ≤ _; omega) (by show (f + 1) * 982 + 0 ≤ _; omega) (fun x111 z110 => ?_)
      refine j_icmp_eq (pc := 512) 1159 dL_law_512 (by decide) ?_ ?_
      · exact J.fewer (mc1 := f * 32) (ms1 := f * 982) (by omega) (by omega) (J.sub [0, 1, 2, 3] rfl ((j_L_law_B1159 hL18) r1 r2 v3 z110))
      refine j_iconst (pc := 515) (v := 0) dL_law_515 (by decide) ?_
      exact j_ireturn (pc := 516) dL_law_516 rfl rfl
    refine j_ite (fun h120 => ?_) (fun h120 => ?_)
    · refine j_case (pc := 33) 517 dL_law_33 h120 (by decide) rfl (by decide) ?_
      refine j_aload_n (pc := 517) 1 dL_law_517 rfl rfl ?_
      refine j_isC (fun h116 => ?_)
      refine j_callV_I (pc := 518) (as := []) (mc2 := (f + 1) * 32) (ms2 := (f + 1) * 982) (ct_X11_way _ _) h116 rfl cw_L_law_63 dL_law_518 (Nat.le_of_ble_eq_true rfl) rfl (by show (f + 1) * 32 + 0 ≤ _; omega) (by show (f + 1) * 982 + 0 ≤ _; omega) (fun x115 z114 => ?_)
      refine j_aload_n (pc := 521) 2 dL_law_521 rfl rfl ?_
      refine j_isC (fun h119 => ?_)
      refine j_callV_I (pc := 522) (as := []) (mc2 := (f + 1) * 32) (ms2 := (f + 1) * 982) (ct_X12_way _ _) h119 rfl cw_L_law_66 dL_law_522 (Nat.le_of_ble_eq_true rfl) rfl (by show (f + 1) * 32 + 0 ≤ _; omega) (by show (f + 1) * 982 + 0 ≤ _; omega) (fun x118 z117 => ?_)
      refine j_icmp_eq (pc := 525) 1159 dL_law_525 (by decide) ?_ ?_
      · exact J.fewer (mc1 := f * 32) (ms1 := f * 982) (by omega) (by omega) (J.sub [0, 1, 2, 3] rfl ((j_L_law_B1159 hL18) r1 r2 v3 z117))
      refine j_iconst (pc := 528) (v := 0) dL_law_528 (by decide) ?_
      exact j_ireturn (pc := 529) dL_law_529 rfl rfl
    refine j_ite (fun h127 => ?_) (fun h127 => ?_)
    · refine j_case (pc := 33) 530 dL_law_33 h127 (by decide) rfl (by decide) ?_
      refine j_aload_n (pc := 530) 1 dL_law_530 rfl rfl ?_
      refine j_isC (fun h123 => ?_)
      refine j_callV_I (pc := 531) (as := []) (mc2 := (f + 1) * 32) (ms2 := (f + 1) * 982) (ct_X11_gaps _ _) h123 rfl cw_L_law_67 dL_law_531 (Nat.le_of_ble_eq_true rfl) rfl (by show (f + 1) * 32 + 0 ≤ _; omega) (by show (f + 1) * 982 + 0 ≤ _; omega) (fun x122 z121 => ?_)
      refine j_aload_n (pc := 534) 2 dL_law_534 rfl rfl ?_
      refine j_isC (fun h126 => ?_)
      refine j_callV_I (pc := 535) (as := []) (mc2 := (f + 1) * 32) (ms2 := (f + 1) * 982) (ct_X12_gaps _ _) h126 rfl cw_L_law_70 dL_law_535 (Nat.le_of_ble_eq_true rfl) rfl (by show (f + 1) * 32 + 0 ≤ _; omega) (by show (f + 1) * 982 + 0 ≤ _; omega) (fun x125 z124 => ?_)
      refine j_icmp_eq (pc := 538) 1159 dL_law_538 (by decide) ?_ ?_
      · exact J.fewer (mc1 := f * 32) (ms1 := f * 982) (by omega) (by omega) (J.sub [0, 1, 2, 3] rfl ((j_L_law_B1159 hL18) r1 r2 v3 z124))
      refine j_iconst (pc := 541) (v := 0) dL_law_541 (by decide) ?_
      exact j_ireturn (pc := 542) dL_law_542 rfl rfl
    refine j_ite (fun h136 => ?_) (fun h136 => ?_)
    · refine j_case (pc := 33) 543 dL_law_33 h136 (by decide) rfl (by decide) ?_
      refine j_aload_n (pc := 543) 1 dL_law_543 rfl rfl ?_
      refine j_aload_n (pc := 544) 0 dL_law_544 rfl rfl ?_
      refine j_iload_n (pc := 545) 3 dL_law_545 rfl rfl ?_
      refine j_iconst (pc := 546) (v := 1) dL_law_546 (by decide) ?_
      refine j_iadd (pc := 547) dL_law_547 ?_
      refine j_sld (pc := 548) dL_law_548 (fun x128 => ?_)
      refine j_isC (fun h131 => ?_)
      refine j_callV_I (pc := 549) (as := [.int x128]) (mc2 := (f + 1) * 32) (ms2 := (f + 1) * 982) (ct_X11_gap _ _ _) h131 rfl cw_L_law_71 dL_law_549 (Nat.le_of_ble_eq_true rfl) rfl (by show (f + 1) * 32 + 0 ≤ _; omega) (by show (f + 1) * 982 + 0 ≤ _; omega) (fun x130 z129 => ?_)
      refine j_aload_n (pc := 552) 2 dL_law_552 rfl rfl ?_
      refine j_aload_n (pc := 553) 0 dL_law_553 rfl rfl ?_
      refine j_iload_n (pc := 554) 3 dL_law_554 rfl rfl ?_
      refine j_iconst (pc := 555) (v := 1) dL_law_555 (by decide) ?_
      refine j_iadd (pc := 556) dL_law_556 ?_
      refine j_sld (pc := 557) dL_law_557 (fun x132 => ?_)
      refine j_isC (fun h135 => ?_)
      refine j_callV_I (pc := 558) (as := [.int x132]) (mc2 := (f + 1) * 32) (ms2 := (f + 1) * 982) (ct_X12_gap _ _ _) h135 rfl cw_L_law_74 dL_law_558 (Nat.le_of_ble_eq_true rfl) rfl (by show (f + 1) * 32 + 0 ≤ _; omega) (by show (f + 1) * 982 + 0 ≤ _; omega) (fun x134 z133 => ?_)
      refine j_icmp_eq (pc := 561) 1159 dL_law_561 (by decide) ?_ ?_
      · exact J.fewer (mc1 := f * 32) (ms1 := f * 982) (by omega) (by omega) (J.sub [0, 1, 2, 3] rfl ((j_L_law_B1159 hL18) r1 r2 v3 z133))
      refine j_iconst (pc := 564) (v := 0) dL_law_564 (by decide) ?_
      exact j_ireturn (pc := 565) dL_law_565 rfl rfl
    refine j_ite (fun h143 => ?_) (fun h143 => ?_)
    · refine j_case (pc := 33) 566 dL_law_33 h143 (by decide) rfl (by decide) ?_
      refine j_aload_n (pc := 566) 1 dL_law_566 rfl rfl ?_
      refine j_isC (fun h139 => ?_)
      refine j_callV_I (pc := 567) (as := []) (mc2 := (f + 1) * 32) (ms2 := (f + 1) * 982) (ct_X11_thick _ _) h139 rfl cw_L_law_75 dL_law_567 (Nat.le_of_ble_eq_true rfl) rfl (by show (f + 1) * 32 + 0 ≤ _; omega) (by show (f + 1) * 982 + 0 ≤ _; omega) (fun x138 z137 => ?_)
      refine j_aload_n (pc := 570) 2 dL_law_570 rfl rfl ?_
      refine j_isC (fun h142 => ?_)
      refine j_callV_I (pc := 571) (as := []) (mc2 := (f + 1) * 32) (ms2 := (f + 1) * 982) (ct_X12_thick _ _) h142 rfl cw_L_law_78 dL_law_571 (Nat.le_of_ble_eq_true rfl) rfl (by show (f + 1) * 32 + 0 ≤ _; omega) (by show (f + 1) * 982 + 0 ≤ _; omega) (fun x141 z140 => ?_)
      refine j_icmp_eq (pc := 574) 1159 dL_law_574 (by decide) ?_ ?_
      · exact J.fewer (mc1 := f * 32) (ms1 := f * 982) (by omega) (by omega) (J.sub [0, 1, 2, 3] rfl ((j_L_law_B1159 hL18) r1 r2 v3 z140))
      refine j_iconst (pc := 577) (v := 0) dL_law_577 (by decide) ?_
      exact j_ireturn (pc := 578) dL_law_578 rfl rfl
    refine j_ite (fun h154 => ?_) (fun h154 => ?_)
    · refine j_case (pc := 33) 579 dL_law_33 h154 (by decide) rfl (by decide) ?_
      refine j_aload_n (pc := 579) 1 dL_law_579 rfl rfl ?_
      refine j_aload_n (pc := 580) 0 dL_law_580 rfl rfl ?_
      refine j_iload_n (pc := 581) 3 dL_law_581 rfl rfl ?_
      refine j_iconst (pc := 582) (v := 1) dL_law_582 (by decide) ?_
      refine j_iadd (pc := 583) dL_law_583 ?_
      refine j_sld (pc := 584) dL_law_584 (fun x144 => ?_)
      refine j_aload_n (pc := 585) 0 dL_law_585 rfl rfl ?_
      refine j_iload_n (pc := 586) 3 dL_law_586 rfl rfl ?_
      refine j_iconst (pc := 587) (v := 2) dL_law_587 (by decide) ?_
      refine j_iadd (pc := 588) dL_law_588 ?_
      refine j_sld (pc := 589) dL_law_589 (fun x145 => ?_)
      refine j_isC (fun h148 => ?_)
      refine j_callV_I (pc := 590) (as := [.int x144, .int x145]) (mc2 := (f + 1) * 32) (ms2 := (f + 1) * 982) (ct_X11_dig _ _ _ _) h148 rfl cw_L_law_79 dL_law_590 (Nat.le_of_ble_eq_true rfl) rfl (by show (f + 1) * 32 + 0 ≤ _; omega) (by show (f + 1) * 982 + 0 ≤ _; omega) (fun x147 z146 => ?_)
      refine j_aload_n (pc := 593) 2 dL_law_593 rfl rfl ?_
      refine j_aload_n (pc := 594) 0 dL_law_594 rfl rfl ?_
      refine j_iload_n (pc := 595) 3 dL_law_595 rfl rfl ?_
      refine j_iconst (pc := 596) (v := 1) dL_law_596 (by decide) ?_
      refine j_iadd (pc := 597) dL_law_597 ?_
      refine j_sld (pc := 598) dL_law_598 (fun x149 => ?_)
      refine j_aload_n (pc := 599) 0 dL_law_599 rfl rfl ?_
      refine j_iload_n (pc := 600) 3 dL_law_600 rfl rfl ?_
      refine j_iconst (pc := 601) (v := 2) dL_law_601 (by decide) ?_
      refine j_iadd (pc := 602) dL_law_602 ?_
      refine j_sld (pc := 603) dL_law_603 (fun x150 => ?_)
      refine j_isC (fun h153 => ?_)
      refine j_callV_I (pc := 604) (as := [.int x149, .int x150]) (mc2 := (f + 1) * 32) (ms2 := (f + 1) * 982) (ct_X12_dig _ _ _ _) h153 rfl cw_L_law_82 dL_law_604 (Nat.le_of_ble_eq_true rfl) rfl (by show (f + 1) * 32 + 0 ≤ _; omega) (by show (f + 1) * 982 + 0 ≤ _; omega) (fun x152 z151 => ?_)
      refine j_icmp_eq (pc := 607) 1159 dL_law_607 (by decide) ?_ ?_
      · exact J.fewer (mc1 := f * 32) (ms1 := f * 982) (by omega) (by omega) (J.sub [0, 1, 2, 3] rfl ((j_L_law_B1159 hL18) r1 r2 v3 z151))
      refine j_iconst (pc := 610) (v := 0) dL_law_610 (by decide) ?_
      exact j_ireturn (pc := 611) dL_law_611 rfl rfl
    refine j_ite (fun h163 => ?_) (fun h163 => ?_)
    · refine j_case (pc := 33) 612 dL_law_33 h163 (by decide) rfl (by decide) ?_
      refine j_aload_n (pc := 612) 1 dL_law_612 rfl rfl ?_
      refine j_aload_n (pc := 613) 0 dL_law_613 rfl rfl ?_
      refine j_iload_n (pc := 614) 3 dL_law_614 rfl rfl ?_
      refine j_iconst (pc := 615) (v := 1) dL_law_615 (by decide) ?_
      refine j_iadd (pc := 616) dL_law_616 ?_
      refine j_sld (pc := 617) dL_law_617 (fun x155 => ?_)
      refine j_isC (fun h158 => ?_)
      refine j_callV_I (pc := 618) (as := [.int x155]) (mc2 := (f + 1) * 32) (ms2 := (f + 1) * 982) (ct_X11_lacks _ _ _) h158 rfl cw_L_law_83 dL_law_618 (Nat.le_of_ble_eq_true rfl) rfl (by show (f + 1) * 32 + 0 ≤ _; omega) (by show (f + 1) * 982 + 0 ≤ _; omega) (fun x157 z156 => ?_)
      refine j_aload_n (pc := 621) 2 dL_law_621 rfl rfl ?_
      refine j_aload_n (pc := 622) 0 dL_law_622 rfl rfl ?_
      refine j_iload_n (pc := 623) 3 dL_law_623 rfl rfl ?_
      refine j_iconst (pc := 624) (v := 1) dL_law_624 (by decide) ?_
      refine j_iadd (pc := 625) dL_law_625 ?_
      refine j_sld (pc := 626) dL_law_626 (fun x159 => ?_)
      refine j_isC (fun h162 => ?_)
      refine j_callV_I (pc := 627) (as := [.int x159]) (mc2 := (f + 1) * 32) (ms2 := (f + 1) * 982) (ct_X12_lacks _ _ _) h162 rfl cw_L_law_86 dL_law_627 (Nat.le_of_ble_eq_true rfl) rfl (by show (f + 1) * 32 + 0 ≤ _; omega) (by show (f + 1) * 982 + 0 ≤ _; omega) (fun x161 z160 => ?_)
      refine j_icmp_eq (pc := 630) 1159 dL_law_630 (by decide) ?_ ?_
      · exact J.fewer (mc1 := f * 32) (ms1 := f * 982) (by omega) (by omega) (J.sub [0, 1, 2, 3] rfl ((j_L_law_B1159 hL18) r1 r2 v3 z160))
      refine j_iconst (pc := 633) (v := 0) dL_law_633 (by decide) ?_
      exact j_ireturn (pc := 634) dL_law_634 rfl rfl
    refine j_ite (fun h170 => ?_) (fun h170 => ?_)
    · refine j_case (pc := 33) 635 dL_law_33 h170 (by decide) rfl (by decide) ?_
      refine j_aload_n (pc := 635) 1 dL_law_635 rfl rfl ?_
      refine j_isC (fun h166 => ?_)
      refine j_callV_I (pc := 636) (as := []) (mc2 := (f + 1) * 32) (ms2 := (f + 1) * 982) (ct_X11_pump _ _) h166 rfl cw_L_law_87 dL_law_636 (Nat.le_of_ble_eq_true rfl) rfl (by show (f + 1) * 32 + 0 ≤ _; omega) (by show (f + 1) * 982 + 0 ≤ _; omega) (fun x165 z164 => ?_)
      refine j_aload_n (pc := 639) 2 dL_law_639 rfl rfl ?_
      refine j_isC (fun h169 => ?_)
      refine j_callV_I (pc := 640) (as := []) (mc2 := (f + 1) * 32) (ms2 := (f + 1) * 982) (ct_X12_pump _ _) h169 rfl cw_L_law_90 dL_law_640 (Nat.le_of_ble_eq_true rfl) rfl (by show (f + 1) * 32 + 0 ≤ _; omega) (by show (f + 1) * 982 + 0 ≤ _; omega) (fun x168 z167 => ?_)
      refine j_icmp_eq (pc := 643) 1159 dL_law_643 (by decide) ?_ ?_
      · exact J.fewer (mc1 := f * 32) (ms1 := f * 982) (by omega) (by omega) (J.sub [0, 1, 2, 3] rfl ((j_L_law_B1159 hL18) r1 r2 v3 z167))
      refine j_iconst (pc := 646) (v := 0) dL_law_646 (by decide) ?_
      exact j_ireturn (pc := 647) dL_law_647 rfl rfl
    refine j_ite (fun h179 => ?_) (fun h179 => ?_)
    · refine j_case (pc := 33) 648 dL_law_33 h179 (by decide) rfl (by decide) ?_
      refine j_aload_n (pc := 648) 1 dL_law_648 rfl rfl ?_
      refine j_aload_n (pc := 649) 0 dL_law_649 rfl rfl ?_
      refine j_iload_n (pc := 650) 3 dL_law_650 rfl rfl ?_
      refine j_iconst (pc := 651) (v := 1) dL_law_651 (by decide) ?_
      refine j_iadd (pc := 652) dL_law_652 ?_
      refine j_sld (pc := 653) dL_law_653 (fun x171 => ?_)
      refine j_isC (fun h174 => ?_)
      refine j_callV_I (pc := 654) (as := [.int x171]) (mc2 := (f + 1) * 32) (ms2 := (f + 1) * 982) (ct_X11_lift _ _ _) h174 rfl cw_L_law_91 dL_law_654 (Nat.le_of_ble_eq_true rfl) rfl (by show (f + 1) * 32 + 0 ≤ _; omega) (by show (f + 1) * 982 + 0 ≤ _; omega) (fun x173 z172 => ?_)
      refine j_aload_n (pc := 657) 2 dL_law_657 rfl rfl ?_
      refine j_aload_n (pc := 658) 0 dL_law_658 rfl rfl ?_
      refine j_iload_n (pc := 659) 3 dL_law_659 rfl rfl ?_
      refine j_iconst (pc := 660) (v := 1) dL_law_660 (by decide) ?_
      refine j_iadd (pc := 661) dL_law_661 ?_
      refine j_sld (pc := 662) dL_law_662 (fun x175 => ?_)
      refine j_isC (fun h178 => ?_)
      refine j_callV_I (pc := 663) (as := [.int x175]) (mc2 := (f + 1) * 32) (ms2 := (f + 1) * 982) (ct_X12_lift _ _ _) h178 rfl cw_L_law_94 dL_law_663 (Nat.le_of_ble_eq_true rfl) rfl (by show (f + 1) * 32 + 0 ≤ _; omega) (by show (f + 1) * 982 + 0 ≤ _; omega) (fun x177 z176 => ?_)
      refine j_icmp_eq (pc := 666) 1159 dL_law_666 (by decide) ?_ ?_
      · exact J.fewer (mc1 := f * 32) (ms1 := f * 982) (by omega) (by omega) (J.sub [0, 1, 2, 3] rfl ((j_L_law_B1159 hL18) r1 r2 v3 z176))
      refine j_iconst (pc := 669) (v := 0) dL_law_669 (by decide) ?_
      exact j_ireturn (pc := 670) dL_law_670 rfl rfl
    refine j_ite (fun h186 => ?_) (fun h186 => ?_)
    · refine j_case (pc := 33) 671 dL_law_33 h186 (by decide) rfl (by decide) ?_
      refine j_aload_n (pc := 671) 1 dL_law_671 rfl rfl ?_
      refine j_isC (fun h182 => ?_)
      refine j_callV_I (pc := 672) (as := []) (mc2 := (f + 1) * 32) (ms2 := (f + 1) * 982) (ct_X11_cracks _ _) h182 rfl cw_L_law_95 dL_law_672 (Nat.le_of_ble_eq_true rfl) rfl (by show (f + 1) * 32 + 0 ≤ _; omega) (by show (f + 1) * 982 + 0 ≤ _; omega) (fun x181 z180 => ?_)
      refine j_aload_n (pc := 675) 2 dL_law_675 rfl rfl ?_
      refine j_isC (fun h185 => ?_)
      refine j_callV_I (pc := 676) (as := []) (mc2 := (f + 1) * 32) (ms2 := (f + 1) * 982) (ct_X12_cracks _ _) h185 rfl cw_L_law_98 dL_law_676 (Nat.le_of_ble_eq_true rfl) rfl (by show (f + 1) * 32 + 0 ≤ _; omega) (by show (f + 1) * 982 + 0 ≤ _; omega) (fun x184 z183 => ?_)
      refine j_icmp_eq (pc := 679) 1159 dL_law_679 (by decide) ?_ ?_
      · exact J.fewer (mc1 := f * 32) (ms1 := f * 982) (by omega) (by omega) (J.sub [0, 1, 2, 3] rfl ((j_L_law_B1159 hL18) r1 r2 v3 z183))
      refine j_iconst (pc := 682) (v := 0) dL_law_682 (by decide) ?_
      exact j_ireturn (pc := 683) dL_law_683 rfl rfl
    refine j_ite (fun h197 => ?_) (fun h197 => ?_)
    · refine j_case (pc := 33) 684 dL_law_33 h197 (by decide) rfl (by decide) ?_
      refine j_aload_n (pc := 684) 1 dL_law_684 rfl rfl ?_
      refine j_aload_n (pc := 685) 0 dL_law_685 rfl rfl ?_
      refine j_iload_n (pc := 686) 3 dL_law_686 rfl rfl ?_
      refine j_iconst (pc := 687) (v := 1) dL_law_687 (by decide) ?_
      refine j_iadd (pc := 688) dL_law_688 ?_
      refine j_sld (pc := 689) dL_law_689 (fun x187 => ?_)
      refine j_aload_n (pc := 690) 0 dL_law_690 rfl rfl ?_
      refine j_iload_n (pc := 691) 3 dL_law_691 rfl rfl ?_
      refine j_iconst (pc := 692) (v := 2) dL_law_692 (by decide) ?_
      refine j_iadd (pc := 693) dL_law_693 ?_
      refine j_sld (pc := 694) dL_law_694 (fun x188 => ?_)
      refine j_isC (fun h191 => ?_)
      refine j_callV_I (pc := 695) (as := [.int x187, .int x188]) (mc2 := (f + 1) * 32) (ms2 := (f + 1) * 982) (ct_X11_house _ _ _ _) h191 rfl cw_L_law_99 dL_law_695 (Nat.le_of_ble_eq_true rfl) rfl (by show (f + 1) * 32 + 0 ≤ _; omega) (by show (f + 1) * 982 + 0 ≤ _; omega) (fun x190 z189 => ?_)
      refine j_aload_n (pc := 698) 2 dL_law_698 rfl rfl ?_
      refine j_aload_n (pc := 699) 0 dL_law_699 rfl rfl ?_
      refine j_iload_n (pc := 700) 3 dL_law_700 rfl rfl ?_
      refine j_iconst (pc := 701) (v := 1) dL_law_701 (by decide) ?_
      refine j_iadd (pc := 702) dL_law_702 ?_
      refine j_sld (pc := 703) dL_law_703 (fun x192 => ?_)
      refine j_aload_n (pc := 704) 0 dL_law_704 rfl rfl ?_
      refine j_iload_n (pc := 705) 3 dL_law_705 rfl rfl ?_
      refine j_iconst (pc := 706) (v := 2) dL_law_706 (by decide) ?_
      refine j_iadd (pc := 707) dL_law_707 ?_
      refine j_sld (pc := 708) dL_law_708 (fun x193 => ?_)
      refine j_isC (fun h196 => ?_)
      refine j_callV_I (pc := 709) (as := [.int x192, .int x193]) (mc2 := (f + 1) * 32) (ms2 := (f + 1) * 982) (ct_X12_house _ _ _ _) h196 rfl cw_L_law_102 dL_law_709 (Nat.le_of_ble_eq_true rfl) rfl (by show (f + 1) * 32 + 0 ≤ _; omega) (by show (f + 1) * 982 + 0 ≤ _; omega) (fun x195 z194 => ?_)
      refine j_icmp_eq (pc := 712) 1159 dL_law_712 (by decide) ?_ ?_
      · exact J.fewer (mc1 := f * 32) (ms1 := f * 982) (by omega) (by omega) (J.sub [0, 1, 2, 3] rfl ((j_L_law_B1159 hL18) r1 r2 v3 z194))
      refine j_iconst (pc := 715) (v := 0) dL_law_715 (by decide) ?_
      exact j_ireturn (pc := 716) dL_law_716 rfl rfl
    refine j_ite (fun h204 => ?_) (fun h204 => ?_)
    · refine j_case (pc := 33) 717 dL_law_33 h204 (by decide) rfl (by decide) ?_
      refine j_aload_n (pc := 717) 1 dL_law_717 rfl rfl ?_
      refine j_isC (fun h200 => ?_)
      refine j_callV_I (pc := 718) (as := []) (mc2 := (f + 1) * 32) (ms2 := (f + 1) * 982) (ct_X11_foretell _ _) h200 rfl cw_L_law_103 dL_law_718 (Nat.le_of_ble_eq_true rfl) rfl (by show (f + 1) * 32 + 0 ≤ _; omega) (by show (f + 1) * 982 + 0 ≤ _; omega) (fun x199 z198 => ?_)
      refine j_aload_n (pc := 721) 2 dL_law_721 rfl rfl ?_
      refine j_isC (fun h203 => ?_)
      refine j_callV_I (pc := 722) (as := []) (mc2 := (f + 1) * 32) (ms2 := (f + 1) * 982) (ct_X12_foretell _ _) h203 rfl cw_L_law_106 dL_law_722 (Nat.le_of_ble_eq_true rfl) rfl (by show (f + 1) * 32 + 0 ≤ _; omega) (by show (f + 1) * 982 + 0 ≤ _; omega) (fun x202 z201 => ?_)
      refine j_icmp_eq (pc := 725) 1159 dL_law_725 (by decide) ?_ ?_
      · exact J.fewer (mc1 := f * 32) (ms1 := f * 982) (by omega) (by omega) (J.sub [0, 1, 2, 3] rfl ((j_L_law_B1159 hL18) r1 r2 v3 z201))
      refine j_iconst (pc := 728) (v := 0) dL_law_728 (by decide) ?_
      exact j_ireturn (pc := 729) dL_law_729 rfl rfl
    refine j_ite (fun h211 => ?_) (fun h211 => ?_)
    · refine j_case (pc := 33) 730 dL_law_33 h211 (by decide) rfl (by decide) ?_
      refine j_aload_n (pc := 730) 1 dL_law_730 rfl rfl ?_
      refine j_isC (fun h207 => ?_)
      refine j_callV_I (pc := 731) (as := []) (mc2 := (f + 1) * 32) (ms2 := (f + 1) * 982) (ct_X11_off _ _) h207 rfl cw_L_law_107 dL_law_731 (Nat.le_of_ble_eq_true rfl) rfl (by show (f + 1) * 32 + 0 ≤ _; omega) (by show (f + 1) * 982 + 0 ≤ _; omega) (fun x206 z205 => ?_)
      refine j_aload_n (pc := 734) 2 dL_law_734 rfl rfl ?_
      refine j_isC (fun h210 => ?_)
      refine j_callV_I (pc := 735) (as := []) (mc2 := (f + 1) * 32) (ms2 := (f + 1) * 982) (ct_X12_off _ _) h210 rfl cw_L_law_110 dL_law_735 (Nat.le_of_ble_eq_true rfl) rfl (by show (f + 1) * 32 + 0 ≤ _; omega) (by show (f + 1) * 982 + 0 ≤ _; omega) (fun x209 z208 => ?_)
      refine j_icmp_eq (pc := 738) 1159 dL_law_738 (by decide) ?_ ?_
      · exact J.fewer (mc1 := f * 32) (ms1 := f * 982) (by omega) (by omega) (J.sub [0, 1, 2, 3] rfl ((j_L_law_B1159 hL18) r1 r2 v3 z208))
      refine j_iconst (pc := 741) (v := 0) dL_law_741 (by decide) ?_
      exact j_ireturn (pc := 742) dL_law_742 rfl rfl
    refine j_ite (fun h222 => ?_) (fun h222 => ?_)
    · refine j_case (pc := 33) 743 dL_law_33 h222 (by decide) rfl (by decide) ?_
      refine j_aload_n (pc := 743) 1 dL_law_743 rfl rfl ?_
      refine j_aload_n (pc := 744) 0 dL_law_744 rfl rfl ?_
      refine j_iload_n (pc := 745) 3 dL_law_745 rfl rfl ?_
      refine j_iconst (pc := 746) (v := 1) dL_law_746 (by decide) ?_
      refine j_iadd (pc := 747) dL_law_747 ?_
      refine j_sld (pc := 748) dL_law_748 (fun x212 => ?_)
      refine j_aload_n (pc := 749) 0 dL_law_749 rfl rfl ?_
      refine j_iload_n (pc := 750) 3 dL_law_750 rfl rfl ?_
      refine j_iconst (pc := 751) (v := 2) dL_law_751 (by decide) ?_
      refine j_iadd (pc := 752) dL_law_752 ?_
      refine j_sld (pc := 753) dL_law_753 (fun x213 => ?_)
      refine j_isC (fun h216 => ?_)
      refine j_callV_I (pc := 754) (as := [.int x212, .int x213]) (mc2 := (f + 1) * 32) (ms2 := (f + 1) * 982) (ct_X11_more _ _ _ _) h216 rfl cw_L_law_111 dL_law_754 (Nat.le_of_ble_eq_true rfl) rfl (by show (f + 1) * 32 + 0 ≤ _; omega) (by show (f + 1) * 982 + 0 ≤ _; omega) (fun x215 z214 => ?_)
      refine j_aload_n (pc := 757) 2 dL_law_757 rfl rfl ?_
      refine j_aload_n (pc := 758) 0 dL_law_758 rfl rfl ?_
      refine j_iload_n (pc := 759) 3 dL_law_759 rfl rfl ?_
      refine j_iconst (pc := 760) (v := 1) dL_law_760 (by decide) ?_
      refine j_iadd (pc := 761) dL_law_761 ?_
      refine j_sld (pc := 762) dL_law_762 (fun x217 => ?_)
      refine j_aload_n (pc := 763) 0 dL_law_763 rfl rfl ?_
      refine j_iload_n (pc := 764) 3 dL_law_764 rfl rfl ?_
      refine j_iconst (pc := 765) (v := 2) dL_law_765 (by decide) ?_
      refine j_iadd (pc := 766) dL_law_766 ?_
      refine j_sld (pc := 767) dL_law_767 (fun x218 => ?_)
      refine j_isC (fun h221 => ?_)
      refine j_callV_I (pc := 768) (as := [.int x217, .int x218]) (mc2 := (f + 1) * 32) (ms2 := (f + 1) * 982) (ct_X12_more _ _ _ _) h221 rfl cw_L_law_114 dL_law_768 (Nat.le_of_ble_eq_true rfl) rfl (by show (f + 1) * 32 + 0 ≤ _; omega) (by show (f + 1) * 982 + 0 ≤ _; omega) (fun x220 z219 => ?_)
      refine j_icmp_eq (pc := 771) 1159 dL_law_771 (by decide) ?_ ?_
      · exact J.fewer (mc1 := f * 32) (ms1 := f * 982) (by omega) (by omega) (J.sub [0, 1, 2, 3] rfl ((j_L_law_B1159 hL18) r1 r2 v3 z219))
      refine j_iconst (pc := 774) (v := 0) dL_law_774 (by decide) ?_
      exact j_ireturn (pc := 775) dL_law_775 rfl rfl
    refine j_ite (fun h229 => ?_) (fun h229 => ?_)
    · refine j_case (pc := 33) 776 dL_law_33 h229 (by decide) rfl (by decide) ?_
      refine j_aload_n (pc := 776) 1 dL_law_776 rfl rfl ?_
      refine j_isC (fun h225 => ?_)
      refine j_callV_I (pc := 777) (as := []) (mc2 := (f + 1) * 32) (ms2 := (f + 1) * 982) (ct_X11_chosen _ _) h225 rfl cw_L_law_115 dL_law_777 (Nat.le_of_ble_eq_true rfl) rfl (by show (f + 1) * 32 + 0 ≤ _; omega) (by show (f + 1) * 982 + 0 ≤ _; omega) (fun x224 z223 => ?_)
      refine j_aload_n (pc := 780) 2 dL_law_780 rfl rfl ?_
      refine j_isC (fun h228 => ?_)
      refine j_callV_I (pc := 781) (as := []) (mc2 := (f + 1) * 32) (ms2 := (f + 1) * 982) (ct_X12_chosen _ _) h228 rfl cw_L_law_118 dL_law_781 (Nat.le_of_ble_eq_true rfl) rfl (by show (f + 1) * 32 + 0 ≤ _; omega) (by show (f + 1) * 982 + 0 ≤ _; omega) (fun x227 z226 => ?_)
      refine j_icmp_eq (pc := 784) 1159 dL_law_784 (by decide) ?_ ?_
      · exact J.fewer (mc1 := f * 32) (ms1 := f * 982) (by omega) (by omega) (J.sub [0, 1, 2, 3] rfl ((j_L_law_B1159 hL18) r1 r2 v3 z226))
      refine j_iconst (pc := 787) (v := 0) dL_law_787 (by decide) ?_
      exact j_ireturn (pc := 788) dL_law_788 rfl rfl
    refine j_ite (fun h244 => ?_) (fun h244 => ?_)
    · refine j_case (pc := 33) 789 dL_law_33 h244 (by decide) rfl (by decide) ?_
      refine j_aload_n (pc := 789) 1 dL_law_789 rfl rfl ?_
      refine j_aload_n (pc := 790) 0 dL_law_790 rfl rfl ?_
      refine j_iload_n (pc := 791) 3 dL_law_791 rfl rfl ?_
      refine j_iconst (pc := 792) (v := 1) dL_law_792 (by decide) ?_
      refine j_iadd (pc := 793) dL_law_793 ?_
      refine j_sld (pc := 794) dL_law_794 (fun x230 => ?_)
      refine j_aload_n (pc := 795) 0 dL_law_795 rfl rfl ?_
      refine j_iload_n (pc := 796) 3 dL_law_796 rfl rfl ?_
      refine j_iconst (pc := 797) (v := 2) dL_law_797 (by decide) ?_
      refine j_iadd (pc := 798) dL_law_798 ?_
      refine j_sld (pc := 799) dL_law_799 (fun x231 => ?_)
      refine j_aload_n (pc := 800) 0 dL_law_800 rfl rfl ?_
      refine j_iload_n (pc := 801) 3 dL_law_801 rfl rfl ?_
      refine j_iconst (pc := 802) (v := 3) dL_law_802 (by decide) ?_
      refine j_iadd (pc := 803) dL_law_803 ?_
      refine j_sld (pc := 804) dL_law_804 (fun x232 => ?_)
      refine j_aload_n (pc := 805) 0 dL_law_805 rfl rfl ?_
      refine j_iload_n (pc := 806) 3 dL_law_806 rfl rfl ?_
      refine j_iconst (pc := 807) (v := 4) dL_law_807 (by decide) ?_
      refine j_iadd (pc := 808) dL_law_808 ?_
      refine j_sld (pc := 809) dL_law_809 (fun x233 => ?_)
      refine j_isC (fun h236 => ?_)
      refine j_callV_I (pc := 810) (as := [.int x230, .int x231, .int x232, .int x233]) (mc2 := (f + 1) * 32) (ms2 := (f + 1) * 982) (ct_X11_gauge _ _ _ _ _ _) h236 rfl cw_L_law_119 dL_law_810 (Nat.le_of_ble_eq_true rfl) rfl (by show (f + 1) * 32 + 0 ≤ _; omega) (by show (f + 1) * 982 + 0 ≤ _; omega) (fun x235 z234 => ?_)
      refine j_aload_n (pc := 813) 2 dL_law_813 rfl rfl ?_
      refine j_aload_n (pc := 814) 0 dL_law_814 rfl rfl ?_
      refine j_iload_n (pc := 815) 3 dL_law_815 rfl rfl ?_
      refine j_iconst (pc := 816) (v := 1) dL_law_816 (by decide) ?_
      refine j_iadd (pc := 817) dL_law_817 ?_
      refine j_sld (pc := 818) dL_law_818 (fun x237 => ?_)
      refine j_aload_n (pc := 819) 0 dL_law_819 rfl rfl ?_
      refine j_iload_n (pc := 820) 3 dL_law_820 rfl rfl ?_
      refine j_iconst (pc := 821) (v := 2) dL_law_821 (by decide) ?_
      refine j_iadd (pc := 822) dL_law_822 ?_
      refine j_sld (pc := 823) dL_law_823 (fun x238 => ?_)
      refine j_aload_n (pc := 824) 0 dL_law_824 rfl rfl ?_
      refine j_iload_n (pc := 825) 3 dL_law_825 rfl rfl ?_
      refine j_iconst (pc := 826) (v := 3) dL_law_826 (by decide) ?_
      refine j_iadd (pc := 827) dL_law_827 ?_
      refine j_sld (pc := 828) dL_law_828 (fun x239 => ?_)
      refine j_aload_n (pc := 829) 0 dL_law_829 rfl rfl ?_
      refine j_iload_n (pc := 830) 3 dL_law_830 rfl rfl ?_
      refine j_iconst (pc := 831) (v := 4) dL_law_831 (by decide) ?_
      refine j_iadd (pc := 832) dL_law_832 ?_
      refine j_sld (pc := 833) dL_law_833 (fun x240 => ?_)
      refine j_isC (fun h243 => ?_)
      refine j_callV_I (pc := 834) (as := [.int x237, .int x238, .int x239, .int x240]) (mc2 := (f + 1) * 32) (ms2 := (f + 1) * 982) (ct_X12_gauge _ _ _ _ _ _) h243 rfl cw_L_law_123 dL_law_834 (Nat.le_of_ble_eq_true rfl) rfl (by show (f + 1) * 32 + 0 ≤ _; omega) (by show (f + 1) * 982 + 0 ≤ _; omega) (fun x242 z241 => ?_)
      refine j_icmp_eq (pc := 837) 1159 dL_law_837 (by decide) ?_ ?_
      · exact J.fewer (mc1 := f * 32) (ms1 := f * 982) (by omega) (by omega) (J.sub [0, 1, 2, 3] rfl ((j_L_law_B1159 hL18) r1 r2 v3 z241))
      refine j_iconst (pc := 840) (v := 0) dL_law_840 (by decide) ?_
      exact j_ireturn (pc := 841) dL_law_841 rfl rfl
    refine j_ite (fun h253 => ?_) (fun h253 => ?_)
    · refine j_case (pc := 33) 842 dL_law_33 h253 (by decide) rfl (by decide) ?_
      refine j_aload_n (pc := 842) 1 dL_law_842 rfl rfl ?_
      refine j_aload_n (pc := 843) 0 dL_law_843 rfl rfl ?_
      refine j_iload_n (pc := 844) 3 dL_law_844 rfl rfl ?_
      refine j_iconst (pc := 845) (v := 1) dL_law_845 (by decide) ?_
      refine j_iadd (pc := 846) dL_law_846 ?_
      refine j_sld (pc := 847) dL_law_847 (fun x245 => ?_)
      refine j_isC (fun h248 => ?_)
      refine j_callV_I (pc := 848) (as := [.int x245]) (mc2 := (f + 1) * 32) (ms2 := (f + 1) * 982) (ct_X11_lies _ _ _) h248 rfl cw_L_law_124 dL_law_848 (Nat.le_of_ble_eq_true rfl) rfl (by show (f + 1) * 32 + 0 ≤ _; omega) (by show (f + 1) * 982 + 0 ≤ _; omega) (fun x247 z246 => ?_)
      refine j_aload_n (pc := 851) 2 dL_law_851 rfl rfl ?_
      refine j_aload_n (pc := 852) 0 dL_law_852 rfl rfl ?_
      refine j_iload_n (pc := 853) 3 dL_law_853 rfl rfl ?_
      refine j_iconst (pc := 854) (v := 1) dL_law_854 (by decide) ?_
      refine j_iadd (pc := 855) dL_law_855 ?_
      refine j_sld (pc := 856) dL_law_856 (fun x249 => ?_)
      refine j_isC (fun h252 => ?_)
      refine j_callV_I (pc := 857) (as := [.int x249]) (mc2 := (f + 1) * 32) (ms2 := (f + 1) * 982) (ct_X12_lies _ _ _) h252 rfl cw_L_law_127 dL_law_857 (Nat.le_of_ble_eq_true rfl) rfl (by show (f + 1) * 32 + 0 ≤ _; omega) (by show (f + 1) * 982 + 0 ≤ _; omega) (fun x251 z250 => ?_)
      refine j_icmp_eq (pc := 860) 1159 dL_law_860 (by decide) ?_ ?_
      · exact J.fewer (mc1 := f * 32) (ms1 := f * 982) (by omega) (by omega) (J.sub [0, 1, 2, 3] rfl ((j_L_law_B1159 hL18) r1 r2 v3 z250))
      refine j_iconst (pc := 863) (v := 0) dL_law_863 (by decide) ?_
      exact j_ireturn (pc := 864) dL_law_864 rfl rfl
    refine j_ite (fun h262 => ?_) (fun h262 => ?_)
    · refine j_case (pc := 33) 865 dL_law_33 h262 (by decide) rfl (by decide) ?_
      refine j_aload_n (pc := 865) 1 dL_law_865 rfl rfl ?_
      refine j_aload_n (pc := 866) 0 dL_law_866 rfl rfl ?_
      refine j_iload_n (pc := 867) 3 dL_law_867 rfl rfl ?_
      refine j_iconst (pc := 868) (v := 1) dL_law_868 (by decide) ?_
      refine j_iadd (pc := 869) dL_law_869 ?_
      refine j_sld (pc := 870) dL_law_870 (fun x254 => ?_)
      refine j_isC (fun h257 => ?_)
      refine j_callV_I (pc := 871) (as := [.int x254]) (mc2 := (f + 1) * 32) (ms2 := (f + 1) * 982) (ct_X11_most _ _ _) h257 rfl cw_L_law_128 dL_law_871 (Nat.le_of_ble_eq_true rfl) rfl (by show (f + 1) * 32 + 0 ≤ _; omega) (by show (f + 1) * 982 + 0 ≤ _; omega) (fun x256 z255 => ?_)
      refine j_aload_n (pc := 874) 2 dL_law_874 rfl rfl ?_
      refine j_aload_n (pc := 875) 0 dL_law_875 rfl rfl ?_
      refine j_iload_n (pc := 876) 3 dL_law_876 rfl rfl ?_
      refine j_iconst (pc := 877) (v := 1) dL_law_877 (by decide) ?_
      refine j_iadd (pc := 878) dL_law_878 ?_
      refine j_sld (pc := 879) dL_law_879 (fun x258 => ?_)
      refine j_isC (fun h261 => ?_)
      refine j_callV_I (pc := 880) (as := [.int x258]) (mc2 := (f + 1) * 32) (ms2 := (f + 1) * 982) (ct_X12_most _ _ _) h261 rfl cw_L_law_131 dL_law_880 (Nat.le_of_ble_eq_true rfl) rfl (by show (f + 1) * 32 + 0 ≤ _; omega) (by show (f + 1) * 982 + 0 ≤ _; omega) (fun x260 z259 => ?_)
      refine j_icmp_eq (pc := 883) 1159 dL_law_883 (by decide) ?_ ?_
      · exact J.fewer (mc1 := f * 32) (ms1 := f * 982) (by omega) (by omega) (J.sub [0, 1, 2, 3] rfl ((j_L_law_B1159 hL18) r1 r2 v3 z259))
      refine j_iconst (pc := 886) (v := 0) dL_law_886 (by decide) ?_
      exact j_ireturn (pc := 887) dL_law_887 rfl rfl
    refine j_ite (fun h271 => ?_) (fun h271 => ?_)
    · refine j_case (pc := 33) 888 dL_law_33 h271 (by decide) rfl (by decide) ?_
      refine j_aload_n (pc := 888) 1 dL_law_888 rfl rfl ?_
      refine j_aload_n (pc := 889) 0 dL_law_889 rfl rfl ?_
      refine j_iload_n (pc := 890) 3 dL_law_890 rfl rfl ?_
      refine j_iconst (pc := 891) (v := 1) dL_law_891 (by decide) ?_
      refine j_iadd (pc := 892) dL_law_892 ?_
      refine j_sld (pc := 893) dL_law_893 (fun x263 => ?_)
      refine j_isC (fun h266 => ?_)
      refine j_callV_I (pc := 894) (as := [.int x263]) (mc2 := (f + 1) * 32) (ms2 := (f + 1) * 982) (ct_X11_frost _ _ _) h266 rfl cw_L_law_132 dL_law_894 (Nat.le_of_ble_eq_true rfl) rfl (by show (f + 1) * 32 + 0 ≤ _; omega) (by show (f + 1) * 982 + 0 ≤ _; omega) (fun x265 z264 => ?_)
      refine j_aload_n (pc := 897) 2 dL_law_897 rfl rfl ?_
      refine j_aload_n (pc := 898) 0 dL_law_898 rfl rfl ?_
      refine j_iload_n (pc := 899) 3 dL_law_899 rfl rfl ?_
      refine j_iconst (pc := 900) (v := 1) dL_law_900 (by decide) ?_
      refine j_iadd (pc := 901) dL_law_901 ?_
      refine j_sld (pc := 902) dL_law_902 (fun x267 => ?_)
      refine j_isC (fun h270 => ?_)
      refine j_callV_I (pc := 903) (as := [.int x267]) (mc2 := (f + 1) * 32) (ms2 := (f + 1) * 982) (ct_X12_frost _ _ _) h270 rfl cw_L_law_135 dL_law_903 (Nat.le_of_ble_eq_true rfl) rfl (by show (f + 1) * 32 + 0 ≤ _; omega) (by show (f + 1) * 982 + 0 ≤ _; omega) (fun x269 z268 => ?_)
      refine j_icmp_eq (pc := 906) 1159 dL_law_906 (by decide) ?_ ?_
      · exact J.fewer (mc1 := f * 32) (ms1 := f * 982) (by omega) (by omega) (J.sub [0, 1, 2, 3] rfl ((j_L_law_B1159 hL18) r1 r2 v3 z268))
      refine j_iconst (pc := 909) (v := 0) dL_law_909 (by decide) ?_
      exact j_ireturn (pc := 910) dL_law_910 rfl rfl
    refine j_ite (fun h280 => ?_) (fun h280 => ?_)
    · refine j_case (pc := 33) 911 dL_law_33 h280 (by decide) rfl (by decide) ?_
      refine j_aload_n (pc := 911) 1 dL_law_911 rfl rfl ?_
      refine j_aload_n (pc := 912) 0 dL_law_912 rfl rfl ?_
      refine j_iload_n (pc := 913) 3 dL_law_913 rfl rfl ?_
      refine j_iconst (pc := 914) (v := 1) dL_law_914 (by decide) ?_
      refine j_iadd (pc := 915) dL_law_915 ?_
      refine j_sld (pc := 916) dL_law_916 (fun x272 => ?_)
      refine j_isC (fun h275 => ?_)
      refine j_callV_I (pc := 917) (as := [.int x272]) (mc2 := (f + 1) * 32) (ms2 := (f + 1) * 982) (ct_X11_count _ _ _) h275 rfl cw_L_law_136 dL_law_917 (Nat.le_of_ble_eq_true rfl) rfl (by show (f + 1) * 32 + 0 ≤ _; omega) (by show (f + 1) * 982 + 0 ≤ _; omega) (fun x274 z273 => ?_)
      refine j_aload_n (pc := 920) 2 dL_law_920 rfl rfl ?_
      refine j_aload_n (pc := 921) 0 dL_law_921 rfl rfl ?_
      refine j_iload_n (pc := 922) 3 dL_law_922 rfl rfl ?_
      refine j_iconst (pc := 923) (v := 1) dL_law_923 (by decide) ?_
      refine j_iadd (pc := 924) dL_law_924 ?_
      refine j_sld (pc := 925) dL_law_925 (fun x276 => ?_)
      refine j_isC (fun h279 => ?_)
      refine j_callV_I (pc := 926) (as := [.int x276]) (mc2 := (f + 1) * 32) (ms2 := (f + 1) * 982) (ct_X12_count _ _ _) h279 rfl cw_L_law_139 dL_law_926 (Nat.le_of_ble_eq_true rfl) rfl (by show (f + 1) * 32 + 0 ≤ _; omega) (by show (f + 1) * 982 + 0 ≤ _; omega) (fun x278 z277 => ?_)
      refine j_icmp_eq (pc := 929) 1159 dL_law_929 (by decide) ?_ ?_
      · exact J.fewer (mc1 := f * 32) (ms1 := f * 982) (by omega) (by omega) (J.sub [0, 1, 2, 3] rfl ((j_L_law_B1159 hL18) r1 r2 v3 z277))
      refine j_iconst (pc := 932) (v := 0) dL_law_932 (by decide) ?_
      exact j_ireturn (pc := 933) dL_law_933 rfl rfl
    refine j_ite (fun h289 => ?_) (fun h289 => ?_)
    · refine j_case (pc := 33) 934 dL_law_33 h289 (by decide) rfl (by decide) ?_
      refine j_aload_n (pc := 934) 1 dL_law_934 rfl rfl ?_
      refine j_aload_n (pc := 935) 0 dL_law_935 rfl rfl ?_
      refine j_iload_n (pc := 936) 3 dL_law_936 rfl rfl ?_
      refine j_iconst (pc := 937) (v := 1) dL_law_937 (by decide) ?_
      refine j_iadd (pc := 938) dL_law_938 ?_
      refine j_sld (pc := 939) dL_law_939 (fun x281 => ?_)
      refine j_isC (fun h284 => ?_)
      refine j_callV_I (pc := 940) (as := [.int x281]) (mc2 := f * 32) (ms2 := f * 982) (ct_X11_keep _ _ _) h284 rfl cw_L_law_140 dL_law_940 (Nat.le_of_ble_eq_true rfl) rfl (by show f * 32 + 32 ≤ _; omega) (by show f * 982 + 982 ≤ _; omega) (fun x283 z282 => ?_)
      refine j_aload_n (pc := 943) 2 dL_law_943 rfl rfl ?_
      refine j_aload_n (pc := 944) 0 dL_law_944 rfl rfl ?_
      refine j_iload_n (pc := 945) 3 dL_law_945 rfl rfl ?_
      refine j_iconst (pc := 946) (v := 1) dL_law_946 (by decide) ?_
      refine j_iadd (pc := 947) dL_law_947 ?_
      refine j_sld (pc := 948) dL_law_948 (fun x285 => ?_)
      refine j_isC (fun h288 => ?_)
      refine j_callV_I (pc := 949) (as := [.int x285]) (mc2 := f * 32) (ms2 := f * 982) (ct_X12_keep _ _ _) h288 rfl cw_L_law_143 dL_law_949 (Nat.le_of_ble_eq_true rfl) rfl (by show f * 32 + 0 ≤ _; omega) (by show f * 982 + 0 ≤ _; omega) (fun x287 z286 => ?_)
      refine j_icmp_eq (pc := 952) 1159 dL_law_952 (by decide) ?_ ?_
      · exact J.sub [0, 1, 2, 3] rfl ((j_L_law_B1159 hL18) r1 r2 v3 z286)
      refine j_iconst (pc := 955) (v := 0) dL_law_955 (by decide) ?_
      exact j_ireturn (pc := 956) dL_law_956 rfl rfl
    refine j_ite (fun h298 => ?_) (fun h298 => ?_)
    · refine j_case (pc := 33) 957 dL_law_33 h298 (by decide) rfl (by decide) ?_
      refine j_aload_n (pc := 957) 1 dL_law_957 rfl rfl ?_
      refine j_aload_n (pc := 958) 0 dL_law_958 rfl rfl ?_
      refine j_iload_n (pc := 959) 3 dL_law_959 rfl rfl ?_
      refine j_iconst (pc := 960) (v := 1) dL_law_960 (by decide) ?_
      refine j_iadd (pc := 961) dL_law_961 ?_
      refine j_sld (pc := 962) dL_law_962 (fun x290 => ?_)
      refine j_isC (fun h293 => ?_)
      refine j_callV_I (pc := 963) (as := [.int x290]) (mc2 := (f + 1) * 32) (ms2 := (f + 1) * 982) (ct_X11_back _ _ _) h293 rfl cw_L_law_144 dL_law_963 (Nat.le_of_ble_eq_true rfl) rfl (by show (f + 1) * 32 + 0 ≤ _; omega) (by show (f + 1) * 982 + 0 ≤ _; omega) (fun x292 z291 => ?_)
      refine j_aload_n (pc := 966) 2 dL_law_966 rfl rfl ?_
      refine j_aload_n (pc := 967) 0 dL_law_967 rfl rfl ?_
      refine j_iload_n (pc := 968) 3 dL_law_968 rfl rfl ?_
      refine j_iconst (pc := 969) (v := 1) dL_law_969 (by decide) ?_
      refine j_iadd (pc := 970) dL_law_970 ?_
      refine j_sld (pc := 971) dL_law_971 (fun x294 => ?_)
      refine j_isC (fun h297 => ?_)
      refine j_callV_I (pc := 972) (as := [.int x294]) (mc2 := (f + 1) * 32) (ms2 := (f + 1) * 982) (ct_X12_back _ _ _) h297 rfl cw_L_law_147 dL_law_972 (Nat.le_of_ble_eq_true rfl) rfl (by show (f + 1) * 32 + 0 ≤ _; omega) (by show (f + 1) * 982 + 0 ≤ _; omega) (fun x296 z295 => ?_)
      refine j_icmp_eq (pc := 975) 1159 dL_law_975 (by decide) ?_ ?_
      · exact J.fewer (mc1 := f * 32) (ms1 := f * 982) (by omega) (by omega) (J.sub [0, 1, 2, 3] rfl ((j_L_law_B1159 hL18) r1 r2 v3 z295))
      refine j_iconst (pc := 978) (v := 0) dL_law_978 (by decide) ?_
      exact j_ireturn (pc := 979) dL_law_979 rfl rfl
    refine j_ite (fun h311 => ?_) (fun h311 => ?_)
    · refine j_case (pc := 33) 980 dL_law_33 h311 (by decide) rfl (by decide) ?_
      refine j_aload_n (pc := 980) 1 dL_law_980 rfl rfl ?_
      refine j_aload_n (pc := 981) 0 dL_law_981 rfl rfl ?_
      refine j_iload_n (pc := 982) 3 dL_law_982 rfl rfl ?_
      refine j_iconst (pc := 983) (v := 1) dL_law_983 (by decide) ?_
      refine j_iadd (pc := 984) dL_law_984 ?_
      refine j_sld (pc := 985) dL_law_985 (fun x299 => ?_)
      refine j_aload_n (pc := 986) 0 dL_law_986 rfl rfl ?_
      refine j_iload_n (pc := 987) 3 dL_law_987 rfl rfl ?_
      refine j_iconst (pc := 988) (v := 2) dL_law_988 (by decide) ?_
      refine j_iadd (pc := 989) dL_law_989 ?_
      refine j_sld (pc := 990) dL_law_990 (fun x300 => ?_)
      refine j_aload_n (pc := 991) 0 dL_law_991 rfl rfl ?_
      refine j_iload_n (pc := 992) 3 dL_law_992 rfl rfl ?_
      refine j_iconst (pc := 993) (v := 3) dL_law_993 (by decide) ?_
      refine j_iadd (pc := 994) dL_law_994 ?_
      refine j_sld (pc := 995) dL_law_995 (fun x301 => ?_)
      refine j_isC (fun h304 => ?_)
      refine j_callV_I (pc := 996) (as := [.int x299, .int x300, .int x301]) (mc2 := (f + 1) * 32) (ms2 := (f + 1) * 982) (ct_X11_row _ _ _ _ _) h304 rfl cw_L_law_148 dL_law_996 (Nat.le_of_ble_eq_true rfl) rfl (by show (f + 1) * 32 + 0 ≤ _; omega) (by show (f + 1) * 982 + 0 ≤ _; omega) (fun x303 z302 => ?_)
      refine j_aload_n (pc := 999) 2 dL_law_999 rfl rfl ?_
      refine j_aload_n (pc := 1000) 0 dL_law_1000 rfl rfl ?_
      refine j_iload_n (pc := 1001) 3 dL_law_1001 rfl rfl ?_
      refine j_iconst (pc := 1002) (v := 1) dL_law_1002 (by decide) ?_
      refine j_iadd (pc := 1003) dL_law_1003 ?_
      refine j_sld (pc := 1004) dL_law_1004 (fun x305 => ?_)
      refine j_aload_n (pc := 1005) 0 dL_law_1005 rfl rfl ?_
      refine j_iload_n (pc := 1006) 3 dL_law_1006 rfl rfl ?_
      refine j_iconst (pc := 1007) (v := 2) dL_law_1007 (by decide) ?_
      refine j_iadd (pc := 1008) dL_law_1008 ?_
      refine j_sld (pc := 1009) dL_law_1009 (fun x306 => ?_)
      refine j_aload_n (pc := 1010) 0 dL_law_1010 rfl rfl ?_
      refine j_iload_n (pc := 1011) 3 dL_law_1011 rfl rfl ?_
      refine j_iconst (pc := 1012) (v := 3) dL_law_1012 (by decide) ?_
      refine j_iadd (pc := 1013) dL_law_1013 ?_
      refine j_sld (pc := 1014) dL_law_1014 (fun x307 => ?_)
      refine j_isC (fun h310 => ?_)
      refine j_callV_I (pc := 1015) (as := [.int x305, .int x306, .int x307]) (mc2 := (f + 1) * 32) (ms2 := (f + 1) * 982) (ct_X12_row _ _ _ _ _) h310 rfl cw_L_law_151 dL_law_1015 (Nat.le_of_ble_eq_true rfl) rfl (by show (f + 1) * 32 + 0 ≤ _; omega) (by show (f + 1) * 982 + 0 ≤ _; omega) (fun x309 z308 => ?_)
      refine j_icmp_eq (pc := 1018) 1159 dL_law_1018 (by decide) ?_ ?_
      · exact J.fewer (mc1 := f * 32) (ms1 := f * 982) (by omega) (by omega) (J.sub [0, 1, 2, 3] rfl ((j_L_law_B1159 hL18) r1 r2 v3 z308))
      refine j_iconst (pc := 1021) (v := 0) dL_law_1021 (by decide) ?_
      exact j_ireturn (pc := 1022) dL_law_1022 rfl rfl
    refine j_ite (fun h326 => ?_) (fun h326 => ?_)
    · refine j_case (pc := 33) 1023 dL_law_33 h326 (by decide) rfl (by decide) ?_
      refine j_aload_n (pc := 1023) 1 dL_law_1023 rfl rfl ?_
      refine j_aload_n (pc := 1024) 0 dL_law_1024 rfl rfl ?_
      refine j_iload_n (pc := 1025) 3 dL_law_1025 rfl rfl ?_
      refine j_iconst (pc := 1026) (v := 1) dL_law_1026 (by decide) ?_
      refine j_iadd (pc := 1027) dL_law_1027 ?_
      refine j_sld (pc := 1028) dL_law_1028 (fun x312 => ?_)
      refine j_aload_n (pc := 1029) 0 dL_law_1029 rfl rfl ?_
      refine j_iload_n (pc := 1030) 3 dL_law_1030 rfl rfl ?_
      refine j_iconst (pc := 1031) (v := 2) dL_law_1031 (by decide) ?_
      refine j_iadd (pc := 1032) dL_law_1032 ?_
      refine j_sld (pc := 1033) dL_law_1033 (fun x313 => ?_)
      refine j_aload_n (pc := 1034) 0 dL_law_1034 rfl rfl ?_
      refine j_iload_n (pc := 1035) 3 dL_law_1035 rfl rfl ?_
      refine j_iconst (pc := 1036) (v := 3) dL_law_1036 (by decide) ?_
      refine j_iadd (pc := 1037) dL_law_1037 ?_
      refine j_sld (pc := 1038) dL_law_1038 (fun x314 => ?_)
      refine j_i2l (pc := 1039) dL_law_1039 ?_
      refine j_bipush (pc := 1040) (v := 32) dL_law_1040 (by decide) ?_
      refine j_lshl (pc := 1042) dL_law_1042 ?_
      refine j_aload_n (pc := 1043) 0 dL_law_1043 rfl rfl ?_
      refine j_iload_n (pc := 1044) 3 dL_law_1044 rfl rfl ?_
      refine j_iconst (pc := 1045) (v := 4) dL_law_1045 (by decide) ?_
      refine j_iadd (pc := 1046) dL_law_1046 ?_
      refine j_sld (pc := 1047) dL_law_1047 (fun x315 => ?_)
      refine j_i2l (pc := 1048) dL_law_1048 ?_
      refine j_ldc2 (pc := 1049) (v := 4294967295) dL_law_1049 w_1775 ?_
      refine j_land (pc := 1052) dL_law_1052 ?_
      refine j_lor (pc := 1053) dL_law_1053 ?_
      refine j_isC (fun h318 => ?_)
      refine j_callV_I (pc := 1054) (as := [.int x312, .int x313, .long (((Int32.toInt64 x314) <<< (Int32.toInt64 32 &&& 63)) ||| ((Int32.toInt64 x315) &&& 4294967295))]) (mc2 := (f + 1) * 32) (ms2 := (f + 1) * 982) (ct_X11_write _ _ _ _ _) h318 rfl cw_L_law_154 dL_law_1054 (Nat.le_of_ble_eq_true rfl) rfl (by show (f + 1) * 32 + 0 ≤ _; omega) (by show (f + 1) * 982 + 0 ≤ _; omega) (fun x317 z316 => ?_)
      refine j_aload_n (pc := 1057) 2 dL_law_1057 rfl rfl ?_
      refine j_aload_n (pc := 1058) 0 dL_law_1058 rfl rfl ?_
      refine j_iload_n (pc := 1059) 3 dL_law_1059 rfl rfl ?_
      refine j_iconst (pc := 1060) (v := 1) dL_law_1060 (by decide) ?_
      refine j_iadd (pc := 1061) dL_law_1061 ?_
      refine j_sld (pc := 1062) dL_law_1062 (fun x319 => ?_)
      refine j_aload_n (pc := 1063) 0 dL_law_1063 rfl rfl ?_
      refine j_iload_n (pc := 1064) 3 dL_law_1064 rfl rfl ?_
      refine j_iconst (pc := 1065) (v := 2) dL_law_1065 (by decide) ?_
      refine j_iadd (pc := 1066) dL_law_1066 ?_
      refine j_sld (pc := 1067) dL_law_1067 (fun x320 => ?_)
      refine j_aload_n (pc := 1068) 0 dL_law_1068 rfl rfl ?_
      refine j_iload_n (pc := 1069) 3 dL_law_1069 rfl rfl ?_
      refine j_iconst (pc := 1070) (v := 3) dL_law_1070 (by decide) ?_
      refine j_iadd (pc := 1071) dL_law_1071 ?_
      refine j_sld (pc := 1072) dL_law_1072 (fun x321 => ?_)
      refine j_i2l (pc := 1073) dL_law_1073 ?_
      refine j_bipush (pc := 1074) (v := 32) dL_law_1074 (by decide) ?_
      refine j_lshl (pc := 1076) dL_law_1076 ?_
      refine j_aload_n (pc := 1077) 0 dL_law_1077 rfl rfl ?_
      refine j_iload_n (pc := 1078) 3 dL_law_1078 rfl rfl ?_
      refine j_iconst (pc := 1079) (v := 4) dL_law_1079 (by decide) ?_
      refine j_iadd (pc := 1080) dL_law_1080 ?_
      refine j_sld (pc := 1081) dL_law_1081 (fun x322 => ?_)
      refine j_i2l (pc := 1082) dL_law_1082 ?_
      refine j_ldc2 (pc := 1083) (v := 4294967295) dL_law_1083 w_1775 ?_
      refine j_land (pc := 1086) dL_law_1086 ?_
      refine j_lor (pc := 1087) dL_law_1087 ?_
      refine j_isC (fun h325 => ?_)
      refine j_callV_I (pc := 1088) (as := [.int x319, .int x320, .long (((Int32.toInt64 x321) <<< (Int32.toInt64 32 &&& 63)) ||| ((Int32.toInt64 x322) &&& 4294967295))]) (mc2 := (f + 1) * 32) (ms2 := (f + 1) * 982) (ct_X12_write _ _ _ _ _) h325 rfl cw_L_law_158 dL_law_1088 (Nat.le_of_ble_eq_true rfl) rfl (by show (f + 1) * 32 + 0 ≤ _; omega) (by show (f + 1) * 982 + 0 ≤ _; omega) (fun x324 z323 => ?_)
      refine j_icmp_eq (pc := 1091) 1159 dL_law_1091 (by decide) ?_ ?_
      · exact J.fewer (mc1 := f * 32) (ms1 := f * 982) (by omega) (by omega) (J.sub [0, 1, 2, 3] rfl ((j_L_law_B1159 hL18) r1 r2 v3 z323))
      refine j_iconst (pc := 1094) (v := 0) dL_law_1094 (by decide) ?_
      exact j_ireturn (pc := 1095) dL_law_1095 rfl rfl
    refine j_ite (fun h343 => ?_) (fun h343 => ?_)
    · refine j_case (pc := 33) 1096 dL_law_33 h343 (by decide) rfl (by decide) ?_
      refine j_aload_n (pc := 1096) 1 dL_law_1096 rfl rfl ?_
      refine j_aload_n (pc := 1097) 0 dL_law_1097 rfl rfl ?_
      refine j_iload_n (pc := 1098) 3 dL_law_1098 rfl rfl ?_
      refine j_iconst (pc := 1099) (v := 1) dL_law_1099 (by decide) ?_
      refine j_iadd (pc := 1100) dL_law_1100 ?_
      refine j_sld (pc := 1101) dL_law_1101 (fun x327 => ?_)
      refine j_aload_n (pc := 1102) 0 dL_law_1102 rfl rfl ?_
      refine j_iload_n (pc := 1103) 3 dL_law_1103 rfl rfl ?_
      refine j_iconst (pc := 1104) (v := 2) dL_law_1104 (by decide) ?_
      refine j_iadd (pc := 1105) dL_law_1105 ?_
      refine j_sld (pc := 1106) dL_law_1106 (fun x328 => ?_)
      refine j_aload_n (pc := 1107) 0 dL_law_1107 rfl rfl ?_
      refine j_iload_n (pc := 1108) 3 dL_law_1108 rfl rfl ?_
      refine j_iconst (pc := 1109) (v := 3) dL_law_1109 (by decide) ?_
      refine j_iadd (pc := 1110) dL_law_1110 ?_
      refine j_sld (pc := 1111) dL_law_1111 (fun x329 => ?_)
      refine j_aload_n (pc := 1112) 0 dL_law_1112 rfl rfl ?_
      refine j_iload_n (pc := 1113) 3 dL_law_1113 rfl rfl ?_
      refine j_iconst (pc := 1114) (v := 4) dL_law_1114 (by decide) ?_
      refine j_iadd (pc := 1115) dL_law_1115 ?_
      refine j_sld (pc := 1116) dL_law_1116 (fun x330 => ?_)
      refine j_aload_n (pc := 1117) 0 dL_law_1117 rfl rfl ?_
      refine j_iload_n (pc := 1118) 3 dL_law_1118 rfl rfl ?_
      refine j_iconst (pc := 1119) (v := 5) dL_law_1119 (by decide) ?_
      refine j_iadd (pc := 1120) dL_law_1120 ?_
      refine j_sld (pc := 1121) dL_law_1121 (fun x331 => ?_)
      refine j_isC (fun h334 => ?_)
      refine j_callV_I (pc := 1122) (as := [.int x327, .int x328, .int x329, .int x330, .int x331]) (mc2 := (f + 1) * 32) (ms2 := (f + 1) * 982) (ct_X11_paste _ _ _ _ _ _ _) h334 rfl cw_L_law_159 dL_law_1122 (Nat.le_of_ble_eq_true rfl) rfl (by show (f + 1) * 32 + 0 ≤ _; omega) (by show (f + 1) * 982 + 0 ≤ _; omega) (fun x333 z332 => ?_)
      refine j_aload_n (pc := 1125) 2 dL_law_1125 rfl rfl ?_
      refine j_aload_n (pc := 1126) 0 dL_law_1126 rfl rfl ?_
      refine j_iload_n (pc := 1127) 3 dL_law_1127 rfl rfl ?_
      refine j_iconst (pc := 1128) (v := 1) dL_law_1128 (by decide) ?_
      refine j_iadd (pc := 1129) dL_law_1129 ?_
      refine j_sld (pc := 1130) dL_law_1130 (fun x335 => ?_)
      refine j_aload_n (pc := 1131) 0 dL_law_1131 rfl rfl ?_
      refine j_iload_n (pc := 1132) 3 dL_law_1132 rfl rfl ?_
      refine j_iconst (pc := 1133) (v := 2) dL_law_1133 (by decide) ?_
      refine j_iadd (pc := 1134) dL_law_1134 ?_
      refine j_sld (pc := 1135) dL_law_1135 (fun x336 => ?_)
      refine j_aload_n (pc := 1136) 0 dL_law_1136 rfl rfl ?_
      refine j_iload_n (pc := 1137) 3 dL_law_1137 rfl rfl ?_
      refine j_iconst (pc := 1138) (v := 3) dL_law_1138 (by decide) ?_
      refine j_iadd (pc := 1139) dL_law_1139 ?_
      refine j_sld (pc := 1140) dL_law_1140 (fun x337 => ?_)
      refine j_aload_n (pc := 1141) 0 dL_law_1141 rfl rfl ?_
      refine j_iload_n (pc := 1142) 3 dL_law_1142 rfl rfl ?_
      refine j_iconst (pc := 1143) (v := 4) dL_law_1143 (by decide) ?_
      refine j_iadd (pc := 1144) dL_law_1144 ?_
      refine j_sld (pc := 1145) dL_law_1145 (fun x338 => ?_)
      refine j_aload_n (pc := 1146) 0 dL_law_1146 rfl rfl ?_
      refine j_iload_n (pc := 1147) 3 dL_law_1147 rfl rfl ?_
      refine j_iconst (pc := 1148) (v := 5) dL_law_1148 (by decide) ?_
      refine j_iadd (pc := 1149) dL_law_1149 ?_
      refine j_sld (pc := 1150) dL_law_1150 (fun x339 => ?_)
      refine j_isC (fun h342 => ?_)
      refine j_callV_I (pc := 1151) (as := [.int x335, .int x336, .int x337, .int x338, .int x339]) (mc2 := (f + 1) * 32) (ms2 := (f + 1) * 982) (ct_X12_paste _ _ _ _ _ _ _) h342 rfl cw_L_law_162 dL_law_1151 (Nat.le_of_ble_eq_true rfl) rfl (by show (f + 1) * 32 + 0 ≤ _; omega) (by show (f + 1) * 982 + 0 ≤ _; omega) (fun x341 z340 => ?_)
      refine j_icmp_eq (pc := 1154) 1159 dL_law_1154 (by decide) ?_ ?_
      · exact J.fewer (mc1 := f * 32) (ms1 := f * 982) (by omega) (by omega) (J.sub [0, 1, 2, 3] rfl ((j_L_law_B1159 hL18) r1 r2 v3 z340))
      refine j_iconst (pc := 1157) (v := 0) dL_law_1157 (by decide) ?_
      exact j_ireturn (pc := 1158) dL_law_1158 rfl rfl
    refine j_dflt (pc := 33) 1159 dL_law_33 (sw_out 35 (by decide) (fun k hk => ?_)) (by decide) ?_
    · match k, hk with
      | 0, _ => exact h27
      | 1, _ => exact h36
      | 2, _ => exact h43
      | 3, _ => exact h52
      | 4, _ => exact h61
      | 5, _ => exact h74
      | 6, _ => exact h83
      | 7, _ => exact h86
      | 8, _ => exact h97
      | 9, _ => exact h106
      | 10, _ => exact h113
      | 11, _ => exact h120
      | 12, _ => exact h127
      | 13, _ => exact h136
      | 14, _ => exact h143
      | 15, _ => exact h154
      | 16, _ => exact h163
      | 17, _ => exact h170
      | 18, _ => exact h179
      | 19, _ => exact h186
      | 20, _ => exact h197
      | 21, _ => exact h204
      | 22, _ => exact h211
      | 23, _ => exact h222
      | 24, _ => exact h229
      | 25, _ => exact h244
      | 26, _ => exact h253
      | 27, _ => exact h262
      | 28, _ => exact h271
      | 29, _ => exact h280
      | 30, _ => exact h289
      | 31, _ => exact h298
      | 32, _ => exact h311
      | 33, _ => exact h326
      | 34, _ => exact h343
      | k + 35, hk => exact absurd hk (by omega)
    exact J.fewer (mc1 := f * 32) (ms1 := f * 982) (by omega) (by omega) (J.sub [0, 1, 2, 3] rfl ((j_L_law_B1159 hL18) r1 r2 v3 z))
theorem j_L_law {l : Launch} {Γ : Am} (z : Hp) : J l Γ mi_L_law cvI 16531 517020 0 [(0, .ref (mX Γ).1)] [] z (m_L_law (mX Γ).2 z) := by
  unfold m_L_law
  refine j_new (pc := 0) (mc2 := 16530) (ms2 := 517007) ok_X11 df_X11 ⟨w_116, w_117, w_95⟩ dL_law_0 (by decide) (by decide) (fun a344 z345 => ?_)
  refine j_dup (pc := 3) dL_law_3 rfl ?_
  refine j_callI_V (pc := 4) (as := []) (mc2 := 16439) (ms2 := 511588) (ct_X11_init _ _) cw_L_law_9 dL_law_4 (Nat.le_of_ble_eq_true rfl) rfl (by decide) (by decide) (fun _ z346 => ?_)
  refine j_astore_n (pc := 7) (lv2 := [(1, .ref (mB Γ + a344)), (0, .ref (mX Γ).1)]) dL_law_7 rfl (by decide) rfl ?_
  refine j_new (pc := 8) (mc2 := 16438) (ms2 := 511548) ok_X12 df_X12 ⟨w_1218, w_1219, w_108⟩ dL_law_8 (by decide) (by decide) (fun a347 z348 => ?_)
  refine j_dup (pc := 11) dL_law_11 rfl ?_
  refine j_callI_V (pc := 12) (as := []) (mc2 := 16416) (ms2 := 503766) (ct_X12_init _ _) cw_L_law_12 dL_law_12 (Nat.le_of_ble_eq_true rfl) rfl (by decide) (by decide) (fun _ z349 => ?_)
  refine j_astore_n (pc := 15) (lv2 := [(2, .ref (mB Γ + a347)), (1, .ref (mB Γ + a344)), (0, .ref (mX Γ).1)]) dL_law_15 rfl (by decide) rfl ?_
  refine j_iconst (pc := 16) (v := 0) dL_law_16 (by decide) ?_
  refine j_istore_n (pc := 17) (lv2 := [(3, .int 0), (2, .ref (mB Γ + a347)), (1, .ref (mB Γ + a344)), (0, .ref (mX Γ).1)]) dL_law_17 rfl (by decide) rfl ?_
  exact J.fewer (by decide) (by decide) (J.sub [3, 2, 1, 0] rfl ((j_L_law_L18 513) a344 a347 0 z349))

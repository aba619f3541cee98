-- THE LAW, case by case
section LL
variable {bc bs n L t : Nat} {sh : ZS} {R : ZR} {I : ZI} {i : Int} {Q : Option AV → ZW → Prop}
/-- what the law goes on with -/
def lNext (bc bs n : Nat) (sh : ZS) (I : ZI) (t : Nat) (i : Int) (Q : Option AV → ZW → Prop) : Prop := ∀ (K : ZI) (R2 : ZR), Wf sh R2 → rNo R2 → Rel (t + 1) K R2 → (∀ j, K zSc j = I zSc j) → Ex 1000 250 1062 [some (.inr zSc), some (.inr 1), some (.inr 137), some (.inl i)] [] (bc, bs, n, sh, R2, K) Q
set_option maxHeartbeats 4000000 in
theorem b_L_0 (hW : Wf sh R) (hN : rNo R) (hr : Rel t I R) (ht : t < 100000) (hs : sh zSc = (3, L)) (hi : 0 ≤ i ∧ i + 6 ≤ (L : Int) ∧ L ≤ 3072) (k : lNext bc bs n sh I t i Q) : Ex 1000 250 176 [some (.inr zSc), some (.inr 1), some (.inr 137), some (.inl i)] [] (bc, bs, n, sh, R, I) Q := by
  refine x_aload_n d250_176 rfl ?_
  refine x_aload_n d250_177 rfl ?_
  refine x_iload_n d250_178 rfl ?_
  refine x_iconst d250_179 rfl ?_
  refine x_iadd d250_180 (by unfold zr; omega) ?_
  refine x_sald d250_181 hs (by omega) (by omega) ?_
  refine x_aload_n d250_182 rfl ?_
  refine x_iload_n d250_183 rfl ?_
  refine x_iconst d250_184 rfl ?_
  refine x_iadd d250_185 (by unfold zr; omega) ?_
  refine x_sald d250_186 hs (by omega) (by omega) ?_
  refine x_aload_n d250_187 rfl ?_
  refine x_iload_n d250_188 rfl ?_
  refine x_iconst d250_189 rfl ?_
  refine x_iadd d250_190 (by unfold zr; omega) ?_
  refine x_sald d250_191 hs (by omega) (by omega) ?_
  refine y_invR (as := [.inl (I zSc (i + 1).toNat), .inl (I zSc (i + 2).toNat), .inl (I zSc (i + 3).toNat)]) (t := []) (o := 1) gY_96 d250_192 gY_250.2.2.2 gM_13_13 rfl (sh_1 hW) rfl (r_letter t R I ht hW hN hr) (fun v J R2 hW2 hk => ?_)
  obtain ⟨_, hN2, hJ, hm⟩ := hk
  refine x_aload_n d250_195 rfl ?_
  refine x_aload_n d250_196 rfl ?_
  refine x_iload_n d250_197 rfl ?_
  refine x_iconst d250_198 rfl ?_
  refine x_iadd d250_199 (by unfold zr; omega) ?_
  refine x_sald d250_200 hs (by omega) (by omega) ?_
  rw [hJ]
  refine x_aload_n d250_201 rfl ?_
  refine x_iload_n d250_202 rfl ?_
  refine x_iconst d250_203 rfl ?_
  refine x_iadd d250_204 (by unfold zr; omega) ?_
  refine x_sald d250_205 hs (by omega) (by omega) ?_
  rw [hJ]
  refine x_aload_n d250_206 rfl ?_
  refine x_iload_n d250_207 rfl ?_
  refine x_iconst d250_208 rfl ?_
  refine x_iadd d250_209 (by unfold zr; omega) ?_
  refine x_sald d250_210 hs (by omega) (by omega) ?_
  rw [hJ]
  refine y_invI (as := [.inl (I zSc (i + 1).toNat), .inl (I zSc (i + 2).toNat), .inl (I zSc (i + 3).toNat)]) (t := [.inl v]) (o := 137) gY_148 d250_211 gY_250.2.2.2 gM_13_17 rfl (sh_137 hW2) rfl hm (fun v2 K hk => ?_)
  obtain ⟨hv, hr2, hK⟩ := hk
  exact x_if2 (pc2 := 1062) d250_214 rfl (fun _ => k K R2 hW2 hN2 hr2 hK) (fun c => absurd hv.symm c)
set_option maxHeartbeats 4000000 in
theorem b_L_1 (hW : Wf sh R) (hN : rNo R) (hr : Rel t I R) (ht : t < 100000) (hs : sh zSc = (3, L)) (hi : 0 ≤ i ∧ i + 6 ≤ (L : Int) ∧ L ≤ 3072) (k : lNext bc bs n sh I t i Q) : Ex 1000 250 219 [some (.inr zSc), some (.inr 1), some (.inr 137), some (.inl i)] [] (bc, bs, n, sh, R, I) Q := by
  refine x_aload_n d250_219 rfl ?_
  refine x_aload_n d250_220 rfl ?_
  refine x_iload_n d250_221 rfl ?_
  refine x_iconst d250_222 rfl ?_
  refine x_iadd d250_223 (by unfold zr; omega) ?_
  refine x_sald d250_224 hs (by omega) (by omega) ?_
  refine x_aload_n d250_225 rfl ?_
  refine x_iload_n d250_226 rfl ?_
  refine x_iconst d250_227 rfl ?_
  refine x_iadd d250_228 (by unfold zr; omega) ?_
  refine x_sald d250_229 hs (by omega) (by omega) ?_
  refine y_invR (as := [.inl (I zSc (i + 1).toNat), .inl (I zSc (i + 2).toNat)]) (t := []) (o := 1) gY_97 d250_230 gY_250.2.2.2 gM_13_18 rfl (sh_1 hW) rfl (r_rank t R I ht hW hN hr) (fun v J R2 hW2 hk => ?_)
  obtain ⟨_, hN2, hJ, hm⟩ := hk
  refine x_aload_n d250_233 rfl ?_
  refine x_aload_n d250_234 rfl ?_
  refine x_iload_n d250_235 rfl ?_
  refine x_iconst d250_236 rfl ?_
  refine x_iadd d250_237 (by unfold zr; omega) ?_
  refine x_sald d250_238 hs (by omega) (by omega) ?_
  rw [hJ]
  refine x_aload_n d250_239 rfl ?_
  refine x_iload_n d250_240 rfl ?_
  refine x_iconst d250_241 rfl ?_
  refine x_iadd d250_242 (by unfold zr; omega) ?_
  refine x_sald d250_243 hs (by omega) (by omega) ?_
  rw [hJ]
  refine y_invI (as := [.inl (I zSc (i + 1).toNat), .inl (I zSc (i + 2).toNat)]) (t := [.inl v]) (o := 137) gY_149 d250_244 gY_250.2.2.2 gM_13_22 rfl (sh_137 hW2) rfl hm (fun v2 K hk => ?_)
  obtain ⟨hv, hr2, hK⟩ := hk
  exact x_if2 (pc2 := 1062) d250_247 rfl (fun _ => k K R2 hW2 hN2 hr2 hK) (fun c => absurd hv.symm c)
set_option maxHeartbeats 4000000 in
theorem b_L_2 (hW : Wf sh R) (hN : rNo R) (hr : Rel t I R) (ht : t < 100000) (hs : sh zSc = (3, L)) (hi : 0 ≤ i ∧ i + 6 ≤ (L : Int) ∧ L ≤ 3072) (k : lNext bc bs n sh I t i Q) : Ex 1000 250 252 [some (.inr zSc), some (.inr 1), some (.inr 137), some (.inl i)] [] (bc, bs, n, sh, R, I) Q := by
  refine x_aload_n d250_252 rfl ?_
  refine x_aload_n d250_253 rfl ?_
  refine x_iload_n d250_254 rfl ?_
  refine x_iconst d250_255 rfl ?_
  refine x_iadd d250_256 (by unfold zr; omega) ?_
  refine x_sald d250_257 hs (by omega) (by omega) ?_
  refine x_aload_n d250_258 rfl ?_
  refine x_iload_n d250_259 rfl ?_
  refine x_iconst d250_260 rfl ?_
  refine x_iadd d250_261 (by unfold zr; omega) ?_
  refine x_sald d250_262 hs (by omega) (by omega) ?_
  refine y_invR (as := [.inl (I zSc (i + 1).toNat), .inl (I zSc (i + 2).toNat)]) (t := []) (o := 1) gY_98 d250_263 gY_250.2.2.2 gM_13_23 rfl (sh_1 hW) rfl (r_rack t R I ht hW hN hr) (fun v J R2 hW2 hk => ?_)
  obtain ⟨_, hN2, hJ, hm⟩ := hk
  refine x_aload_n d250_266 rfl ?_
  refine x_aload_n d250_267 rfl ?_
  refine x_iload_n d250_268 rfl ?_
  refine x_iconst d250_269 rfl ?_
  refine x_iadd d250_270 (by unfold zr; omega) ?_
  refine x_sald d250_271 hs (by omega) (by omega) ?_
  rw [hJ]
  refine x_aload_n d250_272 rfl ?_
  refine x_iload_n d250_273 rfl ?_
  refine x_iconst d250_274 rfl ?_
  refine x_iadd d250_275 (by unfold zr; omega) ?_
  refine x_sald d250_276 hs (by omega) (by omega) ?_
  rw [hJ]
  refine y_invI (as := [.inl (I zSc (i + 1).toNat), .inl (I zSc (i + 2).toNat)]) (t := [.inl v]) (o := 137) gY_150 d250_277 gY_250.2.2.2 gM_13_26 rfl (sh_137 hW2) rfl hm (fun v2 K hk => ?_)
  obtain ⟨hv, hr2, hK⟩ := hk
  exact x_if2 (pc2 := 1062) d250_280 rfl (fun _ => k K R2 hW2 hN2 hr2 hK) (fun c => absurd hv.symm c)
set_option maxHeartbeats 4000000 in
theorem b_L_3 (hW : Wf sh R) (hN : rNo R) (hr : Rel t I R) (ht : t < 100000) (hs : sh zSc = (3, L)) (hi : 0 ≤ i ∧ i + 6 ≤ (L : Int) ∧ L ≤ 3072) (k : lNext bc bs n sh I t i Q) : Ex 1000 250 285 [some (.inr zSc), some (.inr 1), some (.inr 137), some (.inl i)] [] (bc, bs, n, sh, R, I) Q := by
  refine x_aload_n d250_285 rfl ?_
  refine x_aload_n d250_286 rfl ?_
  refine x_iload_n d250_287 rfl ?_
  refine x_iconst d250_288 rfl ?_
  refine x_iadd d250_289 (by unfold zr; omega) ?_
  refine x_sald d250_290 hs (by omega) (by omega) ?_
  refine x_aload_n d250_291 rfl ?_
  refine x_iload_n d250_292 rfl ?_
  refine x_iconst d250_293 rfl ?_
  refine x_iadd d250_294 (by unfold zr; omega) ?_
  refine x_sald d250_295 hs (by omega) (by omega) ?_
  refine x_aload_n d250_296 rfl ?_
  refine x_iload_n d250_297 rfl ?_
  refine x_iconst d250_298 rfl ?_
  refine x_iadd d250_299 (by unfold zr; omega) ?_
  refine x_sald d250_300 hs (by omega) (by omega) ?_
  refine x_aload_n d250_301 rfl ?_
  refine x_iload_n d250_302 rfl ?_
  refine x_iconst d250_303 rfl ?_
  refine x_iadd d250_304 (by unfold zr; omega) ?_
  refine x_sald d250_305 hs (by omega) (by omega) ?_
  refine x_aload_n d250_306 rfl ?_
  refine x_iload_n d250_307 rfl ?_
  refine x_iconst d250_308 rfl ?_
  refine x_iadd d250_309 (by unfold zr; omega) ?_
  refine x_sald d250_310 hs (by omega) (by omega) ?_
  refine y_invR (as := [.inl (I zSc (i + 1).toNat), .inl (I zSc (i + 2).toNat), .inl (I zSc (i + 3).toNat), .inl (I zSc (i + 4).toNat), .inl (I zSc (i + 5).toNat)]) (t := []) (o := 1) gY_99 d250_311 gY_250.2.2.2 gM_13_27 rfl (sh_1 hW) rfl (r_feed t R I ht hW hN hr) (fun v J R2 hW2 hk => ?_)
  obtain ⟨_, hN2, hJ, hm⟩ := hk
  refine x_aload_n d250_314 rfl ?_
  refine x_aload_n d250_315 rfl ?_
  refine x_iload_n d250_316 rfl ?_
  refine x_iconst d250_317 rfl ?_
  refine x_iadd d250_318 (by unfold zr; omega) ?_
  refine x_sald d250_319 hs (by omega) (by omega) ?_
  rw [hJ]
  refine x_aload_n d250_320 rfl ?_
  refine x_iload_n d250_321 rfl ?_
  refine x_iconst d250_322 rfl ?_
  refine x_iadd d250_323 (by unfold zr; omega) ?_
  refine x_sald d250_324 hs (by omega) (by omega) ?_
  rw [hJ]
  refine x_aload_n d250_325 rfl ?_
  refine x_iload_n d250_326 rfl ?_
  refine x_iconst d250_327 rfl ?_
  refine x_iadd d250_328 (by unfold zr; omega) ?_
  refine x_sald d250_329 hs (by omega) (by omega) ?_
  rw [hJ]
  refine x_aload_n d250_330 rfl ?_
  refine x_iload_n d250_331 rfl ?_
  refine x_iconst d250_332 rfl ?_
  refine x_iadd d250_333 (by unfold zr; omega) ?_
  refine x_sald d250_334 hs (by omega) (by omega) ?_
  rw [hJ]
  refine x_aload_n d250_335 rfl ?_
  refine x_iload_n d250_336 rfl ?_
  refine x_iconst d250_337 rfl ?_
  refine x_iadd d250_338 (by unfold zr; omega) ?_
  refine x_sald d250_339 hs (by omega) (by omega) ?_
  rw [hJ]
  refine y_invI (as := [.inl (I zSc (i + 1).toNat), .inl (I zSc (i + 2).toNat), .inl (I zSc (i + 3).toNat), .inl (I zSc (i + 4).toNat), .inl (I zSc (i + 5).toNat)]) (t := [.inl v]) (o := 137) gY_153 d250_340 gY_250.2.2.2 gM_13_31 rfl (sh_137 hW2) rfl hm (fun v2 K hk => ?_)
  obtain ⟨hv, hr2, hK⟩ := hk
  exact x_if2 (pc2 := 1062) d250_343 rfl (fun _ => k K R2 hW2 hN2 hr2 hK) (fun c => absurd hv.symm c)
set_option maxHeartbeats 4000000 in
theorem b_L_4 (hW : Wf sh R) (hN : rNo R) (hr : Rel t I R) (ht : t < 100000) (hs : sh zSc = (3, L)) (hi : 0 ≤ i ∧ i + 6 ≤ (L : Int) ∧ L ≤ 3072) (k : lNext bc bs n sh I t i Q) : Ex 1000 250 348 [some (.inr zSc), some (.inr 1), some (.inr 137), some (.inl i)] [] (bc, bs, n, sh, R, I) Q := by
  refine x_aload_n d250_348 rfl ?_
  refine x_aload_n d250_349 rfl ?_
  refine x_iload_n d250_350 rfl ?_
  refine x_iconst d250_351 rfl ?_
  refine x_iadd d250_352 (by unfold zr; omega) ?_
  refine x_sald d250_353 hs (by omega) (by omega) ?_
  refine y_invR (as := [.inl (I zSc (i + 1).toNat)]) (t := []) (o := 1) gY_100 d250_354 gY_250.2.2.2 gM_13_32 rfl (sh_1 hW) rfl (r_law t R I ht hW hN hr) (fun v J R2 hW2 hk => ?_)
  obtain ⟨_, hN2, hJ, hm⟩ := hk
  refine x_aload_n d250_357 rfl ?_
  refine x_aload_n d250_358 rfl ?_
  refine x_iload_n d250_359 rfl ?_
  refine x_iconst d250_360 rfl ?_
  refine x_iadd d250_361 (by unfold zr; omega) ?_
  refine x_sald d250_362 hs (by omega) (by omega) ?_
  rw [hJ]
  refine y_invI (as := [.inl (I zSc (i + 1).toNat)]) (t := [.inl v]) (o := 137) gY_174 d250_363 gY_250.2.2.2 gM_13_36 rfl (sh_137 hW2) rfl hm (fun v2 K hk => ?_)
  obtain ⟨hv, hr2, hK⟩ := hk
  exact x_if2 (pc2 := 1062) d250_366 rfl (fun _ => k K R2 hW2 hN2 hr2 hK) (fun c => absurd hv.symm c)
set_option maxHeartbeats 4000000 in
theorem b_L_5 (hW : Wf sh R) (hN : rNo R) (hr : Rel t I R) (ht : t < 100000) (hs : sh zSc = (3, L)) (hi : 0 ≤ i ∧ i + 6 ≤ (L : Int) ∧ L ≤ 3072) (k : lNext bc bs n sh I t i Q) : Ex 1000 250 371 [some (.inr zSc), some (.inr 1), some (.inr 137), some (.inl i)] [] (bc, bs, n, sh, R, I) Q := by
  refine x_aload_n d250_371 rfl ?_
  refine x_aload_n d250_372 rfl ?_
  refine x_iload_n d250_373 rfl ?_
  refine x_iconst d250_374 rfl ?_
  refine x_iadd d250_375 (by unfold zr; omega) ?_
  refine x_sald d250_376 hs (by omega) (by omega) ?_
  refine y_invR (as := [.inl (I zSc (i + 1).toNat)]) (t := []) (o := 1) gY_101 d250_377 gY_250.2.2.2 gM_13_37 rfl (sh_1 hW) rfl (r_order t R I ht hW hN hr) (fun v J R2 hW2 hk => ?_)
  obtain ⟨_, hN2, hJ, hm⟩ := hk
  refine x_aload_n d250_380 rfl ?_
  refine x_aload_n d250_381 rfl ?_
  refine x_iload_n d250_382 rfl ?_
  refine x_iconst d250_383 rfl ?_
  refine x_iadd d250_384 (by unfold zr; omega) ?_
  refine x_sald d250_385 hs (by omega) (by omega) ?_
  rw [hJ]
  refine y_invI (as := [.inl (I zSc (i + 1).toNat)]) (t := [.inl v]) (o := 137) gY_192 d250_386 gY_250.2.2.2 gM_13_41 rfl (sh_137 hW2) rfl hm (fun v2 K hk => ?_)
  obtain ⟨hv, hr2, hK⟩ := hk
  exact x_if2 (pc2 := 1062) d250_389 rfl (fun _ => k K R2 hW2 hN2 hr2 hK) (fun c => absurd hv.symm c)
set_option maxHeartbeats 4000000 in
theorem b_L_6 (hW : Wf sh R) (hN : rNo R) (hr : Rel t I R) (ht : t < 100000) (hs : sh zSc = (3, L)) (hi : 0 ≤ i ∧ i + 6 ≤ (L : Int) ∧ L ≤ 3072) (k : lNext bc bs n sh I t i Q) : Ex 1000 250 394 [some (.inr zSc), some (.inr 1), some (.inr 137), some (.inl i)] [] (bc, bs, n, sh, R, I) Q := by
  refine x_aload_n d250_394 rfl ?_
  refine x_aload_n d250_395 rfl ?_
  refine x_iload_n d250_396 rfl ?_
  refine x_iconst d250_397 rfl ?_
  refine x_iadd d250_398 (by unfold zr; omega) ?_
  refine x_sald d250_399 hs (by omega) (by omega) ?_
  refine x_aload_n d250_400 rfl ?_
  refine x_iload_n d250_401 rfl ?_
  refine x_iconst d250_402 rfl ?_
  refine x_iadd d250_403 (by unfold zr; omega) ?_
  refine x_sald d250_404 hs (by omega) (by omega) ?_
  refine y_invR (as := [.inl (I zSc (i + 1).toNat), .inl (I zSc (i + 2).toNat)]) (t := []) (o := 1) gY_102 d250_405 gY_250.2.2.2 gM_13_42 rfl (sh_1 hW) rfl (r_letterIs t R I ht hW hN hr) (fun v J R2 hW2 hk => ?_)
  obtain ⟨_, hN2, hJ, hm⟩ := hk
  refine x_aload_n d250_408 rfl ?_
  refine x_aload_n d250_409 rfl ?_
  refine x_iload_n d250_410 rfl ?_
  refine x_iconst d250_411 rfl ?_
  refine x_iadd d250_412 (by unfold zr; omega) ?_
  refine x_sald d250_413 hs (by omega) (by omega) ?_
  rw [hJ]
  refine x_aload_n d250_414 rfl ?_
  refine x_iload_n d250_415 rfl ?_
  refine x_iconst d250_416 rfl ?_
  refine x_iadd d250_417 (by unfold zr; omega) ?_
  refine x_sald d250_418 hs (by omega) (by omega) ?_
  rw [hJ]
  refine y_invI (as := [.inl (I zSc (i + 1).toNat), .inl (I zSc (i + 2).toNat)]) (t := [.inl v]) (o := 137) gY_193 d250_419 gY_250.2.2.2 gM_13_46 rfl (sh_137 hW2) rfl hm (fun v2 K hk => ?_)
  obtain ⟨hv, hr2, hK⟩ := hk
  exact x_if2 (pc2 := 1062) d250_422 rfl (fun _ => k K R2 hW2 hN2 hr2 hK) (fun c => absurd hv.symm c)
set_option maxHeartbeats 4000000 in
theorem b_L_7 (hW : Wf sh R) (hN : rNo R) (hr : Rel t I R) (ht : t < 100000) (hs : sh zSc = (3, L)) (hi : 0 ≤ i ∧ i + 6 ≤ (L : Int) ∧ L ≤ 3072) (k : lNext bc bs n sh I t i Q) : Ex 1000 250 427 [some (.inr zSc), some (.inr 1), some (.inr 137), some (.inl i)] [] (bc, bs, n, sh, R, I) Q := by
  refine x_aload_n d250_427 rfl ?_
  refine x_aload_n d250_428 rfl ?_
  refine x_iload_n d250_429 rfl ?_
  refine x_iconst d250_430 rfl ?_
  refine x_iadd d250_431 (by unfold zr; omega) ?_
  refine x_sald d250_432 hs (by omega) (by omega) ?_
  refine y_invR (as := [.inl (I zSc (i + 1).toNat)]) (t := []) (o := 1) gY_103 d250_433 gY_250.2.2.2 gM_13_47 rfl (sh_1 hW) rfl (r_at t R I ht hW hN hr) (fun v J R2 hW2 hk => ?_)
  obtain ⟨_, hN2, hJ, hm⟩ := hk
  refine x_aload_n d250_436 rfl ?_
  refine x_aload_n d250_437 rfl ?_
  refine x_iload_n d250_438 rfl ?_
  refine x_iconst d250_439 rfl ?_
  refine x_iadd d250_440 (by unfold zr; omega) ?_
  refine x_sald d250_441 hs (by omega) (by omega) ?_
  rw [hJ]
  refine y_invI (as := [.inl (I zSc (i + 1).toNat)]) (t := [.inl v]) (o := 137) gY_194 d250_442 gY_250.2.2.2 gM_13_50 rfl (sh_137 hW2) rfl hm (fun v2 K hk => ?_)
  obtain ⟨hv, hr2, hK⟩ := hk
  exact x_if2 (pc2 := 1062) d250_445 rfl (fun _ => k K R2 hW2 hN2 hr2 hK) (fun c => absurd hv.symm c)
set_option maxHeartbeats 4000000 in
theorem b_L_8 (hW : Wf sh R) (hN : rNo R) (hr : Rel t I R) (ht : t < 100000) (hs : sh zSc = (3, L)) (hi : 0 ≤ i ∧ i + 6 ≤ (L : Int) ∧ L ≤ 3072) (k : lNext bc bs n sh I t i Q) : Ex 1000 250 450 [some (.inr zSc), some (.inr 1), some (.inr 137), some (.inl i)] [] (bc, bs, n, sh, R, I) Q := by
  refine x_aload_n d250_450 rfl ?_
  refine x_aload_n d250_451 rfl ?_
  refine x_iload_n d250_452 rfl ?_
  refine x_iconst d250_453 rfl ?_
  refine x_iadd d250_454 (by unfold zr; omega) ?_
  refine x_sald d250_455 hs (by omega) (by omega) ?_
  refine y_invR (as := [.inl (I zSc (i + 1).toNat)]) (t := []) (o := 1) gY_104 d250_456 gY_250.2.2.2 gM_13_51 rfl (sh_1 hW) rfl (r_goes t R I ht hW hN hr) (fun v J R2 hW2 hk => ?_)
  obtain ⟨_, hN2, hJ, hm⟩ := hk
  refine x_aload_n d250_459 rfl ?_
  refine x_aload_n d250_460 rfl ?_
  refine x_iload_n d250_461 rfl ?_
  refine x_iconst d250_462 rfl ?_
  refine x_iadd d250_463 (by unfold zr; omega) ?_
  refine x_sald d250_464 hs (by omega) (by omega) ?_
  rw [hJ]
  refine y_invI (as := [.inl (I zSc (i + 1).toNat)]) (t := [.inl v]) (o := 137) gY_195 d250_465 gY_250.2.2.2 gM_13_54 rfl (sh_137 hW2) rfl hm (fun v2 K hk => ?_)
  obtain ⟨hv, hr2, hK⟩ := hk
  exact x_if2 (pc2 := 1062) d250_468 rfl (fun _ => k K R2 hW2 hN2 hr2 hK) (fun c => absurd hv.symm c)
set_option maxHeartbeats 4000000 in
theorem b_L_9 (hW : Wf sh R) (hN : rNo R) (hr : Rel t I R) (ht : t < 100000) (hs : sh zSc = (3, L)) (hi : 0 ≤ i ∧ i + 6 ≤ (L : Int) ∧ L ≤ 3072) (k : lNext bc bs n sh I t i Q) : Ex 1000 250 473 [some (.inr zSc), some (.inr 1), some (.inr 137), some (.inl i)] [] (bc, bs, n, sh, R, I) Q := by
  refine x_aload_n d250_473 rfl ?_
  refine x_aload_n d250_474 rfl ?_
  refine x_iload_n d250_475 rfl ?_
  refine x_iconst d250_476 rfl ?_
  refine x_iadd d250_477 (by unfold zr; omega) ?_
  refine x_sald d250_478 hs (by omega) (by omega) ?_
  refine x_aload_n d250_479 rfl ?_
  refine x_iload_n d250_480 rfl ?_
  refine x_iconst d250_481 rfl ?_
  refine x_iadd d250_482 (by unfold zr; omega) ?_
  refine x_sald d250_483 hs (by omega) (by omega) ?_
  refine y_invR (as := [.inl (I zSc (i + 1).toNat), .inl (I zSc (i + 2).toNat)]) (t := []) (o := 1) gY_105 d250_484 gY_250.2.2.2 gM_13_55 rfl (sh_1 hW) rfl (r_tried t R I ht hW hN hr) (fun v J R2 hW2 hk => ?_)
  obtain ⟨_, hN2, hJ, hm⟩ := hk
  refine x_aload_n d250_487 rfl ?_
  refine x_aload_n d250_488 rfl ?_
  refine x_iload_n d250_489 rfl ?_
  refine x_iconst d250_490 rfl ?_
  refine x_iadd d250_491 (by unfold zr; omega) ?_
  refine x_sald d250_492 hs (by omega) (by omega) ?_
  rw [hJ]
  refine x_aload_n d250_493 rfl ?_
  refine x_iload_n d250_494 rfl ?_
  refine x_iconst d250_495 rfl ?_
  refine x_iadd d250_496 (by unfold zr; omega) ?_
  refine x_sald d250_497 hs (by omega) (by omega) ?_
  rw [hJ]
  refine y_invI (as := [.inl (I zSc (i + 1).toNat), .inl (I zSc (i + 2).toNat)]) (t := [.inl v]) (o := 137) gY_198 d250_498 gY_250.2.2.2 gM_13_58 rfl (sh_137 hW2) rfl hm (fun v2 K hk => ?_)
  obtain ⟨hv, hr2, hK⟩ := hk
  exact x_if2 (pc2 := 1062) d250_501 rfl (fun _ => k K R2 hW2 hN2 hr2 hK) (fun c => absurd hv.symm c)
set_option maxHeartbeats 4000000 in
theorem b_L_10 (hW : Wf sh R) (hN : rNo R) (hr : Rel t I R) (ht : t < 100000) (hs : sh zSc = (3, L)) (hi : 0 ≤ i ∧ i + 6 ≤ (L : Int) ∧ L ≤ 3072) (k : lNext bc bs n sh I t i Q) : Ex 1000 250 506 [some (.inr zSc), some (.inr 1), some (.inr 137), some (.inl i)] [] (bc, bs, n, sh, R, I) Q := by
  refine x_aload_n d250_506 rfl ?_
  refine y_invR (as := []) (t := []) (o := 1) gY_106 d250_507 gY_250.2.2.2 gM_13_59 rfl (sh_1 hW) rfl (r_out t R I ht hW hN hr) (fun v J R2 hW2 hk => ?_)
  obtain ⟨_, hN2, hJ, hm⟩ := hk
  refine x_aload_n d250_510 rfl ?_
  refine y_invI (as := []) (t := [.inl v]) (o := 137) gY_197 d250_511 gY_250.2.2.2 gM_13_63 rfl (sh_137 hW2) rfl hm (fun v2 K hk => ?_)
  obtain ⟨hv, hr2, hK⟩ := hk
  exact x_if2 (pc2 := 1062) d250_514 rfl (fun _ => k K R2 hW2 hN2 hr2 hK) (fun c => absurd hv.symm c)
set_option maxHeartbeats 4000000 in
theorem b_L_11 (hW : Wf sh R) (hN : rNo R) (hr : Rel t I R) (ht : t < 100000) (hs : sh zSc = (3, L)) (hi : 0 ≤ i ∧ i + 6 ≤ (L : Int) ∧ L ≤ 3072) (k : lNext bc bs n sh I t i Q) : Ex 1000 250 519 [some (.inr zSc), some (.inr 1), some (.inr 137), some (.inl i)] [] (bc, bs, n, sh, R, I) Q := by
  refine x_aload_n d250_519 rfl ?_
  refine x_aload_n d250_520 rfl ?_
  refine x_iload_n d250_521 rfl ?_
  refine x_iconst d250_522 rfl ?_
  refine x_iadd d250_523 (by unfold zr; omega) ?_
  refine x_sald d250_524 hs (by omega) (by omega) ?_
  refine x_aload_n d250_525 rfl ?_
  refine x_iload_n d250_526 rfl ?_
  refine x_iconst d250_527 rfl ?_
  refine x_iadd d250_528 (by unfold zr; omega) ?_
  refine x_sald d250_529 hs (by omega) (by omega) ?_
  refine y_invR (as := [.inl (I zSc (i + 1).toNat), .inl (I zSc (i + 2).toNat)]) (t := []) (o := 1) gY_107 d250_530 gY_250.2.2.2 gM_13_64 rfl (sh_1 hW) rfl (r_forAny t R I ht hW hN hr) (fun v J R2 hW2 hk => ?_)
  obtain ⟨_, hN2, hJ, hm⟩ := hk
  refine x_aload_n d250_533 rfl ?_
  refine x_aload_n d250_534 rfl ?_
  refine x_iload_n d250_535 rfl ?_
  refine x_iconst d250_536 rfl ?_
  refine x_iadd d250_537 (by unfold zr; omega) ?_
  refine x_sald d250_538 hs (by omega) (by omega) ?_
  rw [hJ]
  refine x_aload_n d250_539 rfl ?_
  refine x_iload_n d250_540 rfl ?_
  refine x_iconst d250_541 rfl ?_
  refine x_iadd d250_542 (by unfold zr; omega) ?_
  refine x_sald d250_543 hs (by omega) (by omega) ?_
  rw [hJ]
  refine y_invI (as := [.inl (I zSc (i + 1).toNat), .inl (I zSc (i + 2).toNat)]) (t := [.inl v]) (o := 137) gY_199 d250_544 gY_250.2.2.2 gM_13_67 rfl (sh_137 hW2) rfl hm (fun v2 K hk => ?_)
  obtain ⟨hv, hr2, hK⟩ := hk
  exact x_if2 (pc2 := 1062) d250_547 rfl (fun _ => k K R2 hW2 hN2 hr2 hK) (fun c => absurd hv.symm c)
set_option maxHeartbeats 4000000 in
theorem b_L_12 (hW : Wf sh R) (hN : rNo R) (hr : Rel t I R) (ht : t < 100000) (hs : sh zSc = (3, L)) (hi : 0 ≤ i ∧ i + 6 ≤ (L : Int) ∧ L ≤ 3072) (k : lNext bc bs n sh I t i Q) : Ex 1000 250 552 [some (.inr zSc), some (.inr 1), some (.inr 137), some (.inl i)] [] (bc, bs, n, sh, R, I) Q := by
  refine x_aload_n d250_552 rfl ?_
  refine x_aload_n d250_553 rfl ?_
  refine x_iload_n d250_554 rfl ?_
  refine x_iconst d250_555 rfl ?_
  refine x_iadd d250_556 (by unfold zr; omega) ?_
  refine x_sald d250_557 hs (by omega) (by omega) ?_
  refine y_invR (as := [.inl (I zSc (i + 1).toNat)]) (t := []) (o := 1) gY_108 d250_558 gY_250.2.2.2 gM_13_68 rfl (sh_1 hW) rfl (r_runs t R I ht hW hN hr) (fun v J R2 hW2 hk => ?_)
  obtain ⟨_, hN2, hJ, hm⟩ := hk
  refine x_aload_n d250_561 rfl ?_
  refine x_aload_n d250_562 rfl ?_
  refine x_iload_n d250_563 rfl ?_
  refine x_iconst d250_564 rfl ?_
  refine x_iadd d250_565 (by unfold zr; omega) ?_
  refine x_sald d250_566 hs (by omega) (by omega) ?_
  rw [hJ]
  refine y_invI (as := [.inl (I zSc (i + 1).toNat)]) (t := [.inl v]) (o := 137) gY_202 d250_567 gY_250.2.2.2 gM_13_71 rfl (sh_137 hW2) rfl hm (fun v2 K hk => ?_)
  obtain ⟨hv, hr2, hK⟩ := hk
  exact x_if2 (pc2 := 1062) d250_570 rfl (fun _ => k K R2 hW2 hN2 hr2 hK) (fun c => absurd hv.symm c)
set_option maxHeartbeats 4000000 in
theorem b_L_13 (hW : Wf sh R) (hN : rNo R) (hr : Rel t I R) (ht : t < 100000) (hs : sh zSc = (3, L)) (hi : 0 ≤ i ∧ i + 6 ≤ (L : Int) ∧ L ≤ 3072) (k : lNext bc bs n sh I t i Q) : Ex 1000 250 575 [some (.inr zSc), some (.inr 1), some (.inr 137), some (.inl i)] [] (bc, bs, n, sh, R, I) Q := by
  refine x_aload_n d250_575 rfl ?_
  refine y_invR (as := []) (t := []) (o := 1) gY_109 d250_576 gY_250.2.2.2 gM_13_72 rfl (sh_1 hW) rfl (r_plan t R I ht hW hN hr) (fun v J R2 hW2 hk => ?_)
  obtain ⟨_, hN2, hJ, hm⟩ := hk
  refine x_aload_n d250_579 rfl ?_
  refine y_invI (as := []) (t := [.inl v]) (o := 137) gY_206 d250_580 gY_250.2.2.2 gM_13_75 rfl (sh_137 hW2) rfl hm (fun v2 K hk => ?_)
  obtain ⟨hv, hr2, hK⟩ := hk
  exact x_if2 (pc2 := 1062) d250_583 rfl (fun _ => k K R2 hW2 hN2 hr2 hK) (fun c => absurd hv.symm c)
set_option maxHeartbeats 4000000 in
theorem b_L_14 (hW : Wf sh R) (hN : rNo R) (hr : Rel t I R) (ht : t < 100000) (hs : sh zSc = (3, L)) (hi : 0 ≤ i ∧ i + 6 ≤ (L : Int) ∧ L ≤ 3072) (k : lNext bc bs n sh I t i Q) : Ex 1000 250 588 [some (.inr zSc), some (.inr 1), some (.inr 137), some (.inl i)] [] (bc, bs, n, sh, R, I) Q := by
  refine x_aload_n d250_588 rfl ?_
  refine x_aload_n d250_589 rfl ?_
  refine x_iload_n d250_590 rfl ?_
  refine x_iconst d250_591 rfl ?_
  refine x_iadd d250_592 (by unfold zr; omega) ?_
  refine x_sald d250_593 hs (by omega) (by omega) ?_
  refine x_aload_n d250_594 rfl ?_
  refine x_iload_n d250_595 rfl ?_
  refine x_iconst d250_596 rfl ?_
  refine x_iadd d250_597 (by unfold zr; omega) ?_
  refine x_sald d250_598 hs (by omega) (by omega) ?_
  refine y_invR (as := [.inl (I zSc (i + 1).toNat), .inl (I zSc (i + 2).toNat)]) (t := []) (o := 1) gY_110 d250_599 gY_250.2.2.2 gM_13_76 rfl (sh_1 hW) rfl (r_planned t R I ht hW hN hr) (fun v J R2 hW2 hk => ?_)
  obtain ⟨_, hN2, hJ, hm⟩ := hk
  refine x_aload_n d250_602 rfl ?_
  refine x_aload_n d250_603 rfl ?_
  refine x_iload_n d250_604 rfl ?_
  refine x_iconst d250_605 rfl ?_
  refine x_iadd d250_606 (by unfold zr; omega) ?_
  refine x_sald d250_607 hs (by omega) (by omega) ?_
  rw [hJ]
  refine x_aload_n d250_608 rfl ?_
  refine x_iload_n d250_609 rfl ?_
  refine x_iconst d250_610 rfl ?_
  refine x_iadd d250_611 (by unfold zr; omega) ?_
  refine x_sald d250_612 hs (by omega) (by omega) ?_
  rw [hJ]
  refine y_invI (as := [.inl (I zSc (i + 1).toNat), .inl (I zSc (i + 2).toNat)]) (t := [.inl v]) (o := 137) gY_208 d250_613 gY_250.2.2.2 gM_13_79 rfl (sh_137 hW2) rfl hm (fun v2 K hk => ?_)
  obtain ⟨hv, hr2, hK⟩ := hk
  exact x_if2 (pc2 := 1062) d250_616 rfl (fun _ => k K R2 hW2 hN2 hr2 hK) (fun c => absurd hv.symm c)
set_option maxHeartbeats 4000000 in
theorem b_L_15 (hW : Wf sh R) (hN : rNo R) (hr : Rel t I R) (ht : t < 100000) (hs : sh zSc = (3, L)) (hi : 0 ≤ i ∧ i + 6 ≤ (L : Int) ∧ L ≤ 3072) (k : lNext bc bs n sh I t i Q) : Ex 1000 250 621 [some (.inr zSc), some (.inr 1), some (.inr 137), some (.inl i)] [] (bc, bs, n, sh, R, I) Q := by
  refine x_aload_n d250_621 rfl ?_
  refine y_invR (as := []) (t := []) (o := 1) gY_111 d250_622 gY_250.2.2.2 gM_13_80 rfl (sh_1 hW) rfl (r_planDone t R I ht hW hN hr) (fun v J R2 hW2 hk => ?_)
  obtain ⟨_, hN2, hJ, hm⟩ := hk
  refine x_aload_n d250_625 rfl ?_
  refine y_invI (as := []) (t := [.inl v]) (o := 137) gY_209 d250_626 gY_250.2.2.2 gM_13_83 rfl (sh_137 hW2) rfl hm (fun v2 K hk => ?_)
  obtain ⟨hv, hr2, hK⟩ := hk
  exact x_if2 (pc2 := 1062) d250_629 rfl (fun _ => k K R2 hW2 hN2 hr2 hK) (fun c => absurd hv.symm c)
set_option maxHeartbeats 4000000 in
theorem b_L_16 (hW : Wf sh R) (hN : rNo R) (hr : Rel t I R) (ht : t < 100000) (hs : sh zSc = (3, L)) (hi : 0 ≤ i ∧ i + 6 ≤ (L : Int) ∧ L ≤ 3072) (k : lNext bc bs n sh I t i Q) : Ex 1000 250 634 [some (.inr zSc), some (.inr 1), some (.inr 137), some (.inl i)] [] (bc, bs, n, sh, R, I) Q := by
  refine x_aload_n d250_634 rfl ?_
  refine x_aload_n d250_635 rfl ?_
  refine x_iload_n d250_636 rfl ?_
  refine x_iconst d250_637 rfl ?_
  refine x_iadd d250_638 (by unfold zr; omega) ?_
  refine x_sald d250_639 hs (by omega) (by omega) ?_
  refine x_aload_n d250_640 rfl ?_
  refine x_iload_n d250_641 rfl ?_
  refine x_iconst d250_642 rfl ?_
  refine x_iadd d250_643 (by unfold zr; omega) ?_
  refine x_sald d250_644 hs (by omega) (by omega) ?_
  refine x_aload_n d250_645 rfl ?_
  refine x_iload_n d250_646 rfl ?_
  refine x_iconst d250_647 rfl ?_
  refine x_iadd d250_648 (by unfold zr; omega) ?_
  refine x_sald d250_649 hs (by omega) (by omega) ?_
  refine y_invR (as := [.inl (I zSc (i + 1).toNat), .inl (I zSc (i + 2).toNat), .inl (I zSc (i + 3).toNat)]) (t := []) (o := 1) gY_112 d250_650 gY_250.2.2.2 gM_13_84 rfl (sh_1 hW) rfl (r_tables t R I ht hW hN hr) (fun v J R2 hW2 hk => ?_)
  obtain ⟨_, hN2, hJ, hm⟩ := hk
  refine x_aload_n d250_653 rfl ?_
  refine x_aload_n d250_654 rfl ?_
  refine x_iload_n d250_655 rfl ?_
  refine x_iconst d250_656 rfl ?_
  refine x_iadd d250_657 (by unfold zr; omega) ?_
  refine x_sald d250_658 hs (by omega) (by omega) ?_
  rw [hJ]
  refine x_aload_n d250_659 rfl ?_
  refine x_iload_n d250_660 rfl ?_
  refine x_iconst d250_661 rfl ?_
  refine x_iadd d250_662 (by unfold zr; omega) ?_
  refine x_sald d250_663 hs (by omega) (by omega) ?_
  rw [hJ]
  refine x_aload_n d250_664 rfl ?_
  refine x_iload_n d250_665 rfl ?_
  refine x_iconst d250_666 rfl ?_
  refine x_iadd d250_667 (by unfold zr; omega) ?_
  refine x_sald d250_668 hs (by omega) (by omega) ?_
  rw [hJ]
  refine y_invI (as := [.inl (I zSc (i + 1).toNat), .inl (I zSc (i + 2).toNat), .inl (I zSc (i + 3).toNat)]) (t := [.inl v]) (o := 137) gY_218 d250_669 gY_250.2.2.2 gM_13_87 rfl (sh_137 hW2) rfl hm (fun v2 K hk => ?_)
  obtain ⟨hv, hr2, hK⟩ := hk
  exact x_if2 (pc2 := 1062) d250_672 rfl (fun _ => k K R2 hW2 hN2 hr2 hK) (fun c => absurd hv.symm c)
set_option maxHeartbeats 4000000 in
theorem b_L_17 (hW : Wf sh R) (hN : rNo R) (hr : Rel t I R) (ht : t < 100000) (hs : sh zSc = (3, L)) (hi : 0 ≤ i ∧ i + 6 ≤ (L : Int) ∧ L ≤ 3072) (k : lNext bc bs n sh I t i Q) : Ex 1000 250 677 [some (.inr zSc), some (.inr 1), some (.inr 137), some (.inl i)] [] (bc, bs, n, sh, R, I) Q := by
  refine x_aload_n d250_677 rfl ?_
  refine x_aload_n d250_678 rfl ?_
  refine x_iload_n d250_679 rfl ?_
  refine x_iconst d250_680 rfl ?_
  refine x_iadd d250_681 (by unfold zr; omega) ?_
  refine x_sald d250_682 hs (by omega) (by omega) ?_
  refine x_aload_n d250_683 rfl ?_
  refine x_iload_n d250_684 rfl ?_
  refine x_iconst d250_685 rfl ?_
  refine x_iadd d250_686 (by unfold zr; omega) ?_
  refine x_sald d250_687 hs (by omega) (by omega) ?_
  refine x_aload_n d250_688 rfl ?_
  refine x_iload_n d250_689 rfl ?_
  refine x_iconst d250_690 rfl ?_
  refine x_iadd d250_691 (by unfold zr; omega) ?_
  refine x_sald d250_692 hs (by omega) (by omega) ?_
  refine x_aload_n d250_693 rfl ?_
  refine x_iload_n d250_694 rfl ?_
  refine x_iconst d250_695 rfl ?_
  refine x_iadd d250_696 (by unfold zr; omega) ?_
  refine x_sald d250_697 hs (by omega) (by omega) ?_
  refine y_invR (as := [.inl (I zSc (i + 1).toNat), .inl (I zSc (i + 2).toNat), .inl (I zSc (i + 3).toNat), .inl (I zSc (i + 4).toNat)]) (t := []) (o := 1) gY_113 d250_698 gY_250.2.2.2 gM_13_88 rfl (sh_1 hW) rfl (r_table t R I ht hW hN hr) (fun v J R2 hW2 hk => ?_)
  obtain ⟨_, hN2, hJ, hm⟩ := hk
  refine x_aload_n d250_701 rfl ?_
  refine x_aload_n d250_702 rfl ?_
  refine x_iload_n d250_703 rfl ?_
  refine x_iconst d250_704 rfl ?_
  refine x_iadd d250_705 (by unfold zr; omega) ?_
  refine x_sald d250_706 hs (by omega) (by omega) ?_
  rw [hJ]
  refine x_aload_n d250_707 rfl ?_
  refine x_iload_n d250_708 rfl ?_
  refine x_iconst d250_709 rfl ?_
  refine x_iadd d250_710 (by unfold zr; omega) ?_
  refine x_sald d250_711 hs (by omega) (by omega) ?_
  rw [hJ]
  refine x_aload_n d250_712 rfl ?_
  refine x_iload_n d250_713 rfl ?_
  refine x_iconst d250_714 rfl ?_
  refine x_iadd d250_715 (by unfold zr; omega) ?_
  refine x_sald d250_716 hs (by omega) (by omega) ?_
  rw [hJ]
  refine x_aload_n d250_717 rfl ?_
  refine x_iload_n d250_718 rfl ?_
  refine x_iconst d250_719 rfl ?_
  refine x_iadd d250_720 (by unfold zr; omega) ?_
  refine x_sald d250_721 hs (by omega) (by omega) ?_
  rw [hJ]
  refine y_invI (as := [.inl (I zSc (i + 1).toNat), .inl (I zSc (i + 2).toNat), .inl (I zSc (i + 3).toNat), .inl (I zSc (i + 4).toNat)]) (t := [.inl v]) (o := 137) gY_219 d250_722 gY_250.2.2.2 gM_13_92 rfl (sh_137 hW2) rfl hm (fun v2 K hk => ?_)
  obtain ⟨hv, hr2, hK⟩ := hk
  exact x_if2 (pc2 := 1062) d250_725 rfl (fun _ => k K R2 hW2 hN2 hr2 hK) (fun c => absurd hv.symm c)
set_option maxHeartbeats 4000000 in
theorem b_L_18 (hW : Wf sh R) (hN : rNo R) (hr : Rel t I R) (ht : t < 100000) (hs : sh zSc = (3, L)) (hi : 0 ≤ i ∧ i + 6 ≤ (L : Int) ∧ L ≤ 3072) (k : lNext bc bs n sh I t i Q) : Ex 1000 250 730 [some (.inr zSc), some (.inr 1), some (.inr 137), some (.inl i)] [] (bc, bs, n, sh, R, I) Q := by
  refine x_aload_n d250_730 rfl ?_
  refine y_invR (as := []) (t := []) (o := 1) gY_114 d250_731 gY_250.2.2.2 gM_13_93 rfl (sh_1 hW) rfl (r_yardQueues t R I ht hW hN hr) (fun v J R2 hW2 hk => ?_)
  obtain ⟨_, hN2, hJ, hm⟩ := hk
  refine x_aload_n d250_734 rfl ?_
  refine y_invI (as := []) (t := [.inl v]) (o := 137) gY_221 d250_735 gY_250.2.2.2 gM_13_96 rfl (sh_137 hW2) rfl hm (fun v2 K hk => ?_)
  obtain ⟨hv, hr2, hK⟩ := hk
  exact x_if2 (pc2 := 1062) d250_738 rfl (fun _ => k K R2 hW2 hN2 hr2 hK) (fun c => absurd hv.symm c)
set_option maxHeartbeats 4000000 in
theorem b_L_19 (hW : Wf sh R) (hN : rNo R) (hr : Rel t I R) (ht : t < 100000) (hs : sh zSc = (3, L)) (hi : 0 ≤ i ∧ i + 6 ≤ (L : Int) ∧ L ≤ 3072) (k : lNext bc bs n sh I t i Q) : Ex 1000 250 743 [some (.inr zSc), some (.inr 1), some (.inr 137), some (.inl i)] [] (bc, bs, n, sh, R, I) Q := by
  refine x_aload_n d250_743 rfl ?_
  refine y_invR (as := []) (t := []) (o := 1) gY_115 d250_744 gY_250.2.2.2 gM_13_97 rfl (sh_1 hW) rfl (r_yardPipes t R I ht hW hN hr) (fun v J R2 hW2 hk => ?_)
  obtain ⟨_, hN2, hJ, hm⟩ := hk
  refine x_aload_n d250_747 rfl ?_
  refine y_invI (as := []) (t := [.inl v]) (o := 137) gY_222 d250_748 gY_250.2.2.2 gM_13_100 rfl (sh_137 hW2) rfl hm (fun v2 K hk => ?_)
  obtain ⟨hv, hr2, hK⟩ := hk
  exact x_if2 (pc2 := 1062) d250_751 rfl (fun _ => k K R2 hW2 hN2 hr2 hK) (fun c => absurd hv.symm c)
set_option maxHeartbeats 4000000 in
theorem b_L_20 (hW : Wf sh R) (hN : rNo R) (hr : Rel t I R) (ht : t < 100000) (hs : sh zSc = (3, L)) (hi : 0 ≤ i ∧ i + 6 ≤ (L : Int) ∧ L ≤ 3072) (k : lNext bc bs n sh I t i Q) : Ex 1000 250 756 [some (.inr zSc), some (.inr 1), some (.inr 137), some (.inl i)] [] (bc, bs, n, sh, R, I) Q := by
  refine x_aload_n d250_756 rfl ?_
  refine x_aload_n d250_757 rfl ?_
  refine x_iload_n d250_758 rfl ?_
  refine x_iconst d250_759 rfl ?_
  refine x_iadd d250_760 (by unfold zr; omega) ?_
  refine x_sald d250_761 hs (by omega) (by omega) ?_
  refine x_aload_n d250_762 rfl ?_
  refine x_iload_n d250_763 rfl ?_
  refine x_iconst d250_764 rfl ?_
  refine x_iadd d250_765 (by unfold zr; omega) ?_
  refine x_sald d250_766 hs (by omega) (by omega) ?_
  refine y_invR (as := [.inl (I zSc (i + 1).toNat), .inl (I zSc (i + 2).toNat)]) (t := []) (o := 1) gY_116 d250_767 gY_250.2.2.2 gM_13_101 rfl (sh_1 hW) rfl (r_yard t R I ht hW hN hr) (fun v J R2 hW2 hk => ?_)
  obtain ⟨_, hN2, hJ, hm⟩ := hk
  refine x_aload_n d250_770 rfl ?_
  refine x_aload_n d250_771 rfl ?_
  refine x_iload_n d250_772 rfl ?_
  refine x_iconst d250_773 rfl ?_
  refine x_iadd d250_774 (by unfold zr; omega) ?_
  refine x_sald d250_775 hs (by omega) (by omega) ?_
  rw [hJ]
  refine x_aload_n d250_776 rfl ?_
  refine x_iload_n d250_777 rfl ?_
  refine x_iconst d250_778 rfl ?_
  refine x_iadd d250_779 (by unfold zr; omega) ?_
  refine x_sald d250_780 hs (by omega) (by omega) ?_
  rw [hJ]
  refine y_invI (as := [.inl (I zSc (i + 1).toNat), .inl (I zSc (i + 2).toNat)]) (t := [.inl v]) (o := 137) gY_226 d250_781 gY_250.2.2.2 gM_13_104 rfl (sh_137 hW2) rfl hm (fun v2 K hk => ?_)
  obtain ⟨hv, hr2, hK⟩ := hk
  exact x_if2 (pc2 := 1062) d250_784 rfl (fun _ => k K R2 hW2 hN2 hr2 hK) (fun c => absurd hv.symm c)
set_option maxHeartbeats 4000000 in
theorem b_L_21 (hW : Wf sh R) (hN : rNo R) (hr : Rel t I R) (ht : t < 100000) (hs : sh zSc = (3, L)) (hi : 0 ≤ i ∧ i + 6 ≤ (L : Int) ∧ L ≤ 3072) (k : lNext bc bs n sh I t i Q) : Ex 1000 250 789 [some (.inr zSc), some (.inr 1), some (.inr 137), some (.inl i)] [] (bc, bs, n, sh, R, I) Q := by
  refine x_aload_n d250_789 rfl ?_
  refine x_aload_n d250_790 rfl ?_
  refine x_iload_n d250_791 rfl ?_
  refine x_iconst d250_792 rfl ?_
  refine x_iadd d250_793 (by unfold zr; omega) ?_
  refine x_sald d250_794 hs (by omega) (by omega) ?_
  refine y_invR (as := [.inl (I zSc (i + 1).toNat)]) (t := []) (o := 1) gY_117 d250_795 gY_250.2.2.2 gM_13_105 rfl (sh_1 hW) rfl (r_together t R I ht hW hN hr) (fun v J R2 hW2 hk => ?_)
  obtain ⟨_, hN2, hJ, hm⟩ := hk
  refine x_aload_n d250_798 rfl ?_
  refine x_aload_n d250_799 rfl ?_
  refine x_iload_n d250_800 rfl ?_
  refine x_iconst d250_801 rfl ?_
  refine x_iadd d250_802 (by unfold zr; omega) ?_
  refine x_sald d250_803 hs (by omega) (by omega) ?_
  rw [hJ]
  refine y_invI (as := [.inl (I zSc (i + 1).toNat)]) (t := [.inl v]) (o := 137) gY_231 d250_804 gY_250.2.2.2 gM_13_108 rfl (sh_137 hW2) rfl hm (fun v2 K hk => ?_)
  obtain ⟨hv, hr2, hK⟩ := hk
  exact x_if2 (pc2 := 1062) d250_807 rfl (fun _ => k K R2 hW2 hN2 hr2 hK) (fun c => absurd hv.symm c)
set_option maxHeartbeats 4000000 in
theorem b_L_22 (hW : Wf sh R) (hN : rNo R) (hr : Rel t I R) (ht : t < 100000) (hs : sh zSc = (3, L)) (hi : 0 ≤ i ∧ i + 6 ≤ (L : Int) ∧ L ≤ 3072) (k : lNext bc bs n sh I t i Q) : Ex 1000 250 812 [some (.inr zSc), some (.inr 1), some (.inr 137), some (.inl i)] [] (bc, bs, n, sh, R, I) Q := by
  refine x_aload_n d250_812 rfl ?_
  refine x_aload_n d250_813 rfl ?_
  refine x_iload_n d250_814 rfl ?_
  refine x_iconst d250_815 rfl ?_
  refine x_iadd d250_816 (by unfold zr; omega) ?_
  refine x_sald d250_817 hs (by omega) (by omega) ?_
  refine x_aload_n d250_818 rfl ?_
  refine x_iload_n d250_819 rfl ?_
  refine x_iconst d250_820 rfl ?_
  refine x_iadd d250_821 (by unfold zr; omega) ?_
  refine x_sald d250_822 hs (by omega) (by omega) ?_
  refine x_aload_n d250_823 rfl ?_
  refine x_iload_n d250_824 rfl ?_
  refine x_iconst d250_825 rfl ?_
  refine x_iadd d250_826 (by unfold zr; omega) ?_
  refine x_sald d250_827 hs (by omega) (by omega) ?_
  refine x_aload_n d250_828 rfl ?_
  refine x_iload_n d250_829 rfl ?_
  refine x_iconst d250_830 rfl ?_
  refine x_iadd d250_831 (by unfold zr; omega) ?_
  refine x_sald d250_832 hs (by omega) (by omega) ?_
  refine x_aload_n d250_833 rfl ?_
  refine x_iload_n d250_834 rfl ?_
  refine x_iconst d250_835 rfl ?_
  refine x_iadd d250_836 (by unfold zr; omega) ?_
  refine x_sald d250_837 hs (by omega) (by omega) ?_
  refine y_invR (as := [.inl (I zSc (i + 1).toNat), .inl (I zSc (i + 2).toNat), .inl (I zSc (i + 3).toNat), .inl (I zSc (i + 4).toNat), .inl (I zSc (i + 5).toNat)]) (t := []) (o := 1) gY_118 d250_838 gY_250.2.2.2 gM_13_109 rfl (sh_1 hW) rfl (r_blunder t R I ht hW hN hr) (fun v J R2 hW2 hk => ?_)
  obtain ⟨_, hN2, hJ, hm⟩ := hk
  refine x_aload_n d250_841 rfl ?_
  refine x_aload_n d250_842 rfl ?_
  refine x_iload_n d250_843 rfl ?_
  refine x_iconst d250_844 rfl ?_
  refine x_iadd d250_845 (by unfold zr; omega) ?_
  refine x_sald d250_846 hs (by omega) (by omega) ?_
  rw [hJ]
  refine x_aload_n d250_847 rfl ?_
  refine x_iload_n d250_848 rfl ?_
  refine x_iconst d250_849 rfl ?_
  refine x_iadd d250_850 (by unfold zr; omega) ?_
  refine x_sald d250_851 hs (by omega) (by omega) ?_
  rw [hJ]
  refine x_aload_n d250_852 rfl ?_
  refine x_iload_n d250_853 rfl ?_
  refine x_iconst d250_854 rfl ?_
  refine x_iadd d250_855 (by unfold zr; omega) ?_
  refine x_sald d250_856 hs (by omega) (by omega) ?_
  rw [hJ]
  refine x_aload_n d250_857 rfl ?_
  refine x_iload_n d250_858 rfl ?_
  refine x_iconst d250_859 rfl ?_
  refine x_iadd d250_860 (by unfold zr; omega) ?_
  refine x_sald d250_861 hs (by omega) (by omega) ?_
  rw [hJ]
  refine x_aload_n d250_862 rfl ?_
  refine x_iload_n d250_863 rfl ?_
  refine x_iconst d250_864 rfl ?_
  refine x_iadd d250_865 (by unfold zr; omega) ?_
  refine x_sald d250_866 hs (by omega) (by omega) ?_
  rw [hJ]
  refine y_invI (as := [.inl (I zSc (i + 1).toNat), .inl (I zSc (i + 2).toNat), .inl (I zSc (i + 3).toNat), .inl (I zSc (i + 4).toNat), .inl (I zSc (i + 5).toNat)]) (t := [.inl v]) (o := 137) gY_236 d250_867 gY_250.2.2.2 gM_13_112 rfl (sh_137 hW2) rfl hm (fun v2 K hk => ?_)
  obtain ⟨hv, hr2, hK⟩ := hk
  exact x_if2 (pc2 := 1062) d250_870 rfl (fun _ => k K R2 hW2 hN2 hr2 hK) (fun c => absurd hv.symm c)
set_option maxHeartbeats 4000000 in
theorem b_L_23 (hW : Wf sh R) (hN : rNo R) (hr : Rel t I R) (ht : t < 100000) (hs : sh zSc = (3, L)) (hi : 0 ≤ i ∧ i + 6 ≤ (L : Int) ∧ L ≤ 3072) (k : lNext bc bs n sh I t i Q) : Ex 1000 250 875 [some (.inr zSc), some (.inr 1), some (.inr 137), some (.inl i)] [] (bc, bs, n, sh, R, I) Q := by
  refine x_aload_n d250_875 rfl ?_
  refine x_aload_n d250_876 rfl ?_
  refine x_iload_n d250_877 rfl ?_
  refine x_iconst d250_878 rfl ?_
  refine x_iadd d250_879 (by unfold zr; omega) ?_
  refine x_sald d250_880 hs (by omega) (by omega) ?_
  refine x_aload_n d250_881 rfl ?_
  refine x_iload_n d250_882 rfl ?_
  refine x_iconst d250_883 rfl ?_
  refine x_iadd d250_884 (by unfold zr; omega) ?_
  refine x_sald d250_885 hs (by omega) (by omega) ?_
  refine y_invR (as := [.inl (I zSc (i + 1).toNat), .inl (I zSc (i + 2).toNat)]) (t := []) (o := 1) gY_119 d250_886 gY_250.2.2.2 gM_13_113 rfl (sh_1 hW) rfl (r_badly t R I ht hW hN hr) (fun v J R2 hW2 hk => ?_)
  obtain ⟨_, hN2, hJ, hm⟩ := hk
  refine x_aload_n d250_889 rfl ?_
  refine x_aload_n d250_890 rfl ?_
  refine x_iload_n d250_891 rfl ?_
  refine x_iconst d250_892 rfl ?_
  refine x_iadd d250_893 (by unfold zr; omega) ?_
  refine x_sald d250_894 hs (by omega) (by omega) ?_
  rw [hJ]
  refine x_aload_n d250_895 rfl ?_
  refine x_iload_n d250_896 rfl ?_
  refine x_iconst d250_897 rfl ?_
  refine x_iadd d250_898 (by unfold zr; omega) ?_
  refine x_sald d250_899 hs (by omega) (by omega) ?_
  rw [hJ]
  refine y_invI (as := [.inl (I zSc (i + 1).toNat), .inl (I zSc (i + 2).toNat)]) (t := [.inl v]) (o := 137) gY_238 d250_900 gY_250.2.2.2 gM_13_116 rfl (sh_137 hW2) rfl hm (fun v2 K hk => ?_)
  obtain ⟨hv, hr2, hK⟩ := hk
  exact x_if2 (pc2 := 1062) d250_903 rfl (fun _ => k K R2 hW2 hN2 hr2 hK) (fun c => absurd hv.symm c)
set_option maxHeartbeats 4000000 in
theorem b_L_24 (hW : Wf sh R) (hN : rNo R) (hr : Rel t I R) (ht : t < 100000) (hs : sh zSc = (3, L)) (hi : 0 ≤ i ∧ i + 6 ≤ (L : Int) ∧ L ≤ 3072) (k : lNext bc bs n sh I t i Q) : Ex 1000 250 908 [some (.inr zSc), some (.inr 1), some (.inr 137), some (.inl i)] [] (bc, bs, n, sh, R, I) Q := by
  refine x_aload_n d250_908 rfl ?_
  refine x_aload_n d250_909 rfl ?_
  refine x_iload_n d250_910 rfl ?_
  refine x_iconst d250_911 rfl ?_
  refine x_iadd d250_912 (by unfold zr; omega) ?_
  refine x_sald d250_913 hs (by omega) (by omega) ?_
  refine y_invR (as := [.inl (I zSc (i + 1).toNat)]) (t := []) (o := 1) gY_120 d250_914 gY_250.2.2.2 gM_13_117 rfl (sh_1 hW) rfl (r_clerks t R I ht hW hN hr) (fun v J R2 hW2 hk => ?_)
  obtain ⟨_, hN2, hJ, hm⟩ := hk
  refine x_aload_n d250_917 rfl ?_
  refine x_aload_n d250_918 rfl ?_
  refine x_iload_n d250_919 rfl ?_
  refine x_iconst d250_920 rfl ?_
  refine x_iadd d250_921 (by unfold zr; omega) ?_
  refine x_sald d250_922 hs (by omega) (by omega) ?_
  rw [hJ]
  refine y_invI (as := [.inl (I zSc (i + 1).toNat)]) (t := [.inl v]) (o := 137) gY_239 d250_923 gY_250.2.2.2 gM_13_120 rfl (sh_137 hW2) rfl hm (fun v2 K hk => ?_)
  obtain ⟨hv, hr2, hK⟩ := hk
  exact x_if2 (pc2 := 1062) d250_926 rfl (fun _ => k K R2 hW2 hN2 hr2 hK) (fun c => absurd hv.symm c)
set_option maxHeartbeats 4000000 in
theorem b_L_25 (hW : Wf sh R) (hN : rNo R) (hr : Rel t I R) (ht : t < 100000) (hs : sh zSc = (3, L)) (hi : 0 ≤ i ∧ i + 6 ≤ (L : Int) ∧ L ≤ 3072) (k : lNext bc bs n sh I t i Q) : Ex 1000 250 931 [some (.inr zSc), some (.inr 1), some (.inr 137), some (.inl i)] [] (bc, bs, n, sh, R, I) Q := by
  refine x_aload_n d250_931 rfl ?_
  refine x_aload_n d250_932 rfl ?_
  refine x_iload_n d250_933 rfl ?_
  refine x_iconst d250_934 rfl ?_
  refine x_iadd d250_935 (by unfold zr; omega) ?_
  refine x_sald d250_936 hs (by omega) (by omega) ?_
  refine y_invR (as := [.inl (I zSc (i + 1).toNat)]) (t := []) (o := 1) gY_121 d250_937 gY_250.2.2.2 gM_13_121 rfl (sh_1 hW) rfl (r_wanted t R I ht hW hN hr) (fun v J R2 hW2 hk => ?_)
  obtain ⟨_, hN2, hJ, hm⟩ := hk
  refine x_aload_n d250_940 rfl ?_
  refine x_aload_n d250_941 rfl ?_
  refine x_iload_n d250_942 rfl ?_
  refine x_iconst d250_943 rfl ?_
  refine x_iadd d250_944 (by unfold zr; omega) ?_
  refine x_sald d250_945 hs (by omega) (by omega) ?_
  rw [hJ]
  refine y_invI (as := [.inl (I zSc (i + 1).toNat)]) (t := [.inl v]) (o := 137) gY_240 d250_946 gY_250.2.2.2 gM_13_124 rfl (sh_137 hW2) rfl hm (fun v2 K hk => ?_)
  obtain ⟨hv, hr2, hK⟩ := hk
  exact x_if2 (pc2 := 1062) d250_949 rfl (fun _ => k K R2 hW2 hN2 hr2 hK) (fun c => absurd hv.symm c)
set_option maxHeartbeats 4000000 in
theorem b_L_26 (hW : Wf sh R) (hN : rNo R) (hr : Rel t I R) (ht : t < 100000) (hs : sh zSc = (3, L)) (hi : 0 ≤ i ∧ i + 6 ≤ (L : Int) ∧ L ≤ 3072) (k : lNext bc bs n sh I t i Q) : Ex 1000 250 954 [some (.inr zSc), some (.inr 1), some (.inr 137), some (.inl i)] [] (bc, bs, n, sh, R, I) Q := by
  refine x_aload_n d250_954 rfl ?_
  refine x_aload_n d250_955 rfl ?_
  refine x_iload_n d250_956 rfl ?_
  refine x_iconst d250_957 rfl ?_
  refine x_iadd d250_958 (by unfold zr; omega) ?_
  refine x_sald d250_959 hs (by omega) (by omega) ?_
  refine y_invR (as := [.inl (I zSc (i + 1).toNat)]) (t := []) (o := 1) gY_122 d250_960 gY_250.2.2.2 gM_13_125 rfl (sh_1 hW) rfl (r_seed t R I ht hW hN hr) (fun v J R2 hW2 hk => ?_)
  obtain ⟨_, hN2, hJ, hm⟩ := hk
  refine x_aload_n d250_963 rfl ?_
  refine x_aload_n d250_964 rfl ?_
  refine x_iload_n d250_965 rfl ?_
  refine x_iconst d250_966 rfl ?_
  refine x_iadd d250_967 (by unfold zr; omega) ?_
  refine x_sald d250_968 hs (by omega) (by omega) ?_
  rw [hJ]
  refine y_invI (as := [.inl (I zSc (i + 1).toNat)]) (t := [.inl v]) (o := 137) gY_241 d250_969 gY_250.2.2.2 gM_13_128 rfl (sh_137 hW2) rfl hm (fun v2 K hk => ?_)
  obtain ⟨hv, hr2, hK⟩ := hk
  exact x_if2 (pc2 := 1062) d250_972 rfl (fun _ => k K R2 hW2 hN2 hr2 hK) (fun c => absurd hv.symm c)
set_option maxHeartbeats 4000000 in
theorem b_L_27 (hW : Wf sh R) (hN : rNo R) (hr : Rel t I R) (ht : t < 100000) (hs : sh zSc = (3, L)) (hi : 0 ≤ i ∧ i + 6 ≤ (L : Int) ∧ L ≤ 3072) (k : lNext bc bs n sh I t i Q) : Ex 1000 250 977 [some (.inr zSc), some (.inr 1), some (.inr 137), some (.inl i)] [] (bc, bs, n, sh, R, I) Q := by
  refine x_aload_n d250_977 rfl ?_
  refine y_invR (as := []) (t := []) (o := 1) gY_123 d250_978 gY_250.2.2.2 gM_13_129 rfl (sh_1 hW) rfl (r_shuffle t R I ht hW hN hr) (fun v J R2 hW2 hk => ?_)
  obtain ⟨_, hN2, hJ, hm⟩ := hk
  refine x_aload_n d250_981 rfl ?_
  refine y_invI (as := []) (t := [.inl v]) (o := 137) gY_242 d250_982 gY_250.2.2.2 gM_13_132 rfl (sh_137 hW2) rfl hm (fun v2 K hk => ?_)
  obtain ⟨hv, hr2, hK⟩ := hk
  exact x_if2 (pc2 := 1062) d250_985 rfl (fun _ => k K R2 hW2 hN2 hr2 hK) (fun c => absurd hv.symm c)
set_option maxHeartbeats 4000000 in
theorem b_L_28 (hW : Wf sh R) (hN : rNo R) (hr : Rel t I R) (ht : t < 100000) (hs : sh zSc = (3, L)) (hi : 0 ≤ i ∧ i + 6 ≤ (L : Int) ∧ L ≤ 3072) (k : lNext bc bs n sh I t i Q) : Ex 1000 250 990 [some (.inr zSc), some (.inr 1), some (.inr 137), some (.inl i)] [] (bc, bs, n, sh, R, I) Q := by
  refine x_aload_n d250_990 rfl ?_
  refine y_invR (as := []) (t := []) (o := 1) gY_124 d250_991 gY_250.2.2.2 gM_13_133 rfl (sh_1 hW) rfl (r_keep t R I ht hW hN hr) (fun v J R2 hW2 hk => ?_)
  obtain ⟨_, hN2, hJ, hm⟩ := hk
  refine x_aload_n d250_994 rfl ?_
  refine y_invI (as := []) (t := [.inl v]) (o := 137) gY_243 d250_995 gY_250.2.2.2 gM_13_136 rfl (sh_137 hW2) rfl hm (fun v2 K hk => ?_)
  obtain ⟨hv, hr2, hK⟩ := hk
  exact x_if2 (pc2 := 1062) d250_998 rfl (fun _ => k K R2 hW2 hN2 hr2 hK) (fun c => absurd hv.symm c)
set_option maxHeartbeats 4000000 in
theorem b_L_29 (hW : Wf sh R) (hN : rNo R) (hr : Rel t I R) (ht : t < 100000) (hs : sh zSc = (3, L)) (hi : 0 ≤ i ∧ i + 6 ≤ (L : Int) ∧ L ≤ 3072) (k : lNext bc bs n sh I t i Q) : Ex 1000 250 1003 [some (.inr zSc), some (.inr 1), some (.inr 137), some (.inl i)] [] (bc, bs, n, sh, R, I) Q := by
  refine x_aload_n d250_1003 rfl ?_
  refine y_invR (as := []) (t := []) (o := 1) gY_125 d250_1004 gY_250.2.2.2 gM_13_137 rfl (sh_1 hW) rfl (r_undo t R I ht hW hN hr) (fun v J R2 hW2 hk => ?_)
  obtain ⟨_, hN2, hJ, hm⟩ := hk
  refine x_aload_n d250_1007 rfl ?_
  refine y_invI (as := []) (t := [.inl v]) (o := 137) gY_244 d250_1008 gY_250.2.2.2 gM_13_141 rfl (sh_137 hW2) rfl hm (fun v2 K hk => ?_)
  obtain ⟨hv, hr2, hK⟩ := hk
  exact x_if2 (pc2 := 1062) d250_1011 rfl (fun _ => k K R2 hW2 hN2 hr2 hK) (fun c => absurd hv.symm c)
set_option maxHeartbeats 4000000 in
theorem b_L_30 (hW : Wf sh R) (hN : rNo R) (hr : Rel t I R) (ht : t < 100000) (hs : sh zSc = (3, L)) (hi : 0 ≤ i ∧ i + 6 ≤ (L : Int) ∧ L ≤ 3072) (k : lNext bc bs n sh I t i Q) : Ex 1000 250 1016 [some (.inr zSc), some (.inr 1), some (.inr 137), some (.inl i)] [] (bc, bs, n, sh, R, I) Q := by
  refine x_aload_n d250_1016 rfl ?_
  refine x_aload_n d250_1017 rfl ?_
  refine x_iload_n d250_1018 rfl ?_
  refine x_iconst d250_1019 rfl ?_
  refine x_iadd d250_1020 (by unfold zr; omega) ?_
  refine x_sald d250_1021 hs (by omega) (by omega) ?_
  refine y_invR (as := [.inl (I zSc (i + 1).toNat)]) (t := []) (o := 1) gY_126 d250_1022 gY_250.2.2.2 gM_13_142 rfl (sh_1 hW) rfl (r_check t R I ht hW hN hr) (fun v J R2 hW2 hk => ?_)
  obtain ⟨_, hN2, hJ, hm⟩ := hk
  refine x_aload_n d250_1025 rfl ?_
  refine x_aload_n d250_1026 rfl ?_
  refine x_iload_n d250_1027 rfl ?_
  refine x_iconst d250_1028 rfl ?_
  refine x_iadd d250_1029 (by unfold zr; omega) ?_
  refine x_sald d250_1030 hs (by omega) (by omega) ?_
  rw [hJ]
  refine y_invI (as := [.inl (I zSc (i + 1).toNat)]) (t := [.inl v]) (o := 137) gY_246 d250_1031 gY_250.2.2.2 gM_13_145 rfl (sh_137 hW2) rfl hm (fun v2 K hk => ?_)
  obtain ⟨hv, hr2, hK⟩ := hk
  exact x_if2 (pc2 := 1062) d250_1034 rfl (fun _ => k K R2 hW2 hN2 hr2 hK) (fun c => absurd hv.symm c)
set_option maxHeartbeats 4000000 in
theorem b_L_31 (hW : Wf sh R) (hN : rNo R) (hr : Rel t I R) (ht : t < 100000) (hs : sh zSc = (3, L)) (hi : 0 ≤ i ∧ i + 6 ≤ (L : Int) ∧ L ≤ 3072) (k : lNext bc bs n sh I t i Q) : Ex 1000 250 1039 [some (.inr zSc), some (.inr 1), some (.inr 137), some (.inl i)] [] (bc, bs, n, sh, R, I) Q := by
  refine x_aload_n d250_1039 rfl ?_
  refine x_aload_n d250_1040 rfl ?_
  refine x_iload_n d250_1041 rfl ?_
  refine x_iconst d250_1042 rfl ?_
  refine x_iadd d250_1043 (by unfold zr; omega) ?_
  refine x_sald d250_1044 hs (by omega) (by omega) ?_
  refine y_invR (as := [.inl (I zSc (i + 1).toNat)]) (t := []) (o := 1) gY_127 d250_1045 gY_250.2.2.2 gM_13_146 rfl (sh_1 hW) rfl (r_count t R I ht hW hN hr) (fun v J R2 hW2 hk => ?_)
  obtain ⟨_, hN2, hJ, hm⟩ := hk
  refine x_aload_n d250_1048 rfl ?_
  refine x_aload_n d250_1049 rfl ?_
  refine x_iload_n d250_1050 rfl ?_
  refine x_iconst d250_1051 rfl ?_
  refine x_iadd d250_1052 (by unfold zr; omega) ?_
  refine x_sald d250_1053 hs (by omega) (by omega) ?_
  rw [hJ]
  refine y_invI (as := [.inl (I zSc (i + 1).toNat)]) (t := [.inl v]) (o := 137) gY_249 d250_1054 gY_250.2.2.2 gM_13_149 rfl (sh_137 hW2) rfl hm (fun v2 K hk => ?_)
  obtain ⟨hv, hr2, hK⟩ := hk
  exact x_if2 (pc2 := 1062) d250_1057 rfl (fun _ => k K R2 hW2 hN2 hr2 hK) (fun c => absurd hv.symm c)
end LL

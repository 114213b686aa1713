/-! The thirty cases of the law: both sides asked, one answer -/
theorem lo_X7_line : gk_OV yX7_line cX7_line 1 (some .int) 0 := ⟨(gk_t2 (List.mem_of_getElem? (i := 66) rfl) rfl), (gk_t2 (List.mem_of_getElem? (i := 67) rfl) rfl), (gk_t1 (List.mem_of_getElem? (i := 1) rfl) rfl), (gk_t2 (List.mem_of_getElem? (i := 68) rfl) rfl), by decide +kernel, by decide⟩
theorem lo_X8_line : gk_OV yX8_line cX8_line 1 (some .int) 0 := ⟨(gk_t4 (List.mem_of_getElem? (i := 181) rfl) rfl), (gk_t4 (List.mem_of_getElem? (i := 182) rfl) rfl), (gk_t1 (List.mem_of_getElem? (i := 9) rfl) rfl), (gk_t4 (List.mem_of_getElem? (i := 183) rfl) rfl), by decide +kernel, by decide⟩
theorem lc_line {Z : gk_Z} {Y : gk_Y} {α : Type} {ρ : α → Option Value × gk_M} {k : Option α} {b L x m i : Nat} {xs : Nat → Int32} {M : gk_M} (h : LC Z Y b L xs x m i) (hJ : JJ x m M) (hN : ∀ M', JJ x m M' → gk_K Z Y 4 ρ 1206 (lkL b x m i) [] M' k) : gk_K Z Y 4 ρ 168 (lkL b x m i) [] M k := by
  obtain ⟨hC, hX, hY, hW, tx, tm, hi, hL⟩ := h
  obtain ⟨r, M1, M2, e1, e2, hJ2⟩ := j_line hY hJ 
  refine gk_aload_n hC 1 dL_law_168 rfl rfl ?_
  refine lk_callV hC (fun l => m_X7_line l hW x  M tx) e1 (gk_t2 (List.mem_of_getElem? (i := 65) rfl) rfl) lo_X7_line dL_law_169 tx ⟨by decide, rfl⟩ rfl (by decide) (by show List.sum [] ≤ 8; decide) rfl rfl ?_
  refine gk_aload_n hC 2 dL_law_172 rfl rfl ?_
  refine lk_callV hC (fun l => m_X8_line l hW m  M1 tm) e2 (gk_t4 (List.mem_of_getElem? (i := 180) rfl) rfl) lo_X8_line dL_law_173 tm ⟨by decide, rfl⟩ rfl (by decide) (by show List.sum [1] ≤ 8; decide) rfl rfl ?_
  refine lk_eq hC (tg := 1206) dL_law_176 rfl ?_
  exact hN M2 hJ2
theorem lo_X7_wish : gk_OV yX7_wish cX7_wish 6 (some .int) 5 := ⟨(gk_t2 (List.mem_of_getElem? (i := 78) rfl) rfl), (gk_t2 (List.mem_of_getElem? (i := 79) rfl) rfl), (gk_t1 (List.mem_of_getElem? (i := 1) rfl) rfl), (gk_t2 (List.mem_of_getElem? (i := 80) rfl) rfl), by decide +kernel, by decide⟩
theorem lo_X8_wish : gk_OV yX8_wish cX8_wish 6 (some .int) 5 := ⟨(gk_t4 (List.mem_of_getElem? (i := 193) rfl) rfl), (gk_t4 (List.mem_of_getElem? (i := 194) rfl) rfl), (gk_t1 (List.mem_of_getElem? (i := 9) rfl) rfl), (gk_t4 (List.mem_of_getElem? (i := 195) rfl) rfl), by decide +kernel, by decide⟩
theorem lc_wish {Z : gk_Z} {Y : gk_Y} {α : Type} {ρ : α → Option Value × gk_M} {k : Option α} {b L x m i : Nat} {xs : Nat → Int32} {M : gk_M} (h : LC Z Y b L xs x m i) (hJ : JJ x m M) (hN : ∀ M', JJ x m M' → gk_K Z Y 4 ρ 1206 (lkL b x m i) [] M' k) : gk_K Z Y 4 ρ 181 (lkL b x m i) [] M k := by
  obtain ⟨hC, hX, hY, hW, tx, tm, hi, hL⟩ := h
  obtain ⟨r, M1, M2, e1, e2, hJ2⟩ := j_wish hY hJ (xs (i + 1)) (xs (i + 2)) (xs (i + 3)) (xs (i + 4)) (xs (i + 5))
  refine gk_aload_n hC 1 dL_law_181 rfl rfl ?_
  refine lk_S hC hX hi hL (j := 1) (by decide) rfl dL_law_182 dL_law_183 dL_law_184 dL_law_185 dL_law_186 rfl ?_
  refine lk_S hC hX hi hL (j := 2) (by decide) rfl dL_law_187 dL_law_188 dL_law_189 dL_law_190 dL_law_191 rfl ?_
  refine lk_S hC hX hi hL (j := 3) (by decide) rfl dL_law_192 dL_law_193 dL_law_194 dL_law_195 dL_law_196 rfl ?_
  refine lk_S hC hX hi hL (j := 4) (by decide) rfl dL_law_197 dL_law_198 dL_law_199 dL_law_200 dL_law_201 rfl ?_
  refine lk_S hC hX hi hL (j := 5) (by decide) rfl dL_law_202 dL_law_203 dL_law_204 dL_law_205 dL_law_206 rfl ?_
  refine lk_callV hC (fun l => m_X7_wish l hW x (xs (i + 1)) (xs (i + 2)) (xs (i + 3)) (xs (i + 4)) (xs (i + 5)) M tx) e1 (gk_t2 (List.mem_of_getElem? (i := 77) rfl) rfl) lo_X7_wish dL_law_207 tx ⟨by decide, rfl⟩ rfl (by decide) (by show List.sum [] ≤ 8; decide) rfl rfl ?_
  refine gk_aload_n hC 2 dL_law_210 rfl rfl ?_
  refine lk_S hC hX hi hL (j := 1) (by decide) rfl dL_law_211 dL_law_212 dL_law_213 dL_law_214 dL_law_215 rfl ?_
  refine lk_S hC hX hi hL (j := 2) (by decide) rfl dL_law_216 dL_law_217 dL_law_218 dL_law_219 dL_law_220 rfl ?_
  refine lk_S hC hX hi hL (j := 3) (by decide) rfl dL_law_221 dL_law_222 dL_law_223 dL_law_224 dL_law_225 rfl ?_
  refine lk_S hC hX hi hL (j := 4) (by decide) rfl dL_law_226 dL_law_227 dL_law_228 dL_law_229 dL_law_230 rfl ?_
  refine lk_S hC hX hi hL (j := 5) (by decide) rfl dL_law_231 dL_law_232 dL_law_233 dL_law_234 dL_law_235 rfl ?_
  refine lk_callV hC (fun l => m_X8_wish l hW m (xs (i + 1)) (xs (i + 2)) (xs (i + 3)) (xs (i + 4)) (xs (i + 5)) M1 tm) e2 (gk_t4 (List.mem_of_getElem? (i := 192) rfl) rfl) lo_X8_wish dL_law_236 tm ⟨by decide, rfl⟩ rfl (by decide) (by show List.sum [1] ≤ 8; decide) rfl rfl ?_
  refine lk_eq hC (tg := 1206) dL_law_239 rfl ?_
  exact hN M2 hJ2
theorem lo_X7_on : gk_OV yX7_on cX7_on 5 (some .int) 2 := ⟨(gk_t2 (List.mem_of_getElem? (i := 102) rfl) rfl), (gk_t2 (List.mem_of_getElem? (i := 103) rfl) rfl), (gk_t1 (List.mem_of_getElem? (i := 1) rfl) rfl), (gk_t2 (List.mem_of_getElem? (i := 104) rfl) rfl), by decide +kernel, by decide⟩
theorem lo_X8_on : gk_OV yX8_on cX8_on 4 (some .int) 2 := ⟨(gk_t4 (List.mem_of_getElem? (i := 215) rfl) rfl), (gk_t4 (List.mem_of_getElem? (i := 216) rfl) rfl), (gk_t1 (List.mem_of_getElem? (i := 9) rfl) rfl), (gk_t4 (List.mem_of_getElem? (i := 217) rfl) rfl), by decide +kernel, by decide⟩
theorem lc_on {Z : gk_Z} {Y : gk_Y} {α : Type} {ρ : α → Option Value × gk_M} {k : Option α} {b L x m i : Nat} {xs : Nat → Int32} {M : gk_M} (h : LC Z Y b L xs x m i) (hJ : JJ x m M) (hN : ∀ M', JJ x m M' → gk_K Z Y 4 ρ 1206 (lkL b x m i) [] M' k) : gk_K Z Y 4 ρ 244 (lkL b x m i) [] M k := by
  obtain ⟨hC, hX, hY, hW, tx, tm, hi, hL⟩ := h
  obtain ⟨r, M1, M2, e1, e2, hJ2⟩ := j_on hY hJ (xs (i + 1)) (!decide (xs (i + 2) = 0))
  refine gk_aload_n hC 1 dL_law_244 rfl rfl ?_
  refine lk_S hC hX hi hL (j := 1) (by decide) rfl dL_law_245 dL_law_246 dL_law_247 dL_law_248 dL_law_249 rfl ?_
  refine lk_S hC hX hi hL (j := 2) (by decide) rfl dL_law_250 dL_law_251 dL_law_252 dL_law_253 dL_law_254 rfl ?_
  have hb255 : ∀ st, gk_K Z Y 4 ρ 263 (lkL b x m i) (.int (bI (!decide (xs (i + 2) = 0))) :: st) M k → gk_K Z Y 4 ρ 255 (lkL b x m i) (.int (xs (i + 2)) :: st) M k := fun st hh => lk_if_eq hC (tg := 262) dL_law_255 rfl rfl (fun g => gk_iconst hC (v := 0) dL_law_262 rfl rfl (by rw [g] at hh; exact hh)) (fun g => gk_iconst hC (v := 1) dL_law_258 rfl rfl (gk_goto hC (q := 263) dL_law_259 rfl (by rw [show (!decide (xs (i + 2) = 0)) = true by simp [g]] at hh; exact hh)))
  refine hb255 _ ?_
  refine lk_callV hC (fun l => m_X7_on l hW x (xs (i + 1)) (bI (!decide (xs (i + 2) = 0))) M tx) e1 (gk_t2 (List.mem_of_getElem? (i := 101) rfl) rfl) lo_X7_on dL_law_263 tx ⟨by decide, rfl⟩ rfl (by decide) (by show List.sum [] ≤ 8; decide) rfl rfl ?_
  refine gk_aload_n hC 2 dL_law_266 rfl rfl ?_
  refine lk_S hC hX hi hL (j := 1) (by decide) rfl dL_law_267 dL_law_268 dL_law_269 dL_law_270 dL_law_271 rfl ?_
  refine lk_S hC hX hi hL (j := 2) (by decide) rfl dL_law_272 dL_law_273 dL_law_274 dL_law_275 dL_law_276 rfl ?_
  have hb277 : ∀ st, gk_K Z Y 4 ρ 285 (lkL b x m i) (.int (bI (!decide (xs (i + 2) = 0))) :: st) M1 k → gk_K Z Y 4 ρ 277 (lkL b x m i) (.int (xs (i + 2)) :: st) M1 k := fun st hh => lk_if_eq hC (tg := 284) dL_law_277 rfl rfl (fun g => gk_iconst hC (v := 0) dL_law_284 rfl rfl (by rw [g] at hh; exact hh)) (fun g => gk_iconst hC (v := 1) dL_law_280 rfl rfl (gk_goto hC (q := 285) dL_law_281 rfl (by rw [show (!decide (xs (i + 2) = 0)) = true by simp [g]] at hh; exact hh)))
  refine hb277 _ ?_
  refine lk_callV hC (fun l => m_X8_on l hW m (xs (i + 1)) (bI (!decide (xs (i + 2) = 0))) M1 tm) e2 (gk_t4 (List.mem_of_getElem? (i := 214) rfl) rfl) lo_X8_on dL_law_285 tm ⟨by decide, rfl⟩ rfl (by decide) (by show List.sum [1] ≤ 8; decide) rfl rfl ?_
  refine lk_eq hC (tg := 1206) dL_law_288 rfl ?_
  exact hN M2 hJ2
theorem lo_X7_rank : gk_OV yX7_rank cX7_rank 5 (some .int) 2 := ⟨(gk_t2 (List.mem_of_getElem? (i := 110) rfl) rfl), (gk_t2 (List.mem_of_getElem? (i := 111) rfl) rfl), (gk_t1 (List.mem_of_getElem? (i := 1) rfl) rfl), (gk_t2 (List.mem_of_getElem? (i := 112) rfl) rfl), by decide +kernel, by decide⟩
theorem lo_X8_rank : gk_OV yX8_rank cX8_rank 4 (some .int) 2 := ⟨(gk_t4 (List.mem_of_getElem? (i := 223) rfl) rfl), (gk_t4 (List.mem_of_getElem? (i := 224) rfl) rfl), (gk_t1 (List.mem_of_getElem? (i := 9) rfl) rfl), (gk_t4 (List.mem_of_getElem? (i := 225) rfl) rfl), by decide +kernel, by decide⟩
theorem lc_rank {Z : gk_Z} {Y : gk_Y} {α : Type} {ρ : α → Option Value × gk_M} {k : Option α} {b L x m i : Nat} {xs : Nat → Int32} {M : gk_M} (h : LC Z Y b L xs x m i) (hJ : JJ x m M) (hN : ∀ M', JJ x m M' → gk_K Z Y 4 ρ 1206 (lkL b x m i) [] M' k) : gk_K Z Y 4 ρ 293 (lkL b x m i) [] M k := by
  obtain ⟨hC, hX, hY, hW, tx, tm, hi, hL⟩ := h
  obtain ⟨r, M1, M2, e1, e2, hJ2⟩ := j_rank hY hJ (xs (i + 1)) (xs (i + 2))
  refine gk_aload_n hC 1 dL_law_293 rfl rfl ?_
  refine lk_S hC hX hi hL (j := 1) (by decide) rfl dL_law_294 dL_law_295 dL_law_296 dL_law_297 dL_law_298 rfl ?_
  refine lk_S hC hX hi hL (j := 2) (by decide) rfl dL_law_299 dL_law_300 dL_law_301 dL_law_302 dL_law_303 rfl ?_
  refine lk_callV hC (fun l => m_X7_rank l hW x (xs (i + 1)) (xs (i + 2)) M tx) e1 (gk_t2 (List.mem_of_getElem? (i := 109) rfl) rfl) lo_X7_rank dL_law_304 tx ⟨by decide, rfl⟩ rfl (by decide) (by show List.sum [] ≤ 8; decide) rfl rfl ?_
  refine gk_aload_n hC 2 dL_law_307 rfl rfl ?_
  refine lk_S hC hX hi hL (j := 1) (by decide) rfl dL_law_308 dL_law_309 dL_law_310 dL_law_311 dL_law_312 rfl ?_
  refine lk_S hC hX hi hL (j := 2) (by decide) rfl dL_law_313 dL_law_314 dL_law_315 dL_law_316 dL_law_317 rfl ?_
  refine lk_callV hC (fun l => m_X8_rank l hW m (xs (i + 1)) (xs (i + 2)) M1 tm) e2 (gk_t4 (List.mem_of_getElem? (i := 222) rfl) rfl) lo_X8_rank dL_law_318 tm ⟨by decide, rfl⟩ rfl (by decide) (by show List.sum [1] ≤ 8; decide) rfl rfl ?_
  refine lk_eq hC (tg := 1206) dL_law_321 rfl ?_
  exact hN M2 hJ2
theorem lo_X7_dial : gk_OV yX7_dial cX7_dial 3 (some .int) 2 := ⟨(gk_t2 (List.mem_of_getElem? (i := 114) rfl) rfl), (gk_t2 (List.mem_of_getElem? (i := 115) rfl) rfl), (gk_t1 (List.mem_of_getElem? (i := 1) rfl) rfl), (gk_t2 (List.mem_of_getElem? (i := 116) rfl) rfl), by decide +kernel, by decide⟩
theorem lo_X8_dial : gk_OV yX8_dial cX8_dial 3 (some .int) 2 := ⟨(gk_t4 (List.mem_of_getElem? (i := 227) rfl) rfl), (gk_t4 (List.mem_of_getElem? (i := 228) rfl) rfl), (gk_t1 (List.mem_of_getElem? (i := 9) rfl) rfl), (gk_t4 (List.mem_of_getElem? (i := 229) rfl) rfl), by decide +kernel, by decide⟩
theorem lc_dial {Z : gk_Z} {Y : gk_Y} {α : Type} {ρ : α → Option Value × gk_M} {k : Option α} {b L x m i : Nat} {xs : Nat → Int32} {M : gk_M} (h : LC Z Y b L xs x m i) (hJ : JJ x m M) (hN : ∀ M', JJ x m M' → gk_K Z Y 4 ρ 1206 (lkL b x m i) [] M' k) : gk_K Z Y 4 ρ 326 (lkL b x m i) [] M k := by
  obtain ⟨hC, hX, hY, hW, tx, tm, hi, hL⟩ := h
  obtain ⟨r, M1, M2, e1, e2, hJ2⟩ := j_dial hY hJ (xs (i + 1)) (xs (i + 2))
  refine gk_aload_n hC 1 dL_law_326 rfl rfl ?_
  refine lk_S hC hX hi hL (j := 1) (by decide) rfl dL_law_327 dL_law_328 dL_law_329 dL_law_330 dL_law_331 rfl ?_
  refine lk_S hC hX hi hL (j := 2) (by decide) rfl dL_law_332 dL_law_333 dL_law_334 dL_law_335 dL_law_336 rfl ?_
  refine lk_callV hC (fun l => m_X7_dial l hW x (xs (i + 1)) (xs (i + 2)) M tx) e1 (gk_t2 (List.mem_of_getElem? (i := 113) rfl) rfl) lo_X7_dial dL_law_337 tx ⟨by decide, rfl⟩ rfl (by decide) (by show List.sum [] ≤ 8; decide) rfl rfl ?_
  refine gk_aload_n hC 2 dL_law_340 rfl rfl ?_
  refine lk_S hC hX hi hL (j := 1) (by decide) rfl dL_law_341 dL_law_342 dL_law_343 dL_law_344 dL_law_345 rfl ?_
  refine lk_S hC hX hi hL (j := 2) (by decide) rfl dL_law_346 dL_law_347 dL_law_348 dL_law_349 dL_law_350 rfl ?_
  refine lk_callV hC (fun l => m_X8_dial l hW m (xs (i + 1)) (xs (i + 2)) M1 tm) e2 (gk_t4 (List.mem_of_getElem? (i := 226) rfl) rfl) lo_X8_dial dL_law_351 tm ⟨by decide, rfl⟩ rfl (by decide) (by show List.sum [1] ≤ 8; decide) rfl rfl ?_
  refine lk_eq hC (tg := 1206) dL_law_354 rfl ?_
  exact hN M2 hJ2
theorem lo_X7_take : gk_OV yX7_take cX7_take 2 (some .int) 1 := ⟨(gk_t2 (List.mem_of_getElem? (i := 204) rfl) rfl), (gk_t2 (List.mem_of_getElem? (i := 205) rfl) rfl), (gk_t1 (List.mem_of_getElem? (i := 1) rfl) rfl), (gk_t2 (List.mem_of_getElem? (i := 206) rfl) rfl), by decide +kernel, by decide⟩
theorem lo_X8_take : gk_OV yX8_take cX8_take 3 (some .int) 1 := ⟨(gk_t5 (List.mem_of_getElem? (i := 63) rfl) rfl), (gk_t5 (List.mem_of_getElem? (i := 64) rfl) rfl), (gk_t1 (List.mem_of_getElem? (i := 9) rfl) rfl), (gk_t5 (List.mem_of_getElem? (i := 65) rfl) rfl), by decide +kernel, by decide⟩
theorem lc_take {Z : gk_Z} {Y : gk_Y} {α : Type} {ρ : α → Option Value × gk_M} {k : Option α} {b L x m i : Nat} {xs : Nat → Int32} {M : gk_M} (h : LC Z Y b L xs x m i) (hJ : JJ x m M) (hN : ∀ M', JJ x m M' → gk_K Z Y 4 ρ 1206 (lkL b x m i) [] M' k) : gk_K Z Y 4 ρ 359 (lkL b x m i) [] M k := by
  obtain ⟨hC, hX, hY, hW, tx, tm, hi, hL⟩ := h
  obtain ⟨r, M1, M2, e1, e2, hJ2⟩ := j_take hY hJ (xs (i + 1))
  refine gk_aload_n hC 1 dL_law_359 rfl rfl ?_
  refine lk_S hC hX hi hL (j := 1) (by decide) rfl dL_law_360 dL_law_361 dL_law_362 dL_law_363 dL_law_364 rfl ?_
  refine lk_callV hC (fun l => m_X7_take l hW x (xs (i + 1)) M tx) e1 (gk_t2 (List.mem_of_getElem? (i := 203) rfl) rfl) lo_X7_take dL_law_365 tx ⟨by decide, rfl⟩ rfl (by decide) (by show List.sum [] ≤ 8; decide) rfl rfl ?_
  refine gk_aload_n hC 2 dL_law_368 rfl rfl ?_
  refine lk_S hC hX hi hL (j := 1) (by decide) rfl dL_law_369 dL_law_370 dL_law_371 dL_law_372 dL_law_373 rfl ?_
  refine lk_callV hC (fun l => m_X8_take l hW m (xs (i + 1)) M1 tm) e2 (gk_t5 (List.mem_of_getElem? (i := 62) rfl) rfl) lo_X8_take dL_law_374 tm ⟨by decide, rfl⟩ rfl (by decide) (by show List.sum [1] ≤ 8; decide) rfl rfl ?_
  refine lk_eq hC (tg := 1206) dL_law_377 rfl ?_
  exact hN M2 hJ2
theorem lo_X7_down : gk_OV yX7_down cX7_down 2 (some .int) 1 := ⟨(gk_t2 (List.mem_of_getElem? (i := 220) rfl) rfl), (gk_t2 (List.mem_of_getElem? (i := 221) rfl) rfl), (gk_t1 (List.mem_of_getElem? (i := 1) rfl) rfl), (gk_t2 (List.mem_of_getElem? (i := 222) rfl) rfl), by decide +kernel, by decide⟩
theorem lo_X8_down : gk_OV yX8_down cX8_down 3 (some .int) 1 := ⟨(gk_t5 (List.mem_of_getElem? (i := 67) rfl) rfl), (gk_t5 (List.mem_of_getElem? (i := 68) rfl) rfl), (gk_t1 (List.mem_of_getElem? (i := 9) rfl) rfl), (gk_t5 (List.mem_of_getElem? (i := 69) rfl) rfl), by decide +kernel, by decide⟩
theorem lc_down {Z : gk_Z} {Y : gk_Y} {α : Type} {ρ : α → Option Value × gk_M} {k : Option α} {b L x m i : Nat} {xs : Nat → Int32} {M : gk_M} (h : LC Z Y b L xs x m i) (hJ : JJ x m M) (hN : ∀ M', JJ x m M' → gk_K Z Y 4 ρ 1206 (lkL b x m i) [] M' k) : gk_K Z Y 4 ρ 382 (lkL b x m i) [] M k := by
  obtain ⟨hC, hX, hY, hW, tx, tm, hi, hL⟩ := h
  obtain ⟨r, M1, M2, e1, e2, hJ2⟩ := j_down hY hJ (xs (i + 1))
  refine gk_aload_n hC 1 dL_law_382 rfl rfl ?_
  refine lk_S hC hX hi hL (j := 1) (by decide) rfl dL_law_383 dL_law_384 dL_law_385 dL_law_386 dL_law_387 rfl ?_
  refine lk_callV hC (fun l => m_X7_down l hW x (xs (i + 1)) M tx) e1 (gk_t2 (List.mem_of_getElem? (i := 219) rfl) rfl) lo_X7_down dL_law_388 tx ⟨by decide, rfl⟩ rfl (by decide) (by show List.sum [] ≤ 8; decide) rfl rfl ?_
  refine gk_aload_n hC 2 dL_law_391 rfl rfl ?_
  refine lk_S hC hX hi hL (j := 1) (by decide) rfl dL_law_392 dL_law_393 dL_law_394 dL_law_395 dL_law_396 rfl ?_
  refine lk_callV hC (fun l => m_X8_down l hW m (xs (i + 1)) M1 tm) e2 (gk_t5 (List.mem_of_getElem? (i := 66) rfl) rfl) lo_X8_down dL_law_397 tm ⟨by decide, rfl⟩ rfl (by decide) (by show List.sum [1] ≤ 8; decide) rfl rfl ?_
  refine lk_eq hC (tg := 1206) dL_law_400 rfl ?_
  exact hN M2 hJ2
theorem lo_X7_tick : gk_OV yX7_tick cX7_tick 1 (some .int) 0 := ⟨(gk_t2 (List.mem_of_getElem? (i := 233) rfl) rfl), (gk_t2 (List.mem_of_getElem? (i := 234) rfl) rfl), (gk_t1 (List.mem_of_getElem? (i := 1) rfl) rfl), (gk_t2 (List.mem_of_getElem? (i := 235) rfl) rfl), by decide +kernel, by decide⟩
theorem lo_X8_tick : gk_OV yX8_tick cX8_tick 3 (some .int) 0 := ⟨(gk_t5 (List.mem_of_getElem? (i := 71) rfl) rfl), (gk_t5 (List.mem_of_getElem? (i := 72) rfl) rfl), (gk_t1 (List.mem_of_getElem? (i := 9) rfl) rfl), (gk_t5 (List.mem_of_getElem? (i := 73) rfl) rfl), by decide +kernel, by decide⟩
theorem lc_tick {Z : gk_Z} {Y : gk_Y} {α : Type} {ρ : α → Option Value × gk_M} {k : Option α} {b L x m i : Nat} {xs : Nat → Int32} {M : gk_M} (h : LC Z Y b L xs x m i) (hJ : JJ x m M) (hN : ∀ M', JJ x m M' → gk_K Z Y 4 ρ 1206 (lkL b x m i) [] M' k) : gk_K Z Y 4 ρ 405 (lkL b x m i) [] M k := by
  obtain ⟨hC, hX, hY, hW, tx, tm, hi, hL⟩ := h
  obtain ⟨r, M1, M2, e1, e2, hJ2⟩ := j_tick hY hJ 
  refine gk_aload_n hC 1 dL_law_405 rfl rfl ?_
  refine lk_callV hC (fun l => m_X7_tick l hW x  M tx) e1 (gk_t2 (List.mem_of_getElem? (i := 232) rfl) rfl) lo_X7_tick dL_law_406 tx ⟨by decide, rfl⟩ rfl (by decide) (by show List.sum [] ≤ 8; decide) rfl rfl ?_
  refine gk_aload_n hC 2 dL_law_409 rfl rfl ?_
  refine lk_callV hC (fun l => m_X8_tick l hW m  M1 tm) e2 (gk_t5 (List.mem_of_getElem? (i := 70) rfl) rfl) lo_X8_tick dL_law_410 tm ⟨by decide, rfl⟩ rfl (by decide) (by show List.sum [1] ≤ 8; decide) rfl rfl ?_
  refine lk_eq hC (tg := 1206) dL_law_413 rfl ?_
  exact hN M2 hJ2
theorem lo_X7_image : gk_OV yX7_image cX7_image 1 (some .int) 0 := ⟨(gk_t3 (List.mem_of_getElem? (i := 19) rfl) rfl), (gk_t3 (List.mem_of_getElem? (i := 20) rfl) rfl), (gk_t1 (List.mem_of_getElem? (i := 1) rfl) rfl), (gk_t3 (List.mem_of_getElem? (i := 21) rfl) rfl), by decide +kernel, by decide⟩
theorem lo_X8_image : gk_OV yX8_image cX8_image 1 (some .int) 0 := ⟨(gk_t5 (List.mem_of_getElem? (i := 83) rfl) rfl), (gk_t5 (List.mem_of_getElem? (i := 84) rfl) rfl), (gk_t1 (List.mem_of_getElem? (i := 9) rfl) rfl), (gk_t5 (List.mem_of_getElem? (i := 85) rfl) rfl), by decide +kernel, by decide⟩
theorem lc_image {Z : gk_Z} {Y : gk_Y} {α : Type} {ρ : α → Option Value × gk_M} {k : Option α} {b L x m i : Nat} {xs : Nat → Int32} {M : gk_M} (h : LC Z Y b L xs x m i) (hJ : JJ x m M) (hN : ∀ M', JJ x m M' → gk_K Z Y 4 ρ 1206 (lkL b x m i) [] M' k) : gk_K Z Y 4 ρ 418 (lkL b x m i) [] M k := by
  obtain ⟨hC, hX, hY, hW, tx, tm, hi, hL⟩ := h
  obtain ⟨r, M1, M2, e1, e2, hJ2⟩ := j_image hY hJ 
  refine gk_aload_n hC 1 dL_law_418 rfl rfl ?_
  refine lk_callV hC (fun l => m_X7_image l hW x  M tx) e1 (gk_t3 (List.mem_of_getElem? (i := 18) rfl) rfl) lo_X7_image dL_law_419 tx ⟨by decide, rfl⟩ rfl (by decide) (by show List.sum [] ≤ 8; decide) rfl rfl ?_
  refine gk_aload_n hC 2 dL_law_422 rfl rfl ?_
  refine lk_callV hC (fun l => m_X8_image l hW m  M1 tm) e2 (gk_t5 (List.mem_of_getElem? (i := 82) rfl) rfl) lo_X8_image dL_law_423 tm ⟨by decide, rfl⟩ rfl (by decide) (by show List.sum [1] ≤ 8; decide) rfl rfl ?_
  refine lk_eq hC (tg := 1206) dL_law_426 rfl ?_
  exact hN M2 hJ2
theorem lo_X7_restore : gk_OV yX7_restore cX7_restore 1 (some .int) 0 := ⟨(gk_t3 (List.mem_of_getElem? (i := 42) rfl) rfl), (gk_t3 (List.mem_of_getElem? (i := 43) rfl) rfl), (gk_t1 (List.mem_of_getElem? (i := 1) rfl) rfl), (gk_t3 (List.mem_of_getElem? (i := 44) rfl) rfl), by decide +kernel, by decide⟩
theorem lo_X8_restore : gk_OV yX8_restore cX8_restore 1 (some .int) 0 := ⟨(gk_t5 (List.mem_of_getElem? (i := 95) rfl) rfl), (gk_t5 (List.mem_of_getElem? (i := 96) rfl) rfl), (gk_t1 (List.mem_of_getElem? (i := 9) rfl) rfl), (gk_t5 (List.mem_of_getElem? (i := 97) rfl) rfl), by decide +kernel, by decide⟩
theorem lc_restore {Z : gk_Z} {Y : gk_Y} {α : Type} {ρ : α → Option Value × gk_M} {k : Option α} {b L x m i : Nat} {xs : Nat → Int32} {M : gk_M} (h : LC Z Y b L xs x m i) (hJ : JJ x m M) (hN : ∀ M', JJ x m M' → gk_K Z Y 4 ρ 1206 (lkL b x m i) [] M' k) : gk_K Z Y 4 ρ 431 (lkL b x m i) [] M k := by
  obtain ⟨hC, hX, hY, hW, tx, tm, hi, hL⟩ := h
  obtain ⟨r, M1, M2, e1, e2, hJ2⟩ := j_restore hY hJ 
  refine gk_aload_n hC 1 dL_law_431 rfl rfl ?_
  refine lk_callV hC (fun l => m_X7_restore l hW x  M tx) e1 (gk_t3 (List.mem_of_getElem? (i := 41) rfl) rfl) lo_X7_restore dL_law_432 tx ⟨by decide, rfl⟩ rfl (by decide) (by show List.sum [] ≤ 8; decide) rfl rfl ?_
  refine gk_aload_n hC 2 dL_law_435 rfl rfl ?_
  refine lk_callV hC (fun l => m_X8_restore l hW m  M1 tm) e2 (gk_t5 (List.mem_of_getElem? (i := 94) rfl) rfl) lo_X8_restore dL_law_436 tm ⟨by decide, rfl⟩ rfl (by decide) (by show List.sum [1] ≤ 8; decide) rfl rfl ?_
  refine lk_eq hC (tg := 1206) dL_law_439 rfl ?_
  exact hN M2 hJ2
theorem lo_X7_wishTold : gk_OV yX7_wishTold cX7_wishTold 4 (some .int) 2 := ⟨(gk_t3 (List.mem_of_getElem? (i := 46) rfl) rfl), (gk_t3 (List.mem_of_getElem? (i := 47) rfl) rfl), (gk_t1 (List.mem_of_getElem? (i := 1) rfl) rfl), (gk_t3 (List.mem_of_getElem? (i := 48) rfl) rfl), by decide +kernel, by decide⟩
theorem lo_X8_wishTold : gk_OV yX8_wishTold cX8_wishTold 3 (some .int) 2 := ⟨(gk_t5 (List.mem_of_getElem? (i := 99) rfl) rfl), (gk_t5 (List.mem_of_getElem? (i := 100) rfl) rfl), (gk_t1 (List.mem_of_getElem? (i := 9) rfl) rfl), (gk_t5 (List.mem_of_getElem? (i := 101) rfl) rfl), by decide +kernel, by decide⟩
theorem lc_wishTold {Z : gk_Z} {Y : gk_Y} {α : Type} {ρ : α → Option Value × gk_M} {k : Option α} {b L x m i : Nat} {xs : Nat → Int32} {M : gk_M} (h : LC Z Y b L xs x m i) (hJ : JJ x m M) (hN : ∀ M', JJ x m M' → gk_K Z Y 4 ρ 1206 (lkL b x m i) [] M' k) : gk_K Z Y 4 ρ 444 (lkL b x m i) [] M k := by
  obtain ⟨hC, hX, hY, hW, tx, tm, hi, hL⟩ := h
  obtain ⟨r, e1, e2⟩ := a_wishTold hY hJ (xs (i + 1)) (xs (i + 2))
  refine gk_aload_n hC 1 dL_law_444 rfl rfl ?_
  refine lk_S hC hX hi hL (j := 1) (by decide) rfl dL_law_445 dL_law_446 dL_law_447 dL_law_448 dL_law_449 rfl ?_
  refine lk_S hC hX hi hL (j := 2) (by decide) rfl dL_law_450 dL_law_451 dL_law_452 dL_law_453 dL_law_454 rfl ?_
  refine lk_callV hC (fun l => m_X7_wishTold l hW x (xs (i + 1)) (xs (i + 2)) M tx) e1 (gk_t3 (List.mem_of_getElem? (i := 45) rfl) rfl) lo_X7_wishTold dL_law_455 tx ⟨by decide, rfl⟩ rfl (by decide) (by show List.sum [] ≤ 8; decide) rfl rfl ?_
  refine gk_aload_n hC 2 dL_law_458 rfl rfl ?_
  refine lk_S hC hX hi hL (j := 1) (by decide) rfl dL_law_459 dL_law_460 dL_law_461 dL_law_462 dL_law_463 rfl ?_
  refine lk_S hC hX hi hL (j := 2) (by decide) rfl dL_law_464 dL_law_465 dL_law_466 dL_law_467 dL_law_468 rfl ?_
  refine lk_callV hC (fun l => m_X8_wishTold l hW m (xs (i + 1)) (xs (i + 2)) M tm) e2 (gk_t5 (List.mem_of_getElem? (i := 98) rfl) rfl) lo_X8_wishTold dL_law_469 tm ⟨by decide, rfl⟩ rfl (by decide) (by show List.sum [1] ≤ 8; decide) rfl rfl ?_
  refine lk_eq hC (tg := 1206) dL_law_472 rfl ?_
  exact hN M hJ
theorem lo_X7_lineTold : gk_OV yX7_lineTold cX7_lineTold 3 (some .int) 2 := ⟨(gk_t3 (List.mem_of_getElem? (i := 50) rfl) rfl), (gk_t3 (List.mem_of_getElem? (i := 51) rfl) rfl), (gk_t1 (List.mem_of_getElem? (i := 1) rfl) rfl), (gk_t3 (List.mem_of_getElem? (i := 52) rfl) rfl), by decide +kernel, by decide⟩
theorem lo_X8_lineTold : gk_OV yX8_lineTold cX8_lineTold 7 (some .int) 2 := ⟨(gk_t5 (List.mem_of_getElem? (i := 103) rfl) rfl), (gk_t5 (List.mem_of_getElem? (i := 104) rfl) rfl), (gk_t1 (List.mem_of_getElem? (i := 9) rfl) rfl), (gk_t5 (List.mem_of_getElem? (i := 105) rfl) rfl), by decide +kernel, by decide⟩
theorem lc_lineTold {Z : gk_Z} {Y : gk_Y} {α : Type} {ρ : α → Option Value × gk_M} {k : Option α} {b L x m i : Nat} {xs : Nat → Int32} {M : gk_M} (h : LC Z Y b L xs x m i) (hJ : JJ x m M) (hN : ∀ M', JJ x m M' → gk_K Z Y 4 ρ 1206 (lkL b x m i) [] M' k) : gk_K Z Y 4 ρ 477 (lkL b x m i) [] M k := by
  obtain ⟨hC, hX, hY, hW, tx, tm, hi, hL⟩ := h
  obtain ⟨r, e1, e2⟩ := a_lineTold hY hJ (xs (i + 1)) (xs (i + 2))
  refine gk_aload_n hC 1 dL_law_477 rfl rfl ?_
  refine lk_S hC hX hi hL (j := 1) (by decide) rfl dL_law_478 dL_law_479 dL_law_480 dL_law_481 dL_law_482 rfl ?_
  refine lk_S hC hX hi hL (j := 2) (by decide) rfl dL_law_483 dL_law_484 dL_law_485 dL_law_486 dL_law_487 rfl ?_
  refine lk_callV hC (fun l => m_X7_lineTold l hW x (xs (i + 1)) (xs (i + 2)) M tx) e1 (gk_t3 (List.mem_of_getElem? (i := 49) rfl) rfl) lo_X7_lineTold dL_law_488 tx ⟨by decide, rfl⟩ rfl (by decide) (by show List.sum [] ≤ 8; decide) rfl rfl ?_
  refine gk_aload_n hC 2 dL_law_491 rfl rfl ?_
  refine lk_S hC hX hi hL (j := 1) (by decide) rfl dL_law_492 dL_law_493 dL_law_494 dL_law_495 dL_law_496 rfl ?_
  refine lk_S hC hX hi hL (j := 2) (by decide) rfl dL_law_497 dL_law_498 dL_law_499 dL_law_500 dL_law_501 rfl ?_
  refine lk_callV hC (fun l => m_X8_lineTold l hW m (xs (i + 1)) (xs (i + 2)) M tm) e2 (gk_t5 (List.mem_of_getElem? (i := 102) rfl) rfl) lo_X8_lineTold dL_law_502 tm ⟨by decide, rfl⟩ rfl (by decide) (by show List.sum [1] ≤ 8; decide) rfl rfl ?_
  refine lk_eq hC (tg := 1206) dL_law_505 rfl ?_
  exact hN M hJ
theorem lo_X7_call : gk_OV yX7_call cX7_call 4 (some .int) 2 := ⟨(gk_t3 (List.mem_of_getElem? (i := 66) rfl) rfl), (gk_t3 (List.mem_of_getElem? (i := 67) rfl) rfl), (gk_t1 (List.mem_of_getElem? (i := 1) rfl) rfl), (gk_t3 (List.mem_of_getElem? (i := 68) rfl) rfl), by decide +kernel, by decide⟩
theorem lo_X8_call : gk_OV yX8_call cX8_call 3 (some .int) 2 := ⟨(gk_t5 (List.mem_of_getElem? (i := 107) rfl) rfl), (gk_t5 (List.mem_of_getElem? (i := 108) rfl) rfl), (gk_t1 (List.mem_of_getElem? (i := 9) rfl) rfl), (gk_t5 (List.mem_of_getElem? (i := 109) rfl) rfl), by decide +kernel, by decide⟩
theorem lc_call {Z : gk_Z} {Y : gk_Y} {α : Type} {ρ : α → Option Value × gk_M} {k : Option α} {b L x m i : Nat} {xs : Nat → Int32} {M : gk_M} (h : LC Z Y b L xs x m i) (hJ : JJ x m M) (hN : ∀ M', JJ x m M' → gk_K Z Y 4 ρ 1206 (lkL b x m i) [] M' k) : gk_K Z Y 4 ρ 510 (lkL b x m i) [] M k := by
  obtain ⟨hC, hX, hY, hW, tx, tm, hi, hL⟩ := h
  obtain ⟨r, e1, e2⟩ := a_call hY hJ (xs (i + 1)) (xs (i + 2))
  refine gk_aload_n hC 1 dL_law_510 rfl rfl ?_
  refine lk_S hC hX hi hL (j := 1) (by decide) rfl dL_law_511 dL_law_512 dL_law_513 dL_law_514 dL_law_515 rfl ?_
  refine lk_S hC hX hi hL (j := 2) (by decide) rfl dL_law_516 dL_law_517 dL_law_518 dL_law_519 dL_law_520 rfl ?_
  refine lk_callV hC (fun l => m_X7_call l hW x (xs (i + 1)) (xs (i + 2)) M tx) e1 (gk_t3 (List.mem_of_getElem? (i := 65) rfl) rfl) lo_X7_call dL_law_521 tx ⟨by decide, rfl⟩ rfl (by decide) (by show List.sum [] ≤ 8; decide) rfl rfl ?_
  refine gk_aload_n hC 2 dL_law_524 rfl rfl ?_
  refine lk_S hC hX hi hL (j := 1) (by decide) rfl dL_law_525 dL_law_526 dL_law_527 dL_law_528 dL_law_529 rfl ?_
  refine lk_S hC hX hi hL (j := 2) (by decide) rfl dL_law_530 dL_law_531 dL_law_532 dL_law_533 dL_law_534 rfl ?_
  refine lk_callV hC (fun l => m_X8_call l hW m (xs (i + 1)) (xs (i + 2)) M tm) e2 (gk_t5 (List.mem_of_getElem? (i := 106) rfl) rfl) lo_X8_call dL_law_535 tm ⟨by decide, rfl⟩ rfl (by decide) (by show List.sum [1] ≤ 8; decide) rfl rfl ?_
  refine lk_eq hC (tg := 1206) dL_law_538 rfl ?_
  exact hN M hJ
theorem lo_X7_row : gk_OV yX7_row cX7_row 3 (some .int) 2 := ⟨(gk_t3 (List.mem_of_getElem? (i := 71) rfl) rfl), (gk_t3 (List.mem_of_getElem? (i := 72) rfl) rfl), (gk_t1 (List.mem_of_getElem? (i := 1) rfl) rfl), (gk_t3 (List.mem_of_getElem? (i := 73) rfl) rfl), by decide +kernel, by decide⟩
theorem lo_X8_row : gk_OV yX8_row cX8_row 3 (some .int) 2 := ⟨(gk_t5 (List.mem_of_getElem? (i := 115) rfl) rfl), (gk_t5 (List.mem_of_getElem? (i := 116) rfl) rfl), (gk_t1 (List.mem_of_getElem? (i := 9) rfl) rfl), (gk_t5 (List.mem_of_getElem? (i := 117) rfl) rfl), by decide +kernel, by decide⟩
theorem lc_row {Z : gk_Z} {Y : gk_Y} {α : Type} {ρ : α → Option Value × gk_M} {k : Option α} {b L x m i : Nat} {xs : Nat → Int32} {M : gk_M} (h : LC Z Y b L xs x m i) (hJ : JJ x m M) (hN : ∀ M', JJ x m M' → gk_K Z Y 4 ρ 1206 (lkL b x m i) [] M' k) : gk_K Z Y 4 ρ 543 (lkL b x m i) [] M k := by
  obtain ⟨hC, hX, hY, hW, tx, tm, hi, hL⟩ := h
  obtain ⟨r, e1, e2⟩ := a_row hY hJ (xs (i + 1)) (xs (i + 2))
  refine gk_aload_n hC 1 dL_law_543 rfl rfl ?_
  refine lk_S hC hX hi hL (j := 1) (by decide) rfl dL_law_544 dL_law_545 dL_law_546 dL_law_547 dL_law_548 rfl ?_
  refine lk_S hC hX hi hL (j := 2) (by decide) rfl dL_law_549 dL_law_550 dL_law_551 dL_law_552 dL_law_553 rfl ?_
  refine lk_callV hC (fun l => m_X7_row l hW x (xs (i + 1)) (xs (i + 2)) M tx) e1 (gk_t3 (List.mem_of_getElem? (i := 70) rfl) rfl) lo_X7_row dL_law_554 tx ⟨by decide, rfl⟩ rfl (by decide) (by show List.sum [] ≤ 8; decide) rfl rfl ?_
  refine gk_aload_n hC 2 dL_law_557 rfl rfl ?_
  refine lk_S hC hX hi hL (j := 1) (by decide) rfl dL_law_558 dL_law_559 dL_law_560 dL_law_561 dL_law_562 rfl ?_
  refine lk_S hC hX hi hL (j := 2) (by decide) rfl dL_law_563 dL_law_564 dL_law_565 dL_law_566 dL_law_567 rfl ?_
  refine lk_callV hC (fun l => m_X8_row l hW m (xs (i + 1)) (xs (i + 2)) M tm) e2 (gk_t5 (List.mem_of_getElem? (i := 114) rfl) rfl) lo_X8_row dL_law_568 tm ⟨by decide, rfl⟩ rfl (by decide) (by show List.sum [1] ≤ 8; decide) rfl rfl ?_
  refine lk_eq hC (tg := 1206) dL_law_571 rfl ?_
  exact hN M hJ
theorem lo_X7_piece : gk_OV yX7_piece cX7_piece 3 (some .int) 2 := ⟨(gk_t3 (List.mem_of_getElem? (i := 76) rfl) rfl), (gk_t3 (List.mem_of_getElem? (i := 77) rfl) rfl), (gk_t1 (List.mem_of_getElem? (i := 1) rfl) rfl), (gk_t3 (List.mem_of_getElem? (i := 78) rfl) rfl), by decide +kernel, by decide⟩
theorem lo_X8_piece : gk_OV yX8_piece cX8_piece 3 (some .int) 2 := ⟨(gk_t5 (List.mem_of_getElem? (i := 119) rfl) rfl), (gk_t5 (List.mem_of_getElem? (i := 120) rfl) rfl), (gk_t1 (List.mem_of_getElem? (i := 9) rfl) rfl), (gk_t5 (List.mem_of_getElem? (i := 121) rfl) rfl), by decide +kernel, by decide⟩
theorem lc_piece {Z : gk_Z} {Y : gk_Y} {α : Type} {ρ : α → Option Value × gk_M} {k : Option α} {b L x m i : Nat} {xs : Nat → Int32} {M : gk_M} (h : LC Z Y b L xs x m i) (hJ : JJ x m M) (hN : ∀ M', JJ x m M' → gk_K Z Y 4 ρ 1206 (lkL b x m i) [] M' k) : gk_K Z Y 4 ρ 576 (lkL b x m i) [] M k := by
  obtain ⟨hC, hX, hY, hW, tx, tm, hi, hL⟩ := h
  obtain ⟨r, e1, e2⟩ := a_piece hY hJ (xs (i + 1)) (xs (i + 2))
  refine gk_aload_n hC 1 dL_law_576 rfl rfl ?_
  refine lk_S hC hX hi hL (j := 1) (by decide) rfl dL_law_577 dL_law_578 dL_law_579 dL_law_580 dL_law_581 rfl ?_
  refine lk_S hC hX hi hL (j := 2) (by decide) rfl dL_law_582 dL_law_583 dL_law_584 dL_law_585 dL_law_586 rfl ?_
  refine lk_callV hC (fun l => m_X7_piece l hW x (xs (i + 1)) (xs (i + 2)) M tx) e1 (gk_t3 (List.mem_of_getElem? (i := 75) rfl) rfl) lo_X7_piece dL_law_587 tx ⟨by decide, rfl⟩ rfl (by decide) (by show List.sum [] ≤ 8; decide) rfl rfl ?_
  refine gk_aload_n hC 2 dL_law_590 rfl rfl ?_
  refine lk_S hC hX hi hL (j := 1) (by decide) rfl dL_law_591 dL_law_592 dL_law_593 dL_law_594 dL_law_595 rfl ?_
  refine lk_S hC hX hi hL (j := 2) (by decide) rfl dL_law_596 dL_law_597 dL_law_598 dL_law_599 dL_law_600 rfl ?_
  refine lk_callV hC (fun l => m_X8_piece l hW m (xs (i + 1)) (xs (i + 2)) M tm) e2 (gk_t5 (List.mem_of_getElem? (i := 118) rfl) rfl) lo_X8_piece dL_law_601 tm ⟨by decide, rfl⟩ rfl (by decide) (by show List.sum [1] ≤ 8; decide) rfl rfl ?_
  refine lk_eq hC (tg := 1206) dL_law_604 rfl ?_
  exact hN M hJ
theorem lo_X7_acted : gk_OV yX7_acted cX7_acted 3 (some .int) 2 := ⟨(gk_t3 (List.mem_of_getElem? (i := 81) rfl) rfl), (gk_t3 (List.mem_of_getElem? (i := 82) rfl) rfl), (gk_t1 (List.mem_of_getElem? (i := 1) rfl) rfl), (gk_t3 (List.mem_of_getElem? (i := 83) rfl) rfl), by decide +kernel, by decide⟩
theorem lo_X8_acted : gk_OV yX8_acted cX8_acted 3 (some .int) 2 := ⟨(gk_t5 (List.mem_of_getElem? (i := 123) rfl) rfl), (gk_t5 (List.mem_of_getElem? (i := 124) rfl) rfl), (gk_t1 (List.mem_of_getElem? (i := 9) rfl) rfl), (gk_t5 (List.mem_of_getElem? (i := 125) rfl) rfl), by decide +kernel, by decide⟩
theorem lc_acted {Z : gk_Z} {Y : gk_Y} {α : Type} {ρ : α → Option Value × gk_M} {k : Option α} {b L x m i : Nat} {xs : Nat → Int32} {M : gk_M} (h : LC Z Y b L xs x m i) (hJ : JJ x m M) (hN : ∀ M', JJ x m M' → gk_K Z Y 4 ρ 1206 (lkL b x m i) [] M' k) : gk_K Z Y 4 ρ 609 (lkL b x m i) [] M k := by
  obtain ⟨hC, hX, hY, hW, tx, tm, hi, hL⟩ := h
  obtain ⟨r, e1, e2⟩ := a_acted hY hJ (xs (i + 1)) (xs (i + 2))
  refine gk_aload_n hC 1 dL_law_609 rfl rfl ?_
  refine lk_S hC hX hi hL (j := 1) (by decide) rfl dL_law_610 dL_law_611 dL_law_612 dL_law_613 dL_law_614 rfl ?_
  refine lk_S hC hX hi hL (j := 2) (by decide) rfl dL_law_615 dL_law_616 dL_law_617 dL_law_618 dL_law_619 rfl ?_
  refine lk_callV hC (fun l => m_X7_acted l hW x (xs (i + 1)) (xs (i + 2)) M tx) e1 (gk_t3 (List.mem_of_getElem? (i := 80) rfl) rfl) lo_X7_acted dL_law_620 tx ⟨by decide, rfl⟩ rfl (by decide) (by show List.sum [] ≤ 8; decide) rfl rfl ?_
  refine gk_aload_n hC 2 dL_law_623 rfl rfl ?_
  refine lk_S hC hX hi hL (j := 1) (by decide) rfl dL_law_624 dL_law_625 dL_law_626 dL_law_627 dL_law_628 rfl ?_
  refine lk_S hC hX hi hL (j := 2) (by decide) rfl dL_law_629 dL_law_630 dL_law_631 dL_law_632 dL_law_633 rfl ?_
  refine lk_callV hC (fun l => m_X8_acted l hW m (xs (i + 1)) (xs (i + 2)) M tm) e2 (gk_t5 (List.mem_of_getElem? (i := 122) rfl) rfl) lo_X8_acted dL_law_634 tm ⟨by decide, rfl⟩ rfl (by decide) (by show List.sum [1] ≤ 8; decide) rfl rfl ?_
  refine lk_eq hC (tg := 1206) dL_law_637 rfl ?_
  exact hN M hJ
theorem lo_X7_tells : gk_OV yX7_tells cX7_tells 3 (some .int) 2 := ⟨(gk_t3 (List.mem_of_getElem? (i := 90) rfl) rfl), (gk_t3 (List.mem_of_getElem? (i := 91) rfl) rfl), (gk_t1 (List.mem_of_getElem? (i := 1) rfl) rfl), (gk_t3 (List.mem_of_getElem? (i := 92) rfl) rfl), by decide +kernel, by decide⟩
theorem lo_X8_tells : gk_OV yX8_tells cX8_tells 3 (some .int) 2 := ⟨(gk_t5 (List.mem_of_getElem? (i := 127) rfl) rfl), (gk_t5 (List.mem_of_getElem? (i := 128) rfl) rfl), (gk_t1 (List.mem_of_getElem? (i := 9) rfl) rfl), (gk_t5 (List.mem_of_getElem? (i := 129) rfl) rfl), by decide +kernel, by decide⟩
theorem lc_tells {Z : gk_Z} {Y : gk_Y} {α : Type} {ρ : α → Option Value × gk_M} {k : Option α} {b L x m i : Nat} {xs : Nat → Int32} {M : gk_M} (h : LC Z Y b L xs x m i) (hJ : JJ x m M) (hN : ∀ M', JJ x m M' → gk_K Z Y 4 ρ 1206 (lkL b x m i) [] M' k) : gk_K Z Y 4 ρ 642 (lkL b x m i) [] M k := by
  obtain ⟨hC, hX, hY, hW, tx, tm, hi, hL⟩ := h
  obtain ⟨r, e1, e2⟩ := a_tells hY hJ (xs (i + 1)) (xs (i + 2))
  refine gk_aload_n hC 1 dL_law_642 rfl rfl ?_
  refine lk_S hC hX hi hL (j := 1) (by decide) rfl dL_law_643 dL_law_644 dL_law_645 dL_law_646 dL_law_647 rfl ?_
  refine lk_S hC hX hi hL (j := 2) (by decide) rfl dL_law_648 dL_law_649 dL_law_650 dL_law_651 dL_law_652 rfl ?_
  refine lk_callV hC (fun l => m_X7_tells l hW x (xs (i + 1)) (xs (i + 2)) M tx) e1 (gk_t3 (List.mem_of_getElem? (i := 89) rfl) rfl) lo_X7_tells dL_law_653 tx ⟨by decide, rfl⟩ rfl (by decide) (by show List.sum [] ≤ 8; decide) rfl rfl ?_
  refine gk_aload_n hC 2 dL_law_656 rfl rfl ?_
  refine lk_S hC hX hi hL (j := 1) (by decide) rfl dL_law_657 dL_law_658 dL_law_659 dL_law_660 dL_law_661 rfl ?_
  refine lk_S hC hX hi hL (j := 2) (by decide) rfl dL_law_662 dL_law_663 dL_law_664 dL_law_665 dL_law_666 rfl ?_
  refine lk_callV hC (fun l => m_X8_tells l hW m (xs (i + 1)) (xs (i + 2)) M tm) e2 (gk_t5 (List.mem_of_getElem? (i := 126) rfl) rfl) lo_X8_tells dL_law_667 tm ⟨by decide, rfl⟩ rfl (by decide) (by show List.sum [1] ≤ 8; decide) rfl rfl ?_
  refine lk_eq hC (tg := 1206) dL_law_670 rfl ?_
  exact hN M hJ
theorem lo_X7_backs : gk_OV yX7_backs cX7_backs 3 (some .int) 2 := ⟨(gk_t3 (List.mem_of_getElem? (i := 102) rfl) rfl), (gk_t3 (List.mem_of_getElem? (i := 103) rfl) rfl), (gk_t1 (List.mem_of_getElem? (i := 1) rfl) rfl), (gk_t3 (List.mem_of_getElem? (i := 104) rfl) rfl), by decide +kernel, by decide⟩
theorem lo_X8_backs : gk_OV yX8_backs cX8_backs 3 (some .int) 2 := ⟨(gk_t5 (List.mem_of_getElem? (i := 135) rfl) rfl), (gk_t5 (List.mem_of_getElem? (i := 136) rfl) rfl), (gk_t1 (List.mem_of_getElem? (i := 9) rfl) rfl), (gk_t5 (List.mem_of_getElem? (i := 137) rfl) rfl), by decide +kernel, by decide⟩
theorem lc_backs {Z : gk_Z} {Y : gk_Y} {α : Type} {ρ : α → Option Value × gk_M} {k : Option α} {b L x m i : Nat} {xs : Nat → Int32} {M : gk_M} (h : LC Z Y b L xs x m i) (hJ : JJ x m M) (hN : ∀ M', JJ x m M' → gk_K Z Y 4 ρ 1206 (lkL b x m i) [] M' k) : gk_K Z Y 4 ρ 675 (lkL b x m i) [] M k := by
  obtain ⟨hC, hX, hY, hW, tx, tm, hi, hL⟩ := h
  obtain ⟨r, e1, e2⟩ := a_backs hY hJ (xs (i + 1)) (xs (i + 2))
  refine gk_aload_n hC 1 dL_law_675 rfl rfl ?_
  refine lk_S hC hX hi hL (j := 1) (by decide) rfl dL_law_676 dL_law_677 dL_law_678 dL_law_679 dL_law_680 rfl ?_
  refine lk_S hC hX hi hL (j := 2) (by decide) rfl dL_law_681 dL_law_682 dL_law_683 dL_law_684 dL_law_685 rfl ?_
  refine lk_callV hC (fun l => m_X7_backs l hW x (xs (i + 1)) (xs (i + 2)) M tx) e1 (gk_t3 (List.mem_of_getElem? (i := 101) rfl) rfl) lo_X7_backs dL_law_686 tx ⟨by decide, rfl⟩ rfl (by decide) (by show List.sum [] ≤ 8; decide) rfl rfl ?_
  refine gk_aload_n hC 2 dL_law_689 rfl rfl ?_
  refine lk_S hC hX hi hL (j := 1) (by decide) rfl dL_law_690 dL_law_691 dL_law_692 dL_law_693 dL_law_694 rfl ?_
  refine lk_S hC hX hi hL (j := 2) (by decide) rfl dL_law_695 dL_law_696 dL_law_697 dL_law_698 dL_law_699 rfl ?_
  refine lk_callV hC (fun l => m_X8_backs l hW m (xs (i + 1)) (xs (i + 2)) M tm) e2 (gk_t5 (List.mem_of_getElem? (i := 134) rfl) rfl) lo_X8_backs dL_law_700 tm ⟨by decide, rfl⟩ rfl (by decide) (by show List.sum [1] ≤ 8; decide) rfl rfl ?_
  refine lk_eq hC (tg := 1206) dL_law_703 rfl ?_
  exact hN M hJ
theorem lo_X7_judge : gk_OV yX7_judge cX7_judge 6 (some .int) 5 := ⟨(gk_t3 (List.mem_of_getElem? (i := 106) rfl) rfl), (gk_t3 (List.mem_of_getElem? (i := 107) rfl) rfl), (gk_t1 (List.mem_of_getElem? (i := 1) rfl) rfl), (gk_t3 (List.mem_of_getElem? (i := 108) rfl) rfl), by decide +kernel, by decide⟩
theorem lo_X8_judge : gk_OV yX8_judge cX8_judge 7 (some .int) 5 := ⟨(gk_t5 (List.mem_of_getElem? (i := 139) rfl) rfl), (gk_t5 (List.mem_of_getElem? (i := 140) rfl) rfl), (gk_t1 (List.mem_of_getElem? (i := 9) rfl) rfl), (gk_t5 (List.mem_of_getElem? (i := 141) rfl) rfl), by decide +kernel, by decide⟩
theorem lc_judge {Z : gk_Z} {Y : gk_Y} {α : Type} {ρ : α → Option Value × gk_M} {k : Option α} {b L x m i : Nat} {xs : Nat → Int32} {M : gk_M} (h : LC Z Y b L xs x m i) (hJ : JJ x m M) (hN : ∀ M', JJ x m M' → gk_K Z Y 4 ρ 1206 (lkL b x m i) [] M' k) : gk_K Z Y 4 ρ 708 (lkL b x m i) [] M k := by
  obtain ⟨hC, hX, hY, hW, tx, tm, hi, hL⟩ := h
  obtain ⟨r, M1, M2, e1, e2, hJ2⟩ := j_judge hY hJ (xs (i + 1)) (xs (i + 2)) (xs (i + 3)) (xs (i + 4)) (xs (i + 5))
  refine gk_aload_n hC 1 dL_law_708 rfl rfl ?_
  refine lk_S hC hX hi hL (j := 1) (by decide) rfl dL_law_709 dL_law_710 dL_law_711 dL_law_712 dL_law_713 rfl ?_
  refine lk_S hC hX hi hL (j := 2) (by decide) rfl dL_law_714 dL_law_715 dL_law_716 dL_law_717 dL_law_718 rfl ?_
  refine lk_S hC hX hi hL (j := 3) (by decide) rfl dL_law_719 dL_law_720 dL_law_721 dL_law_722 dL_law_723 rfl ?_
  refine lk_S hC hX hi hL (j := 4) (by decide) rfl dL_law_724 dL_law_725 dL_law_726 dL_law_727 dL_law_728 rfl ?_
  refine lk_S hC hX hi hL (j := 5) (by decide) rfl dL_law_729 dL_law_730 dL_law_731 dL_law_732 dL_law_733 rfl ?_
  refine lk_callV hC (fun l => m_X7_judge l hW x (xs (i + 1)) (xs (i + 2)) (xs (i + 3)) (xs (i + 4)) (xs (i + 5)) M tx) e1 (gk_t3 (List.mem_of_getElem? (i := 105) rfl) rfl) lo_X7_judge dL_law_734 tx ⟨by decide, rfl⟩ rfl (by decide) (by show List.sum [] ≤ 8; decide) rfl rfl ?_
  refine gk_aload_n hC 2 dL_law_737 rfl rfl ?_
  refine lk_S hC hX hi hL (j := 1) (by decide) rfl dL_law_738 dL_law_739 dL_law_740 dL_law_741 dL_law_742 rfl ?_
  refine lk_S hC hX hi hL (j := 2) (by decide) rfl dL_law_743 dL_law_744 dL_law_745 dL_law_746 dL_law_747 rfl ?_
  refine lk_S hC hX hi hL (j := 3) (by decide) rfl dL_law_748 dL_law_749 dL_law_750 dL_law_751 dL_law_752 rfl ?_
  refine lk_S hC hX hi hL (j := 4) (by decide) rfl dL_law_753 dL_law_754 dL_law_755 dL_law_756 dL_law_757 rfl ?_
  refine lk_S hC hX hi hL (j := 5) (by decide) rfl dL_law_758 dL_law_759 dL_law_760 dL_law_761 dL_law_762 rfl ?_
  refine lk_callV hC (fun l => m_X8_judge l hW m (xs (i + 1)) (xs (i + 2)) (xs (i + 3)) (xs (i + 4)) (xs (i + 5)) M1 tm) e2 (gk_t5 (List.mem_of_getElem? (i := 138) rfl) rfl) lo_X8_judge dL_law_763 tm ⟨by decide, rfl⟩ rfl (by decide) (by show List.sum [1] ≤ 8; decide) rfl rfl ?_
  refine lk_eq hC (tg := 1206) dL_law_766 rfl ?_
  exact hN M2 hJ2
theorem lo_X7_actOf : gk_OV yX7_actOf cX7_actOf 2 (some .int) 1 := ⟨(gk_t3 (List.mem_of_getElem? (i := 163) rfl) rfl), (gk_t3 (List.mem_of_getElem? (i := 164) rfl) rfl), (gk_t1 (List.mem_of_getElem? (i := 1) rfl) rfl), (gk_t3 (List.mem_of_getElem? (i := 165) rfl) rfl), by decide +kernel, by decide⟩
theorem lo_X8_actOf : gk_OV yX8_actOf cX8_actOf 2 (some .int) 1 := ⟨(gk_t5 (List.mem_of_getElem? (i := 180) rfl) rfl), (gk_t5 (List.mem_of_getElem? (i := 181) rfl) rfl), (gk_t1 (List.mem_of_getElem? (i := 9) rfl) rfl), (gk_t5 (List.mem_of_getElem? (i := 182) rfl) rfl), by decide +kernel, by decide⟩
theorem lc_actOf {Z : gk_Z} {Y : gk_Y} {α : Type} {ρ : α → Option Value × gk_M} {k : Option α} {b L x m i : Nat} {xs : Nat → Int32} {M : gk_M} (h : LC Z Y b L xs x m i) (hJ : JJ x m M) (hN : ∀ M', JJ x m M' → gk_K Z Y 4 ρ 1206 (lkL b x m i) [] M' k) : gk_K Z Y 4 ρ 771 (lkL b x m i) [] M k := by
  obtain ⟨hC, hX, hY, hW, tx, tm, hi, hL⟩ := h
  obtain ⟨r, e1, e2⟩ := a_actOf hY hJ (xs (i + 1))
  refine gk_aload_n hC 1 dL_law_771 rfl rfl ?_
  refine lk_S hC hX hi hL (j := 1) (by decide) rfl dL_law_772 dL_law_773 dL_law_774 dL_law_775 dL_law_776 rfl ?_
  refine lk_callV hC (fun l => m_X7_actOf l hW x (xs (i + 1)) M tx) e1 (gk_t3 (List.mem_of_getElem? (i := 162) rfl) rfl) lo_X7_actOf dL_law_777 tx ⟨by decide, rfl⟩ rfl (by decide) (by show List.sum [] ≤ 8; decide) rfl rfl ?_
  refine gk_aload_n hC 2 dL_law_780 rfl rfl ?_
  refine lk_S hC hX hi hL (j := 1) (by decide) rfl dL_law_781 dL_law_782 dL_law_783 dL_law_784 dL_law_785 rfl ?_
  refine lk_callV hC (fun l => m_X8_actOf l hW m (xs (i + 1)) M tm) e2 (gk_t5 (List.mem_of_getElem? (i := 179) rfl) rfl) lo_X8_actOf dL_law_786 tm ⟨by decide, rfl⟩ rfl (by decide) (by show List.sum [1] ≤ 8; decide) rfl rfl ?_
  refine lk_eq hC (tg := 1206) dL_law_789 rfl ?_
  exact hN M hJ
theorem lo_X7_alone : gk_OV yX7_alone cX7_alone 7 (some .int) 5 := ⟨(gk_t3 (List.mem_of_getElem? (i := 167) rfl) rfl), (gk_t3 (List.mem_of_getElem? (i := 168) rfl) rfl), (gk_t1 (List.mem_of_getElem? (i := 1) rfl) rfl), (gk_t3 (List.mem_of_getElem? (i := 169) rfl) rfl), by decide +kernel, by decide⟩
theorem lo_X8_alone : gk_OV yX8_alone cX8_alone 9 (some .int) 5 := ⟨(gk_t5 (List.mem_of_getElem? (i := 184) rfl) rfl), (gk_t5 (List.mem_of_getElem? (i := 185) rfl) rfl), (gk_t1 (List.mem_of_getElem? (i := 9) rfl) rfl), (gk_t5 (List.mem_of_getElem? (i := 186) rfl) rfl), by decide +kernel, by decide⟩
theorem lc_alone {Z : gk_Z} {Y : gk_Y} {α : Type} {ρ : α → Option Value × gk_M} {k : Option α} {b L x m i : Nat} {xs : Nat → Int32} {M : gk_M} (h : LC Z Y b L xs x m i) (hJ : JJ x m M) (hN : ∀ M', JJ x m M' → gk_K Z Y 4 ρ 1206 (lkL b x m i) [] M' k) : gk_K Z Y 4 ρ 794 (lkL b x m i) [] M k := by
  obtain ⟨hC, hX, hY, hW, tx, tm, hi, hL⟩ := h
  obtain ⟨r, M1, M2, e1, e2, hJ2⟩ := j_alone hY hJ (xs (i + 1)) (xs (i + 2)) (xs (i + 3)) (xs (i + 4)) (xs (i + 5))
  refine gk_aload_n hC 1 dL_law_794 rfl rfl ?_
  refine lk_S hC hX hi hL (j := 1) (by decide) rfl dL_law_795 dL_law_796 dL_law_797 dL_law_798 dL_law_799 rfl ?_
  refine lk_S hC hX hi hL (j := 2) (by decide) rfl dL_law_800 dL_law_801 dL_law_802 dL_law_803 dL_law_804 rfl ?_
  refine lk_S hC hX hi hL (j := 3) (by decide) rfl dL_law_805 dL_law_806 dL_law_807 dL_law_808 dL_law_809 rfl ?_
  refine lk_S hC hX hi hL (j := 4) (by decide) rfl dL_law_810 dL_law_811 dL_law_812 dL_law_813 dL_law_814 rfl ?_
  refine lk_S hC hX hi hL (j := 5) (by decide) rfl dL_law_815 dL_law_816 dL_law_817 dL_law_818 dL_law_819 rfl ?_
  refine lk_callV hC (fun l => m_X7_alone l hW x (xs (i + 1)) (xs (i + 2)) (xs (i + 3)) (xs (i + 4)) (xs (i + 5)) M tx) e1 (gk_t3 (List.mem_of_getElem? (i := 166) rfl) rfl) lo_X7_alone dL_law_820 tx ⟨by decide, rfl⟩ rfl (by decide) (by show List.sum [] ≤ 8; decide) rfl rfl ?_
  refine gk_aload_n hC 2 dL_law_823 rfl rfl ?_
  refine lk_S hC hX hi hL (j := 1) (by decide) rfl dL_law_824 dL_law_825 dL_law_826 dL_law_827 dL_law_828 rfl ?_
  refine lk_S hC hX hi hL (j := 2) (by decide) rfl dL_law_829 dL_law_830 dL_law_831 dL_law_832 dL_law_833 rfl ?_
  refine lk_S hC hX hi hL (j := 3) (by decide) rfl dL_law_834 dL_law_835 dL_law_836 dL_law_837 dL_law_838 rfl ?_
  refine lk_S hC hX hi hL (j := 4) (by decide) rfl dL_law_839 dL_law_840 dL_law_841 dL_law_842 dL_law_843 rfl ?_
  refine lk_S hC hX hi hL (j := 5) (by decide) rfl dL_law_844 dL_law_845 dL_law_846 dL_law_847 dL_law_848 rfl ?_
  refine lk_callV hC (fun l => m_X8_alone l hW m (xs (i + 1)) (xs (i + 2)) (xs (i + 3)) (xs (i + 4)) (xs (i + 5)) M1 tm) e2 (gk_t5 (List.mem_of_getElem? (i := 183) rfl) rfl) lo_X8_alone dL_law_849 tm ⟨by decide, rfl⟩ rfl (by decide) (by show List.sum [1] ≤ 8; decide) rfl rfl ?_
  refine lk_eq hC (tg := 1206) dL_law_852 rfl ?_
  exact hN M2 hJ2
theorem lo_X7_peace : gk_OV yX7_peace cX7_peace 10 (some .int) 6 := ⟨(gk_t3 (List.mem_of_getElem? (i := 180) rfl) rfl), (gk_t3 (List.mem_of_getElem? (i := 181) rfl) rfl), (gk_t1 (List.mem_of_getElem? (i := 1) rfl) rfl), (gk_t3 (List.mem_of_getElem? (i := 182) rfl) rfl), by decide +kernel, by decide⟩
theorem lo_X8_peace : gk_OV yX8_peace cX8_peace 10 (some .int) 6 := ⟨(gk_t5 (List.mem_of_getElem? (i := 192) rfl) rfl), (gk_t5 (List.mem_of_getElem? (i := 193) rfl) rfl), (gk_t1 (List.mem_of_getElem? (i := 9) rfl) rfl), (gk_t5 (List.mem_of_getElem? (i := 194) rfl) rfl), by decide +kernel, by decide⟩
theorem lc_peace {Z : gk_Z} {Y : gk_Y} {α : Type} {ρ : α → Option Value × gk_M} {k : Option α} {b L x m i : Nat} {xs : Nat → Int32} {M : gk_M} (h : LC Z Y b L xs x m i) (hJ : JJ x m M) (hN : ∀ M', JJ x m M' → gk_K Z Y 4 ρ 1206 (lkL b x m i) [] M' k) : gk_K Z Y 4 ρ 857 (lkL b x m i) [] M k := by
  obtain ⟨hC, hX, hY, hW, tx, tm, hi, hL⟩ := h
  obtain ⟨r, M1, M2, e1, e2, hJ2⟩ := j_peace hY hJ (xs (i + 1)) (xs (i + 2)) (xs (i + 3)) (xs (i + 4)) (xs (i + 5)) (xs (i + 6))
  refine gk_aload_n hC 1 dL_law_857 rfl rfl ?_
  refine lk_S hC hX hi hL (j := 1) (by decide) rfl dL_law_858 dL_law_859 dL_law_860 dL_law_861 dL_law_862 rfl ?_
  refine lk_S hC hX hi hL (j := 2) (by decide) rfl dL_law_863 dL_law_864 dL_law_865 dL_law_866 dL_law_867 rfl ?_
  refine lk_S hC hX hi hL (j := 3) (by decide) rfl dL_law_868 dL_law_869 dL_law_870 dL_law_871 dL_law_872 rfl ?_
  refine lk_S hC hX hi hL (j := 4) (by decide) rfl dL_law_873 dL_law_874 dL_law_875 dL_law_876 dL_law_877 rfl ?_
  refine lk_S hC hX hi hL (j := 5) (by decide) rfl dL_law_878 dL_law_879 dL_law_880 dL_law_881 dL_law_882 rfl ?_
  refine lk_S6 hC hX hi hL dL_law_883 dL_law_884 dL_law_885 dL_law_887 dL_law_888 rfl ?_
  refine lk_callV hC (fun l => m_X7_peace l hW x (xs (i + 1)) (xs (i + 2)) (xs (i + 3)) (xs (i + 4)) (xs (i + 5)) (xs (i + 6)) M tx) e1 (gk_t3 (List.mem_of_getElem? (i := 179) rfl) rfl) lo_X7_peace dL_law_889 tx ⟨by decide, rfl⟩ rfl (by decide) (by show List.sum [] ≤ 8; decide) rfl rfl ?_
  refine gk_aload_n hC 2 dL_law_892 rfl rfl ?_
  refine lk_S hC hX hi hL (j := 1) (by decide) rfl dL_law_893 dL_law_894 dL_law_895 dL_law_896 dL_law_897 rfl ?_
  refine lk_S hC hX hi hL (j := 2) (by decide) rfl dL_law_898 dL_law_899 dL_law_900 dL_law_901 dL_law_902 rfl ?_
  refine lk_S hC hX hi hL (j := 3) (by decide) rfl dL_law_903 dL_law_904 dL_law_905 dL_law_906 dL_law_907 rfl ?_
  refine lk_S hC hX hi hL (j := 4) (by decide) rfl dL_law_908 dL_law_909 dL_law_910 dL_law_911 dL_law_912 rfl ?_
  refine lk_S hC hX hi hL (j := 5) (by decide) rfl dL_law_913 dL_law_914 dL_law_915 dL_law_916 dL_law_917 rfl ?_
  refine lk_S6 hC hX hi hL dL_law_918 dL_law_919 dL_law_920 dL_law_922 dL_law_923 rfl ?_
  refine lk_callV hC (fun l => m_X8_peace l hW m (xs (i + 1)) (xs (i + 2)) (xs (i + 3)) (xs (i + 4)) (xs (i + 5)) (xs (i + 6)) M1 tm) e2 (gk_t5 (List.mem_of_getElem? (i := 191) rfl) rfl) lo_X8_peace dL_law_924 tm ⟨by decide, rfl⟩ rfl (by decide) (by show List.sum [1] ≤ 8; decide) rfl rfl ?_
  refine lk_eq hC (tg := 1206) dL_law_927 rfl ?_
  exact hN M2 hJ2
theorem lo_X7_count : gk_OV yX7_count cX7_count 2 (some .int) 1 := ⟨(gk_t3 (List.mem_of_getElem? (i := 185) rfl) rfl), (gk_t3 (List.mem_of_getElem? (i := 186) rfl) rfl), (gk_t1 (List.mem_of_getElem? (i := 1) rfl) rfl), (gk_t3 (List.mem_of_getElem? (i := 187) rfl) rfl), by decide +kernel, by decide⟩
theorem lo_X8_count : gk_OV yX8_count cX8_count 4 (some .int) 1 := ⟨(gk_t5 (List.mem_of_getElem? (i := 196) rfl) rfl), (gk_t5 (List.mem_of_getElem? (i := 197) rfl) rfl), (gk_t1 (List.mem_of_getElem? (i := 9) rfl) rfl), (gk_t5 (List.mem_of_getElem? (i := 198) rfl) rfl), by decide +kernel, by decide⟩
theorem lc_count {Z : gk_Z} {Y : gk_Y} {α : Type} {ρ : α → Option Value × gk_M} {k : Option α} {b L x m i : Nat} {xs : Nat → Int32} {M : gk_M} (h : LC Z Y b L xs x m i) (hJ : JJ x m M) (hN : ∀ M', JJ x m M' → gk_K Z Y 4 ρ 1206 (lkL b x m i) [] M' k) : gk_K Z Y 4 ρ 932 (lkL b x m i) [] M k := by
  obtain ⟨hC, hX, hY, hW, tx, tm, hi, hL⟩ := h
  obtain ⟨r, e1, e2⟩ := a_count hY hJ (xs (i + 1))
  refine gk_aload_n hC 1 dL_law_932 rfl rfl ?_
  refine lk_S hC hX hi hL (j := 1) (by decide) rfl dL_law_933 dL_law_934 dL_law_935 dL_law_936 dL_law_937 rfl ?_
  refine lk_callV hC (fun l => m_X7_count l hW x (xs (i + 1)) M tx) e1 (gk_t3 (List.mem_of_getElem? (i := 184) rfl) rfl) lo_X7_count dL_law_938 tx ⟨by decide, rfl⟩ rfl (by decide) (by show List.sum [] ≤ 8; decide) rfl rfl ?_
  refine gk_aload_n hC 2 dL_law_941 rfl rfl ?_
  refine lk_S hC hX hi hL (j := 1) (by decide) rfl dL_law_942 dL_law_943 dL_law_944 dL_law_945 dL_law_946 rfl ?_
  refine lk_callV hC (fun l => m_X8_count l hW m (xs (i + 1)) M tm) e2 (gk_t5 (List.mem_of_getElem? (i := 195) rfl) rfl) lo_X8_count dL_law_947 tm ⟨by decide, rfl⟩ rfl (by decide) (by show List.sum [1] ≤ 8; decide) rfl rfl ?_
  refine lk_eq hC (tg := 1206) dL_law_950 rfl ?_
  exact hN M hJ
theorem lo_X7_act : gk_OV yX7_act cX7_act 4 (some .int) 3 := ⟨(gk_t3 (List.mem_of_getElem? (i := 193) rfl) rfl), (gk_t3 (List.mem_of_getElem? (i := 194) rfl) rfl), (gk_t1 (List.mem_of_getElem? (i := 1) rfl) rfl), (gk_t3 (List.mem_of_getElem? (i := 195) rfl) rfl), by decide +kernel, by decide⟩
theorem lo_X8_act : gk_OV yX8_act cX8_act 4 (some .int) 3 := ⟨(gk_t5 (List.mem_of_getElem? (i := 200) rfl) rfl), (gk_t5 (List.mem_of_getElem? (i := 201) rfl) rfl), (gk_t1 (List.mem_of_getElem? (i := 9) rfl) rfl), (gk_t5 (List.mem_of_getElem? (i := 202) rfl) rfl), by decide +kernel, by decide⟩
theorem lc_act {Z : gk_Z} {Y : gk_Y} {α : Type} {ρ : α → Option Value × gk_M} {k : Option α} {b L x m i : Nat} {xs : Nat → Int32} {M : gk_M} (h : LC Z Y b L xs x m i) (hJ : JJ x m M) (hN : ∀ M', JJ x m M' → gk_K Z Y 4 ρ 1206 (lkL b x m i) [] M' k) : gk_K Z Y 4 ρ 955 (lkL b x m i) [] M k := by
  obtain ⟨hC, hX, hY, hW, tx, tm, hi, hL⟩ := h
  obtain ⟨r, M1, M2, e1, e2, hJ2⟩ := j_act hY hJ (xs (i + 1)) (xs (i + 2)) (xs (i + 3))
  refine gk_aload_n hC 1 dL_law_955 rfl rfl ?_
  refine lk_S hC hX hi hL (j := 1) (by decide) rfl dL_law_956 dL_law_957 dL_law_958 dL_law_959 dL_law_960 rfl ?_
  refine lk_S hC hX hi hL (j := 2) (by decide) rfl dL_law_961 dL_law_962 dL_law_963 dL_law_964 dL_law_965 rfl ?_
  refine lk_S hC hX hi hL (j := 3) (by decide) rfl dL_law_966 dL_law_967 dL_law_968 dL_law_969 dL_law_970 rfl ?_
  refine lk_callV hC (fun l => m_X7_act l hW x (xs (i + 1)) (xs (i + 2)) (xs (i + 3)) M tx) e1 (gk_t3 (List.mem_of_getElem? (i := 192) rfl) rfl) lo_X7_act dL_law_971 tx ⟨by decide, rfl⟩ rfl (by decide) (by show List.sum [] ≤ 8; decide) rfl rfl ?_
  refine gk_aload_n hC 2 dL_law_974 rfl rfl ?_
  refine lk_S hC hX hi hL (j := 1) (by decide) rfl dL_law_975 dL_law_976 dL_law_977 dL_law_978 dL_law_979 rfl ?_
  refine lk_S hC hX hi hL (j := 2) (by decide) rfl dL_law_980 dL_law_981 dL_law_982 dL_law_983 dL_law_984 rfl ?_
  refine lk_S hC hX hi hL (j := 3) (by decide) rfl dL_law_985 dL_law_986 dL_law_987 dL_law_988 dL_law_989 rfl ?_
  refine lk_callV hC (fun l => m_X8_act l hW m (xs (i + 1)) (xs (i + 2)) (xs (i + 3)) M1 tm) e2 (gk_t5 (List.mem_of_getElem? (i := 199) rfl) rfl) lo_X8_act dL_law_990 tm ⟨by decide, rfl⟩ rfl (by decide) (by show List.sum [1] ≤ 8; decide) rfl rfl ?_
  refine lk_eq hC (tg := 1206) dL_law_993 rfl ?_
  exact hN M2 hJ2
theorem lo_X7_trace : gk_OV yX7_trace cX7_trace 2 (some .int) 1 := ⟨(gk_t3 (List.mem_of_getElem? (i := 221) rfl) rfl), (gk_t3 (List.mem_of_getElem? (i := 222) rfl) rfl), (gk_t1 (List.mem_of_getElem? (i := 1) rfl) rfl), (gk_t3 (List.mem_of_getElem? (i := 223) rfl) rfl), by decide +kernel, by decide⟩
theorem lo_X8_trace : gk_OV yX8_trace cX8_trace 2 (some .int) 1 := ⟨(gk_t6 (List.mem_of_getElem? (i := 4) rfl) rfl), (gk_t6 (List.mem_of_getElem? (i := 5) rfl) rfl), (gk_t1 (List.mem_of_getElem? (i := 9) rfl) rfl), (gk_t6 (List.mem_of_getElem? (i := 6) rfl) rfl), by decide +kernel, by decide⟩
theorem lc_trace {Z : gk_Z} {Y : gk_Y} {α : Type} {ρ : α → Option Value × gk_M} {k : Option α} {b L x m i : Nat} {xs : Nat → Int32} {M : gk_M} (h : LC Z Y b L xs x m i) (hJ : JJ x m M) (hN : ∀ M', JJ x m M' → gk_K Z Y 4 ρ 1206 (lkL b x m i) [] M' k) : gk_K Z Y 4 ρ 998 (lkL b x m i) [] M k := by
  obtain ⟨hC, hX, hY, hW, tx, tm, hi, hL⟩ := h
  obtain ⟨r, e1, e2⟩ := a_trace hY hJ (xs (i + 1))
  refine gk_aload_n hC 1 dL_law_998 rfl rfl ?_
  refine lk_S hC hX hi hL (j := 1) (by decide) rfl dL_law_999 dL_law_1000 dL_law_1001 dL_law_1002 dL_law_1003 rfl ?_
  refine lk_callV hC (fun l => m_X7_trace l hW x (xs (i + 1)) M tx) e1 (gk_t3 (List.mem_of_getElem? (i := 220) rfl) rfl) lo_X7_trace dL_law_1004 tx ⟨by decide, rfl⟩ rfl (by decide) (by show List.sum [] ≤ 8; decide) rfl rfl ?_
  refine gk_aload_n hC 2 dL_law_1007 rfl rfl ?_
  refine lk_S hC hX hi hL (j := 1) (by decide) rfl dL_law_1008 dL_law_1009 dL_law_1010 dL_law_1011 dL_law_1012 rfl ?_
  refine lk_callV hC (fun l => m_X8_trace l hW m (xs (i + 1)) M tm) e2 (gk_t6 (List.mem_of_getElem? (i := 3) rfl) rfl) lo_X8_trace dL_law_1013 tm ⟨by decide, rfl⟩ rfl (by decide) (by show List.sum [1] ≤ 8; decide) rfl rfl ?_
  refine lk_eq hC (tg := 1206) dL_law_1016 rfl ?_
  exact hN M hJ
theorem lo_X7_sheet : gk_OV yX7_sheet cX7_sheet 5 (some .int) 3 := ⟨(gk_t3 (List.mem_of_getElem? (i := 225) rfl) rfl), (gk_t3 (List.mem_of_getElem? (i := 226) rfl) rfl), (gk_t1 (List.mem_of_getElem? (i := 1) rfl) rfl), (gk_t3 (List.mem_of_getElem? (i := 227) rfl) rfl), by decide +kernel, by decide⟩
theorem lo_X8_sheet : gk_OV yX8_sheet cX8_sheet 5 (some .int) 3 := ⟨(gk_t6 (List.mem_of_getElem? (i := 8) rfl) rfl), (gk_t6 (List.mem_of_getElem? (i := 9) rfl) rfl), (gk_t1 (List.mem_of_getElem? (i := 9) rfl) rfl), (gk_t6 (List.mem_of_getElem? (i := 10) rfl) rfl), by decide +kernel, by decide⟩
theorem lc_sheet {Z : gk_Z} {Y : gk_Y} {α : Type} {ρ : α → Option Value × gk_M} {k : Option α} {b L x m i : Nat} {xs : Nat → Int32} {M : gk_M} (h : LC Z Y b L xs x m i) (hJ : JJ x m M) (hN : ∀ M', JJ x m M' → gk_K Z Y 4 ρ 1206 (lkL b x m i) [] M' k) : gk_K Z Y 4 ρ 1021 (lkL b x m i) [] M k := by
  obtain ⟨hC, hX, hY, hW, tx, tm, hi, hL⟩ := h
  obtain ⟨r, M1, M2, e1, e2, hJ2⟩ := j_sheet hY hJ (xs (i + 1)) (xs (i + 2)) (xs (i + 3))
  refine gk_aload_n hC 1 dL_law_1021 rfl rfl ?_
  refine lk_S hC hX hi hL (j := 1) (by decide) rfl dL_law_1022 dL_law_1023 dL_law_1024 dL_law_1025 dL_law_1026 rfl ?_
  refine lk_S hC hX hi hL (j := 2) (by decide) rfl dL_law_1027 dL_law_1028 dL_law_1029 dL_law_1030 dL_law_1031 rfl ?_
  refine lk_S hC hX hi hL (j := 3) (by decide) rfl dL_law_1032 dL_law_1033 dL_law_1034 dL_law_1035 dL_law_1036 rfl ?_
  refine lk_callV hC (fun l => m_X7_sheet l hW x (xs (i + 1)) (xs (i + 2)) (xs (i + 3)) M tx) e1 (gk_t3 (List.mem_of_getElem? (i := 224) rfl) rfl) lo_X7_sheet dL_law_1037 tx ⟨by decide, rfl⟩ rfl (by decide) (by show List.sum [] ≤ 8; decide) rfl rfl ?_
  refine gk_aload_n hC 2 dL_law_1040 rfl rfl ?_
  refine lk_S hC hX hi hL (j := 1) (by decide) rfl dL_law_1041 dL_law_1042 dL_law_1043 dL_law_1044 dL_law_1045 rfl ?_
  refine lk_S hC hX hi hL (j := 2) (by decide) rfl dL_law_1046 dL_law_1047 dL_law_1048 dL_law_1049 dL_law_1050 rfl ?_
  refine lk_S hC hX hi hL (j := 3) (by decide) rfl dL_law_1051 dL_law_1052 dL_law_1053 dL_law_1054 dL_law_1055 rfl ?_
  refine lk_callV hC (fun l => m_X8_sheet l hW m (xs (i + 1)) (xs (i + 2)) (xs (i + 3)) M1 tm) e2 (gk_t6 (List.mem_of_getElem? (i := 7) rfl) rfl) lo_X8_sheet dL_law_1056 tm ⟨by decide, rfl⟩ rfl (by decide) (by show List.sum [1] ≤ 8; decide) rfl rfl ?_
  refine lk_eq hC (tg := 1206) dL_law_1059 rfl ?_
  exact hN M2 hJ2
theorem lo_X7_cell : gk_OV yX7_cell cX7_cell 4 (some .int) 3 := ⟨(gk_t3 (List.mem_of_getElem? (i := 239) rfl) rfl), (gk_t4 (List.mem_of_getElem? (i := 0) rfl) rfl), (gk_t1 (List.mem_of_getElem? (i := 1) rfl) rfl), (gk_t4 (List.mem_of_getElem? (i := 1) rfl) rfl), by decide +kernel, by decide⟩
theorem lo_X8_cell : gk_OV yX8_cell cX8_cell 4 (some .int) 3 := ⟨(gk_t6 (List.mem_of_getElem? (i := 14) rfl) rfl), (gk_t6 (List.mem_of_getElem? (i := 15) rfl) rfl), (gk_t1 (List.mem_of_getElem? (i := 9) rfl) rfl), (gk_t6 (List.mem_of_getElem? (i := 16) rfl) rfl), by decide +kernel, by decide⟩
theorem lc_cell {Z : gk_Z} {Y : gk_Y} {α : Type} {ρ : α → Option Value × gk_M} {k : Option α} {b L x m i : Nat} {xs : Nat → Int32} {M : gk_M} (h : LC Z Y b L xs x m i) (hJ : JJ x m M) (hN : ∀ M', JJ x m M' → gk_K Z Y 4 ρ 1206 (lkL b x m i) [] M' k) : gk_K Z Y 4 ρ 1064 (lkL b x m i) [] M k := by
  obtain ⟨hC, hX, hY, hW, tx, tm, hi, hL⟩ := h
  obtain ⟨r, M1, M2, e1, e2, hJ2⟩ := j_cell hY hJ (xs (i + 1)) (xs (i + 2)) (xs (i + 3))
  refine gk_aload_n hC 1 dL_law_1064 rfl rfl ?_
  refine lk_S hC hX hi hL (j := 1) (by decide) rfl dL_law_1065 dL_law_1066 dL_law_1067 dL_law_1068 dL_law_1069 rfl ?_
  refine lk_S hC hX hi hL (j := 2) (by decide) rfl dL_law_1070 dL_law_1071 dL_law_1072 dL_law_1073 dL_law_1074 rfl ?_
  refine lk_S hC hX hi hL (j := 3) (by decide) rfl dL_law_1075 dL_law_1076 dL_law_1077 dL_law_1078 dL_law_1079 rfl ?_
  refine lk_callV hC (fun l => m_X7_cell l hW x (xs (i + 1)) (xs (i + 2)) (xs (i + 3)) M tx) e1 (gk_t3 (List.mem_of_getElem? (i := 238) rfl) rfl) lo_X7_cell dL_law_1080 tx ⟨by decide, rfl⟩ rfl (by decide) (by show List.sum [] ≤ 8; decide) rfl rfl ?_
  refine gk_aload_n hC 2 dL_law_1083 rfl rfl ?_
  refine lk_S hC hX hi hL (j := 1) (by decide) rfl dL_law_1084 dL_law_1085 dL_law_1086 dL_law_1087 dL_law_1088 rfl ?_
  refine lk_S hC hX hi hL (j := 2) (by decide) rfl dL_law_1089 dL_law_1090 dL_law_1091 dL_law_1092 dL_law_1093 rfl ?_
  refine lk_S hC hX hi hL (j := 3) (by decide) rfl dL_law_1094 dL_law_1095 dL_law_1096 dL_law_1097 dL_law_1098 rfl ?_
  refine lk_callV hC (fun l => m_X8_cell l hW m (xs (i + 1)) (xs (i + 2)) (xs (i + 3)) M1 tm) e2 (gk_t6 (List.mem_of_getElem? (i := 13) rfl) rfl) lo_X8_cell dL_law_1099 tm ⟨by decide, rfl⟩ rfl (by decide) (by show List.sum [1] ≤ 8; decide) rfl rfl ?_
  refine lk_eq hC (tg := 1206) dL_law_1102 rfl ?_
  exact hN M2 hJ2
theorem lo_X7_order : gk_OV yX7_order cX7_order 4 (some .int) 3 := ⟨(gk_t4 (List.mem_of_getElem? (i := 15) rfl) rfl), (gk_t4 (List.mem_of_getElem? (i := 16) rfl) rfl), (gk_t1 (List.mem_of_getElem? (i := 1) rfl) rfl), (gk_t4 (List.mem_of_getElem? (i := 17) rfl) rfl), by decide +kernel, by decide⟩
theorem lo_X8_order : gk_OV yX8_order cX8_order 5 (some .int) 3 := ⟨(gk_t6 (List.mem_of_getElem? (i := 23) rfl) rfl), (gk_t6 (List.mem_of_getElem? (i := 24) rfl) rfl), (gk_t1 (List.mem_of_getElem? (i := 9) rfl) rfl), (gk_t6 (List.mem_of_getElem? (i := 25) rfl) rfl), by decide +kernel, by decide⟩
theorem lc_order {Z : gk_Z} {Y : gk_Y} {α : Type} {ρ : α → Option Value × gk_M} {k : Option α} {b L x m i : Nat} {xs : Nat → Int32} {M : gk_M} (h : LC Z Y b L xs x m i) (hJ : JJ x m M) (hN : ∀ M', JJ x m M' → gk_K Z Y 4 ρ 1206 (lkL b x m i) [] M' k) : gk_K Z Y 4 ρ 1107 (lkL b x m i) [] M k := by
  obtain ⟨hC, hX, hY, hW, tx, tm, hi, hL⟩ := h
  obtain ⟨r, M1, M2, e1, e2, hJ2⟩ := j_order hY hJ (xs (i + 1)) (xs (i + 2)) (xs (i + 3))
  refine gk_aload_n hC 1 dL_law_1107 rfl rfl ?_
  refine lk_S hC hX hi hL (j := 1) (by decide) rfl dL_law_1108 dL_law_1109 dL_law_1110 dL_law_1111 dL_law_1112 rfl ?_
  refine lk_S hC hX hi hL (j := 2) (by decide) rfl dL_law_1113 dL_law_1114 dL_law_1115 dL_law_1116 dL_law_1117 rfl ?_
  refine lk_S hC hX hi hL (j := 3) (by decide) rfl dL_law_1118 dL_law_1119 dL_law_1120 dL_law_1121 dL_law_1122 rfl ?_
  refine lk_callV hC (fun l => m_X7_order l hW x (xs (i + 1)) (xs (i + 2)) (xs (i + 3)) M tx) e1 (gk_t4 (List.mem_of_getElem? (i := 14) rfl) rfl) lo_X7_order dL_law_1123 tx ⟨by decide, rfl⟩ rfl (by decide) (by show List.sum [] ≤ 8; decide) rfl rfl ?_
  refine gk_aload_n hC 2 dL_law_1126 rfl rfl ?_
  refine lk_S hC hX hi hL (j := 1) (by decide) rfl dL_law_1127 dL_law_1128 dL_law_1129 dL_law_1130 dL_law_1131 rfl ?_
  refine lk_S hC hX hi hL (j := 2) (by decide) rfl dL_law_1132 dL_law_1133 dL_law_1134 dL_law_1135 dL_law_1136 rfl ?_
  refine lk_S hC hX hi hL (j := 3) (by decide) rfl dL_law_1137 dL_law_1138 dL_law_1139 dL_law_1140 dL_law_1141 rfl ?_
  refine lk_callV hC (fun l => m_X8_order l hW m (xs (i + 1)) (xs (i + 2)) (xs (i + 3)) M1 tm) e2 (gk_t6 (List.mem_of_getElem? (i := 22) rfl) rfl) lo_X8_order dL_law_1142 tm ⟨by decide, rfl⟩ rfl (by decide) (by show List.sum [1] ≤ 8; decide) rfl rfl ?_
  refine lk_eq hC (tg := 1206) dL_law_1145 rfl ?_
  exact hN M2 hJ2
theorem lo_X7_forge : gk_OV yX7_forge cX7_forge 6 (some .int) 3 := ⟨(gk_t4 (List.mem_of_getElem? (i := 27) rfl) rfl), (gk_t4 (List.mem_of_getElem? (i := 28) rfl) rfl), (gk_t1 (List.mem_of_getElem? (i := 1) rfl) rfl), (gk_t4 (List.mem_of_getElem? (i := 29) rfl) rfl), by decide +kernel, by decide⟩
theorem lo_X8_forge : gk_OV yX8_forge cX8_forge 8 (some .int) 3 := ⟨(gk_t6 (List.mem_of_getElem? (i := 28) rfl) rfl), (gk_t6 (List.mem_of_getElem? (i := 29) rfl) rfl), (gk_t1 (List.mem_of_getElem? (i := 9) rfl) rfl), (gk_t6 (List.mem_of_getElem? (i := 30) rfl) rfl), by decide +kernel, by decide⟩
theorem lc_forge {Z : gk_Z} {Y : gk_Y} {α : Type} {ρ : α → Option Value × gk_M} {k : Option α} {b L x m i : Nat} {xs : Nat → Int32} {M : gk_M} (h : LC Z Y b L xs x m i) (hJ : JJ x m M) (hN : ∀ M', JJ x m M' → gk_K Z Y 4 ρ 1206 (lkL b x m i) [] M' k) : gk_K Z Y 4 ρ 1150 (lkL b x m i) [] M k := by
  obtain ⟨hC, hX, hY, hW, tx, tm, hi, hL⟩ := h
  obtain ⟨r, M1, M2, e1, e2, hJ2⟩ := j_forge hY hJ (xs (i + 1)) (xs (i + 2)) (xs (i + 3))
  refine gk_aload_n hC 1 dL_law_1150 rfl rfl ?_
  refine lk_S hC hX hi hL (j := 1) (by decide) rfl dL_law_1151 dL_law_1152 dL_law_1153 dL_law_1154 dL_law_1155 rfl ?_
  refine lk_S hC hX hi hL (j := 2) (by decide) rfl dL_law_1156 dL_law_1157 dL_law_1158 dL_law_1159 dL_law_1160 rfl ?_
  refine lk_S hC hX hi hL (j := 3) (by decide) rfl dL_law_1161 dL_law_1162 dL_law_1163 dL_law_1164 dL_law_1165 rfl ?_
  refine lk_callV hC (fun l => m_X7_forge l hW x (xs (i + 1)) (xs (i + 2)) (xs (i + 3)) M tx) e1 (gk_t4 (List.mem_of_getElem? (i := 26) rfl) rfl) lo_X7_forge dL_law_1166 tx ⟨by decide, rfl⟩ rfl (by decide) (by show List.sum [] ≤ 8; decide) rfl rfl ?_
  refine gk_aload_n hC 2 dL_law_1169 rfl rfl ?_
  refine lk_S hC hX hi hL (j := 1) (by decide) rfl dL_law_1170 dL_law_1171 dL_law_1172 dL_law_1173 dL_law_1174 rfl ?_
  refine lk_S hC hX hi hL (j := 2) (by decide) rfl dL_law_1175 dL_law_1176 dL_law_1177 dL_law_1178 dL_law_1179 rfl ?_
  refine lk_S hC hX hi hL (j := 3) (by decide) rfl dL_law_1180 dL_law_1181 dL_law_1182 dL_law_1183 dL_law_1184 rfl ?_
  refine lk_callV hC (fun l => m_X8_forge l hW m (xs (i + 1)) (xs (i + 2)) (xs (i + 3)) M1 tm) e2 (gk_t6 (List.mem_of_getElem? (i := 27) rfl) rfl) lo_X8_forge dL_law_1185 tm ⟨by decide, rfl⟩ rfl (by decide) (by show List.sum [1] ≤ 8; decide) rfl rfl ?_
  refine lk_eq hC (tg := 1206) dL_law_1188 rfl ?_
  exact hN M2 hJ2
theorem lo_X7_status : gk_OV yX7_status cX7_status 1 (some .int) 0 := ⟨(gk_t4 (List.mem_of_getElem? (i := 50) rfl) rfl), (gk_t4 (List.mem_of_getElem? (i := 51) rfl) rfl), (gk_t1 (List.mem_of_getElem? (i := 1) rfl) rfl), (gk_t4 (List.mem_of_getElem? (i := 52) rfl) rfl), by decide +kernel, by decide⟩
theorem lo_X8_status : gk_OV yX8_status cX8_status 1 (some .int) 0 := ⟨(gk_t6 (List.mem_of_getElem? (i := 42) rfl) rfl), (gk_t6 (List.mem_of_getElem? (i := 43) rfl) rfl), (gk_t1 (List.mem_of_getElem? (i := 9) rfl) rfl), (gk_t6 (List.mem_of_getElem? (i := 44) rfl) rfl), by decide +kernel, by decide⟩
theorem lc_status {Z : gk_Z} {Y : gk_Y} {α : Type} {ρ : α → Option Value × gk_M} {k : Option α} {b L x m i : Nat} {xs : Nat → Int32} {M : gk_M} (h : LC Z Y b L xs x m i) (hJ : JJ x m M) (hN : ∀ M', JJ x m M' → gk_K Z Y 4 ρ 1206 (lkL b x m i) [] M' k) : gk_K Z Y 4 ρ 1193 (lkL b x m i) [] M k := by
  obtain ⟨hC, hX, hY, hW, tx, tm, hi, hL⟩ := h
  obtain ⟨r, e1, e2⟩ := a_status (LN := gk_ln Y) (RF := gk_rf Y) hJ
  refine gk_aload_n hC 1 dL_law_1193 rfl rfl ?_
  refine lk_callV hC (fun l => m_X7_status l hW x  M tx) e1 (gk_t4 (List.mem_of_getElem? (i := 49) rfl) rfl) lo_X7_status dL_law_1194 tx ⟨by decide, rfl⟩ rfl (by decide) (by show List.sum [] ≤ 8; decide) rfl rfl ?_
  refine gk_aload_n hC 2 dL_law_1197 rfl rfl ?_
  refine lk_callV hC (fun l => m_X8_status l hW m  M tm) e2 (gk_t6 (List.mem_of_getElem? (i := 41) rfl) rfl) lo_X8_status dL_law_1198 tm ⟨by decide, rfl⟩ rfl (by decide) (by show List.sum [1] ≤ 8; decide) rfl rfl ?_
  refine lk_eq hC (tg := 1206) dL_law_1201 rfl ?_
  exact hN M hJ
theorem lk_turn {Z : gk_Z} {Y : gk_Y} {α : Type} {ρ : α → Option Value × gk_M} {k : Option α} {b L x m i : Nat} {xs : Nat → Int32} {M : gk_M} (h : LC Z Y b L xs x m i) (hJ : JJ x m M) (hN : ∀ M', JJ x m M' → gk_K Z Y 4 ρ 1206 (lkL b x m i) [] M' k) : gk_K Z Y 4 ρ 27 (lkL b x m i) [] M k := by
  have hC := h.1
  refine gk_aload_n hC 0 dL_law_27 rfl rfl (gk_iload_n hC 3 dL_law_28 rfl rfl (lk_sld hC h.2.1 (by have := h.2.2.2.2.2.2; omega) h.2.2.2.2.2.2.2 dL_law_29 rfl (gk_bipush hC (v := 31) dL_law_30 rfl rfl (gk_iand hC dL_law_32 rfl ?_))))
  by_cases hr : (xs i &&& 31).toInt < 0 ∨ 29 < (xs i &&& 31).toInt
  · exact lk_tabOut hC dL_law_33 hr rfl (hN M hJ)
  · have h1 : ¬ (xs i &&& 31).toInt < 0 := fun g => hr (Or.inl g)
    have h2 : ¬ 29 < (xs i &&& 31).toInt := fun g => hr (Or.inr g)
    have hc : (xs i &&& 31).toInt = 0 ∨ (xs i &&& 31).toInt = 1 ∨ (xs i &&& 31).toInt = 2 ∨ (xs i &&& 31).toInt = 3 ∨ (xs i &&& 31).toInt = 4 ∨ (xs i &&& 31).toInt = 5 ∨ (xs i &&& 31).toInt = 6 ∨ (xs i &&& 31).toInt = 7 ∨ (xs i &&& 31).toInt = 8 ∨ (xs i &&& 31).toInt = 9 ∨ (xs i &&& 31).toInt = 10 ∨ (xs i &&& 31).toInt = 11 ∨ (xs i &&& 31).toInt = 12 ∨ (xs i &&& 31).toInt = 13 ∨ (xs i &&& 31).toInt = 14 ∨ (xs i &&& 31).toInt = 15 ∨ (xs i &&& 31).toInt = 16 ∨ (xs i &&& 31).toInt = 17 ∨ (xs i &&& 31).toInt = 18 ∨ (xs i &&& 31).toInt = 19 ∨ (xs i &&& 31).toInt = 20 ∨ (xs i &&& 31).toInt = 21 ∨ (xs i &&& 31).toInt = 22 ∨ (xs i &&& 31).toInt = 23 ∨ (xs i &&& 31).toInt = 24 ∨ (xs i &&& 31).toInt = 25 ∨ (xs i &&& 31).toInt = 26 ∨ (xs i &&& 31).toInt = 27 ∨ (xs i &&& 31).toInt = 28 ∨ (xs i &&& 31).toInt = 29 := by omega
    rcases hc with hc | hc | hc | hc | hc | hc | hc | hc | hc | hc | hc | hc | hc | hc | hc | hc | hc | hc | hc | hc | hc | hc | hc | hc | hc | hc | hc | hc | hc | hc
    · exact lk_tabIn hC (off := 135) (tg := 168) dL_law_33 h1 h2 (by rw [hc]; rfl) rfl (lc_line h hJ hN)
    · exact lk_tabIn hC (off := 148) (tg := 181) dL_law_33 h1 h2 (by rw [hc]; rfl) rfl (lc_wish h hJ hN)
    · exact lk_tabIn hC (off := 211) (tg := 244) dL_law_33 h1 h2 (by rw [hc]; rfl) rfl (lc_on h hJ hN)
    · exact lk_tabIn hC (off := 260) (tg := 293) dL_law_33 h1 h2 (by rw [hc]; rfl) rfl (lc_rank h hJ hN)
    · exact lk_tabIn hC (off := 293) (tg := 326) dL_law_33 h1 h2 (by rw [hc]; rfl) rfl (lc_dial h hJ hN)
    · exact lk_tabIn hC (off := 326) (tg := 359) dL_law_33 h1 h2 (by rw [hc]; rfl) rfl (lc_take h hJ hN)
    · exact lk_tabIn hC (off := 349) (tg := 382) dL_law_33 h1 h2 (by rw [hc]; rfl) rfl (lc_down h hJ hN)
    · exact lk_tabIn hC (off := 372) (tg := 405) dL_law_33 h1 h2 (by rw [hc]; rfl) rfl (lc_tick h hJ hN)
    · exact lk_tabIn hC (off := 385) (tg := 418) dL_law_33 h1 h2 (by rw [hc]; rfl) rfl (lc_image h hJ hN)
    · exact lk_tabIn hC (off := 398) (tg := 431) dL_law_33 h1 h2 (by rw [hc]; rfl) rfl (lc_restore h hJ hN)
    · exact lk_tabIn hC (off := 411) (tg := 444) dL_law_33 h1 h2 (by rw [hc]; rfl) rfl (lc_wishTold h hJ hN)
    · exact lk_tabIn hC (off := 444) (tg := 477) dL_law_33 h1 h2 (by rw [hc]; rfl) rfl (lc_lineTold h hJ hN)
    · exact lk_tabIn hC (off := 477) (tg := 510) dL_law_33 h1 h2 (by rw [hc]; rfl) rfl (lc_call h hJ hN)
    · exact lk_tabIn hC (off := 510) (tg := 543) dL_law_33 h1 h2 (by rw [hc]; rfl) rfl (lc_row h hJ hN)
    · exact lk_tabIn hC (off := 543) (tg := 576) dL_law_33 h1 h2 (by rw [hc]; rfl) rfl (lc_piece h hJ hN)
    · exact lk_tabIn hC (off := 576) (tg := 609) dL_law_33 h1 h2 (by rw [hc]; rfl) rfl (lc_acted h hJ hN)
    · exact lk_tabIn hC (off := 609) (tg := 642) dL_law_33 h1 h2 (by rw [hc]; rfl) rfl (lc_tells h hJ hN)
    · exact lk_tabIn hC (off := 642) (tg := 675) dL_law_33 h1 h2 (by rw [hc]; rfl) rfl (lc_backs h hJ hN)
    · exact lk_tabIn hC (off := 675) (tg := 708) dL_law_33 h1 h2 (by rw [hc]; rfl) rfl (lc_judge h hJ hN)
    · exact lk_tabIn hC (off := 738) (tg := 771) dL_law_33 h1 h2 (by rw [hc]; rfl) rfl (lc_actOf h hJ hN)
    · exact lk_tabIn hC (off := 761) (tg := 794) dL_law_33 h1 h2 (by rw [hc]; rfl) rfl (lc_alone h hJ hN)
    · exact lk_tabIn hC (off := 824) (tg := 857) dL_law_33 h1 h2 (by rw [hc]; rfl) rfl (lc_peace h hJ hN)
    · exact lk_tabIn hC (off := 899) (tg := 932) dL_law_33 h1 h2 (by rw [hc]; rfl) rfl (lc_count h hJ hN)
    · exact lk_tabIn hC (off := 922) (tg := 955) dL_law_33 h1 h2 (by rw [hc]; rfl) rfl (lc_act h hJ hN)
    · exact lk_tabIn hC (off := 965) (tg := 998) dL_law_33 h1 h2 (by rw [hc]; rfl) rfl (lc_trace h hJ hN)
    · exact lk_tabIn hC (off := 988) (tg := 1021) dL_law_33 h1 h2 (by rw [hc]; rfl) rfl (lc_sheet h hJ hN)
    · exact lk_tabIn hC (off := 1031) (tg := 1064) dL_law_33 h1 h2 (by rw [hc]; rfl) rfl (lc_cell h hJ hN)
    · exact lk_tabIn hC (off := 1074) (tg := 1107) dL_law_33 h1 h2 (by rw [hc]; rfl) rfl (lc_order h hJ hN)
    · exact lk_tabIn hC (off := 1117) (tg := 1150) dL_law_33 h1 h2 (by rw [hc]; rfl) rfl (lc_forge h hJ hN)
    · exact lk_tabIn hC (off := 1160) (tg := 1193) dL_law_33 h1 h2 (by rw [hc]; rfl) rfl (lc_status h hJ hN)
theorem lk_loop {Z : gk_Z} {Y : gk_Y} {α : Type} {ρ : α → Option Value × gk_M} {k : Option α} {b L x m : Nat} {xs : Nat → Int32} (hC : gk_C Z Y cL_law 4 R_law 14) (hX : lkX Z Y b L xs) (hY : LY (gk_ln Y) (gk_rf Y) x m) (hW : gk_WF Y) (tx : gk_T Y 17 x) (tm : gk_T Y 18 m) (hL : L ≤ 3584) (hE : ∀ i M, gk_K Z Y 4 ρ 1212 (lkL b x m i) [] M k) : ∀ (n i : Nat) (M : gk_M), L - i ≤ n → i ≤ L + 7 → JJ x m M → gk_K Z Y 4 ρ 18 (lkL b x m i) [] M k := by
  intro n
  induction n with
  | zero =>
    intro i M hn hi hJ
    refine gk_iload_n hC 3 dL_law_18 rfl rfl (gk_aload_n hC 0 dL_law_19 rfl rfl (lk_slen hC hX dL_law_20 rfl (gk_bipush hC (v := 7) dL_law_21 rfl rfl (gk_isub hC dL_law_23 rfl ?_))))
    refine lk_gt hC (tg := 1212) dL_law_24 rfl rfl (fun _ => hE i M) (fun g => ?_)
    have := nI_room hL (by omega) g
    omega
  | succ n ih =>
    intro i M hn hi hJ
    refine gk_iload_n hC 3 dL_law_18 rfl rfl (gk_aload_n hC 0 dL_law_19 rfl rfl (lk_slen hC hX dL_law_20 rfl (gk_bipush hC (v := 7) dL_law_21 rfl rfl (gk_isub hC dL_law_23 rfl ?_))))
    refine lk_gt hC (tg := 1212) dL_law_24 rfl rfl (fun _ => hE i M) (fun g => ?_)
    have hi7 := nI_room hL (by omega) g
    refine lk_turn ⟨hC, hX, hY, hW, tx, tm, hi7, hL⟩ hJ fun M' hJ' => ?_
    refine gk_iinc hC 3 [1, 2, 3, 0] dL_law_1206 rfl (v := nI 7) rfl (by decide) (lv' := lkL b x m (i + 7)) ?_ rfl (gk_goto hC (q := 18) dL_law_1209 rfl (ih (i + 7) M' (by omega) (by omega) hJ'))
    rw [nI_add]
    rfl

/-! ===== the law's loop ===== -/
theorem INV.up {N : Nat} {σ : Sto} (h : INV N σ) : INV (N + 1) σ := by
  obtain ⟨c, nm, w, s, hc, hm⟩ := h
  exact ⟨c, nm, w, s, hc.up, hm⟩
theorem sd_o {S1 : Nat → Nat → Nat → Prop} (h : S1 = SD ∨ S1 = SRu) : ∀ a b k, S1 a b k → SQ b k ∨ (b = a ∧ 12 ≤ k ∧ k ≤ 15) ∨ b = a + 6 ∨ (b = 90 ∧ k = 4) := by
  intro a b k q
  rcases h with h | h
  · rw [h] at q; unfold SD SQ at q; unfold SQ; omega
  · rw [h] at q; unfold SRu SQ at q; unfold SQ; omega
theorem smd_o {S2 : Nat → Nat → Prop} (h : S2 = SMD ∨ S2 = SMRu) : ∀ a k, S2 a k → SM a k ∨ (a = 106 ∧ k < 130) := by
  intro a k q
  rcases h with h | h
  · rw [h] at q; unfold SMD SM at q; unfold SM; omega
  · rw [h] at q; unfold SMRu SM at q; unfold SM; omega
theorem law_step {b L N : Nat} {xs : Nat → Int32} {x3 sw : Int32} {K : Int32 × Sto → Prop} {σ : Sto} (hN : N ≤ 2000) (h : INV N σ) (hv1 : vp_in (x3 + 1) L) (hv2 : vp_in (x3 + 2) L) (hv3 : vp_in (x3 + 3) L) (hv4 : vp_in (x3 + 4) L) (hv5 : vp_in (x3 + 5) L) (k1 : ∀ υ, INV (N + 1) υ → w_L_1733 b L xs x3 K υ) : (if sw = 0 then w_X11_status σ (fun r_5 σ_4 => w_X12_status σ_4 (fun r_7 σ_6 => (if r_5 = r_7 then w_L_1733 b L xs x3 K σ_6 else False))) else (if sw = 1 then w_X11_top σ (fun r_13 σ_12 => w_X12_top σ_12 (fun r_15 σ_14 => (if (lg_cmp r_13 r_15) = 0 then w_L_1733 b L xs x3 K σ_14 else False))) else (if sw = 2 then w_X11_bottom σ (fun r_19 σ_18 => w_X12_bottom σ_18 (fun r_21 σ_20 => (if (lg_cmp r_19 r_21) = 0 then w_L_1733 b L xs x3 K σ_20 else False))) else (if sw = 3 then vp_in (x3 + 1) L ∧ vp_in (x3 + 2) L ∧ vp_in (x3 + 3) L ∧ w_X11_tray (xs (tn (x3 + 1))) (xs (tn (x3 + 2))) (xs (tn (x3 + 3))) σ (fun r_28 σ_27 => w_X12_tray (xs (tn (x3 + 1))) (xs (tn (x3 + 2))) (xs (tn (x3 + 3))) σ_27 (fun r_30 σ_29 => (if r_28 = r_30 then w_L_1733 b L xs x3 K σ_29 else False))) else (if sw = 4 then vp_in (x3 + 1) L ∧ vp_in (x3 + 2) L ∧ vp_in (x3 + 3) L ∧ vp_in (x3 + 4) L ∧ w_X11_write (xs (tn (x3 + 1))) (xs (tn (x3 + 2))) ((((xs (tn (x3 + 3))).toInt64) <<< ((32 : Int32).toInt64 &&& 63)) ||| (((xs (tn (x3 + 4))).toInt64) &&& 4294967295)) σ (fun r_38 σ_37 => w_X12_write (xs (tn (x3 + 1))) (xs (tn (x3 + 2))) ((((xs (tn (x3 + 3))).toInt64) <<< ((32 : Int32).toInt64 &&& 63)) ||| (((xs (tn (x3 + 4))).toInt64) &&& 4294967295)) σ_37 (fun r_40 σ_39 => (if r_38 = r_40 then w_L_1733 b L xs x3 K σ_39 else False))) else (if sw = 5 then vp_in (x3 + 1) L ∧ vp_in (x3 + 2) L ∧ w_X11_read (xs (tn (x3 + 1))) (xs (tn (x3 + 2))) σ (fun r_46 σ_45 => w_X12_read (xs (tn (x3 + 1))) (xs (tn (x3 + 2))) σ_45 (fun r_48 σ_47 => (if (lg_cmp r_46 r_48) = 0 then w_L_1733 b L xs x3 K σ_47 else False))) else (if sw = 6 then vp_in (x3 + 1) L ∧ vp_in (x3 + 2) L ∧ vp_in (x3 + 3) L ∧ vp_in (x3 + 4) L ∧ vp_in (x3 + 5) L ∧ w_X11_pour (xs (tn (x3 + 1))) (xs (tn (x3 + 2))) (xs (tn (x3 + 3))) (xs (tn (x3 + 4))) (xs (tn (x3 + 5))) σ (fun r_57 σ_56 => w_X12_pour (xs (tn (x3 + 1))) (xs (tn (x3 + 2))) (xs (tn (x3 + 3))) (xs (tn (x3 + 4))) (xs (tn (x3 + 5))) σ_56 (fun r_59 σ_58 => (if r_57 = r_59 then w_L_1733 b L xs x3 K σ_58 else False))) else (if sw = 7 then vp_in (x3 + 1) L ∧ vp_in (x3 + 2) L ∧ vp_in (x3 + 3) L ∧ vp_in (x3 + 4) L ∧ vp_in (x3 + 5) L ∧ w_X11_feed (xs (tn (x3 + 1))) (xs (tn (x3 + 2))) (xs (tn (x3 + 3))) (xs (tn (x3 + 4))) (xs (tn (x3 + 5))) σ (fun r_68 σ_67 => w_X12_feed (xs (tn (x3 + 1))) (xs (tn (x3 + 2))) (xs (tn (x3 + 3))) (xs (tn (x3 + 4))) (xs (tn (x3 + 5))) σ_67 (fun r_70 σ_69 => (if r_68 = r_70 then w_L_1733 b L xs x3 K σ_69 else False))) else (if sw = 8 then vp_in (x3 + 1) L ∧ w_X11_city (xs (tn (x3 + 1))) σ (fun r_75 σ_74 => w_X12_city (xs (tn (x3 + 1))) σ_74 (fun r_77 σ_76 => (if r_75 = r_77 then w_L_1733 b L xs x3 K σ_76 else False))) else (if sw = 9 then vp_in (x3 + 1) L ∧ w_X11_centuries (xs (tn (x3 + 1))) σ (fun r_82 σ_81 => w_X12_centuries (xs (tn (x3 + 1))) σ_81 (fun r_84 σ_83 => (if r_82 = r_84 then w_L_1733 b L xs x3 K σ_83 else False))) else (if sw = 10 then vp_in (x3 + 1) L ∧ w_X11_fault (xs (tn (x3 + 1))) σ (fun r_89 σ_88 => w_X12_fault (xs (tn (x3 + 1))) σ_88 (fun r_91 σ_90 => (if r_89 = r_91 then w_L_1733 b L xs x3 K σ_90 else False))) else (if sw = 11 then vp_in (x3 + 1) L ∧ w_X11_many (xs (tn (x3 + 1))) σ (fun r_96 σ_95 => w_X12_many (xs (tn (x3 + 1))) σ_95 (fun r_98 σ_97 => (if r_96 = r_98 then w_L_1733 b L xs x3 K σ_97 else False))) else (if sw = 12 then vp_in (x3 + 1) L ∧ vp_in (x3 + 2) L ∧ w_X11_thing (xs (tn (x3 + 1))) (xs (tn (x3 + 2))) σ (fun r_104 σ_103 => w_X12_thing (xs (tn (x3 + 1))) (xs (tn (x3 + 2))) σ_103 (fun r_106 σ_105 => (if r_104 = r_106 then w_L_1733 b L xs x3 K σ_105 else False))) else (if sw = 13 then vp_in (x3 + 1) L ∧ vp_in (x3 + 2) L ∧ w_X11_making (xs (tn (x3 + 1))) (xs (tn (x3 + 2))) σ (fun r_112 σ_111 => w_X12_making (xs (tn (x3 + 1))) (xs (tn (x3 + 2))) σ_111 (fun r_114 σ_113 => (if r_112 = r_114 then w_L_1733 b L xs x3 K σ_113 else False))) else (if sw = 14 then vp_in (x3 + 1) L ∧ w_X11_needs (xs (tn (x3 + 1))) σ (fun r_119 σ_118 => w_X12_needs (xs (tn (x3 + 1))) σ_118 (fun r_121 σ_120 => (if r_119 = r_121 then w_L_1733 b L xs x3 K σ_120 else False))) else (if sw = 15 then vp_in (x3 + 1) L ∧ vp_in (x3 + 2) L ∧ w_X11_hate (xs (tn (x3 + 1))) (xs (tn (x3 + 2))) σ (fun r_127 σ_126 => w_X12_hate (xs (tn (x3 + 1))) (xs (tn (x3 + 2))) σ_126 (fun r_129 σ_128 => (if r_127 = r_129 then w_L_1733 b L xs x3 K σ_128 else False))) else (if sw = 16 then vp_in (x3 + 1) L ∧ w_X11_copyWorth (xs (tn (x3 + 1))) σ (fun r_134 σ_133 => w_X12_copyWorth (xs (tn (x3 + 1))) σ_133 (fun r_136 σ_135 => (if r_134 = r_136 then w_L_1733 b L xs x3 K σ_135 else False))) else (if sw = 17 then vp_in (x3 + 1) L ∧ w_X11_year (xs (tn (x3 + 1))) σ (fun r_141 σ_140 => w_X12_year (xs (tn (x3 + 1))) σ_140 (fun r_143 σ_142 => (if r_141 = r_143 then w_L_1733 b L xs x3 K σ_142 else False))) else (if sw = 18 then vp_in (x3 + 1) L ∧ w_X11_unmake (xs (tn (x3 + 1))) σ (fun r_148 σ_147 => w_X12_unmake (xs (tn (x3 + 1))) σ_147 (fun r_150 σ_149 => (if r_148 = r_150 then w_L_1733 b L xs x3 K σ_149 else False))) else (if sw = 19 then vp_in (x3 + 1) L ∧ w_X11_remake (xs (tn (x3 + 1))) σ (fun r_155 σ_154 => w_X12_remake (xs (tn (x3 + 1))) σ_154 (fun r_157 σ_156 => (if r_155 = r_157 then w_L_1733 b L xs x3 K σ_156 else False))) else (if sw = 20 then vp_in (x3 + 1) L ∧ vp_in (x3 + 2) L ∧ (if (xs (tn (x3 + 2))) = 0 then w_X11_exempt (xs (tn (x3 + 1))) 0 σ (fun r_164 σ_163 => (if (xs (tn (x3 + 2))) = 0 then w_X12_exempt (xs (tn (x3 + 1))) 0 σ_163 (fun r_167 σ_166 => (if r_164 = r_167 then w_L_1733 b L xs x3 K σ_166 else False)) else w_X12_exempt (xs (tn (x3 + 1))) 1 σ_163 (fun r_170 σ_169 => (if r_164 = r_170 then w_L_1733 b L xs x3 K σ_169 else False)))) else w_X11_exempt (xs (tn (x3 + 1))) 1 σ (fun r_173 σ_172 => (if (xs (tn (x3 + 2))) = 0 then w_X12_exempt (xs (tn (x3 + 1))) 0 σ_172 (fun r_176 σ_175 => (if r_173 = r_176 then w_L_1733 b L xs x3 K σ_175 else False)) else w_X12_exempt (xs (tn (x3 + 1))) 1 σ_172 (fun r_179 σ_178 => (if r_173 = r_179 then w_L_1733 b L xs x3 K σ_178 else False))))) else (if sw = 21 then vp_in (x3 + 1) L ∧ vp_in (x3 + 2) L ∧ vp_in (x3 + 3) L ∧ w_X11_grudge (xs (tn (x3 + 1))) (xs (tn (x3 + 2))) (xs (tn (x3 + 3))) σ (fun r_186 σ_185 => w_X12_grudge (xs (tn (x3 + 1))) (xs (tn (x3 + 2))) (xs (tn (x3 + 3))) σ_185 (fun r_188 σ_187 => (if r_186 = r_188 then w_L_1733 b L xs x3 K σ_187 else False))) else (if sw = 22 then vp_in (x3 + 1) L ∧ w_X11_rule (xs (tn (x3 + 1))) σ (fun r_193 σ_192 => w_X12_rule (xs (tn (x3 + 1))) σ_192 (fun r_195 σ_194 => (if r_193 = r_195 then w_L_1733 b L xs x3 K σ_194 else False))) else (if sw = 23 then w_X11_vote σ (fun r_199 σ_198 => w_X12_vote σ_198 (fun r_201 σ_200 => (if r_199 = r_201 then w_L_1733 b L xs x3 K σ_200 else False))) else (if sw = 24 then vp_in (x3 + 1) L ∧ w_X11_votes (xs (tn (x3 + 1))) σ (fun r_206 σ_205 => w_X12_votes (xs (tn (x3 + 1))) σ_205 (fun r_208 σ_207 => (if r_206 = r_208 then w_L_1733 b L xs x3 K σ_207 else False))) else (if sw = 25 then vp_in (x3 + 1) L ∧ w_X11_voteBy (xs (tn (x3 + 1))) σ (fun r_213 σ_212 => w_X12_voteBy (xs (tn (x3 + 1))) σ_212 (fun r_215 σ_214 => (if r_213 = r_215 then w_L_1733 b L xs x3 K σ_214 else False))) else (if sw = 26 then vp_in (x3 + 1) L ∧ w_X11_sway (xs (tn (x3 + 1))) σ (fun r_220 σ_219 => w_X12_sway (xs (tn (x3 + 1))) σ_219 (fun r_222 σ_221 => (if r_220 = r_222 then w_L_1733 b L xs x3 K σ_221 else False))) else (if sw = 27 then vp_in (x3 + 1) L ∧ w_X11_falls (xs (tn (x3 + 1))) σ (fun r_227 σ_226 => w_X12_falls (xs (tn (x3 + 1))) σ_226 (fun r_229 σ_228 => (if r_227 = r_229 then w_L_1733 b L xs x3 K σ_228 else False))) else (if sw = 28 then vp_in (x3 + 1) L ∧ w_X11_loss (xs (tn (x3 + 1))) σ (fun r_234 σ_233 => w_X12_loss (xs (tn (x3 + 1))) σ_233 (fun r_236 σ_235 => (if r_234 = r_236 then w_L_1733 b L xs x3 K σ_235 else False))) else (if sw = 29 then w_X11_keystone σ (fun r_240 σ_239 => w_X12_keystone σ_239 (fun r_242 σ_241 => (if r_240 = r_242 then w_L_1733 b L xs x3 K σ_241 else False))) else (if sw = 30 then vp_in (x3 + 1) L ∧ w_X11_goneBy (xs (tn (x3 + 1))) σ (fun r_247 σ_246 => w_X12_goneBy (xs (tn (x3 + 1))) σ_246 (fun r_249 σ_248 => (if r_247 = r_249 then w_L_1733 b L xs x3 K σ_248 else False))) else (if sw = 31 then vp_in (x3 + 1) L ∧ w_X11_ends (xs (tn (x3 + 1))) σ (fun r_254 σ_253 => w_X12_ends (xs (tn (x3 + 1))) σ_253 (fun r_256 σ_255 => (if r_254 = r_256 then w_L_1733 b L xs x3 K σ_255 else False))) else (if sw = 32 then vp_in (x3 + 1) L ∧ w_X11_later (xs (tn (x3 + 1))) σ (fun r_261 σ_260 => w_X12_later (xs (tn (x3 + 1))) σ_260 (fun r_263 σ_262 => (if r_261 = r_263 then w_L_1733 b L xs x3 K σ_262 else False))) else (if sw = 33 then vp_in (x3 + 1) L ∧ vp_in (x3 + 2) L ∧ w_X11_keep (xs (tn (x3 + 1))) (xs (tn (x3 + 2))) σ (fun r_269 σ_268 => w_X12_keep (xs (tn (x3 + 1))) (xs (tn (x3 + 2))) σ_268 (fun r_271 σ_270 => (if r_269 = r_271 then w_L_1733 b L xs x3 K σ_270 else False))) else (if sw = 34 then vp_in (x3 + 1) L ∧ vp_in (x3 + 2) L ∧ w_X11_keepSet (xs (tn (x3 + 1))) (xs (tn (x3 + 2))) σ (fun r_277 σ_276 => w_X12_keepSet (xs (tn (x3 + 1))) (xs (tn (x3 + 2))) σ_276 (fun r_279 σ_278 => (if r_277 = r_279 then w_L_1733 b L xs x3 K σ_278 else False))) else (if sw = 35 then vp_in (x3 + 1) L ∧ w_X11_strike (xs (tn (x3 + 1))) σ (fun r_284 σ_283 => w_X12_strike (xs (tn (x3 + 1))) σ_283 (fun r_286 σ_285 => (if r_284 = r_286 then w_L_1733 b L xs x3 K σ_285 else False))) else (if sw = 36 then vp_in (x3 + 1) L ∧ w_X11_strikeSet (xs (tn (x3 + 1))) σ (fun r_291 σ_290 => w_X12_strikeSet (xs (tn (x3 + 1))) σ_290 (fun r_293 σ_292 => (if r_291 = r_293 then w_L_1733 b L xs x3 K σ_292 else False))) else (if sw = 37 then vp_in (x3 + 1) L ∧ w_X11_agenda (xs (tn (x3 + 1))) σ (fun r_298 σ_297 => w_X12_agenda (xs (tn (x3 + 1))) σ_297 (fun r_300 σ_299 => (if r_298 = r_300 then w_L_1733 b L xs x3 K σ_299 else False))) else (if sw = 38 then vp_in (x3 + 1) L ∧ w_X11_agendaAt (xs (tn (x3 + 1))) σ (fun r_305 σ_304 => w_X12_agendaAt (xs (tn (x3 + 1))) σ_304 (fun r_307 σ_306 => (if r_305 = r_307 then w_L_1733 b L xs x3 K σ_306 else False))) else (if sw = 39 then vp_in (x3 + 1) L ∧ vp_in (x3 + 2) L ∧ w_X11_game (xs (tn (x3 + 1))) (xs (tn (x3 + 2))) σ (fun r_313 σ_312 => w_X12_game (xs (tn (x3 + 1))) (xs (tn (x3 + 2))) σ_312 (fun r_315 σ_314 => (if r_313 = r_315 then w_L_1733 b L xs x3 K σ_314 else False))) else (if sw = 40 then vp_in (x3 + 1) L ∧ vp_in (x3 + 2) L ∧ w_X11_firstMove (xs (tn (x3 + 1))) (xs (tn (x3 + 2))) σ (fun r_321 σ_320 => w_X12_firstMove (xs (tn (x3 + 1))) (xs (tn (x3 + 2))) σ_320 (fun r_323 σ_322 => (if r_321 = r_323 then w_L_1733 b L xs x3 K σ_322 else False))) else (if sw = 41 then vp_in (x3 + 1) L ∧ w_X11_again (xs (tn (x3 + 1))) σ (fun r_328 σ_327 => w_X12_again (xs (tn (x3 + 1))) σ_327 (fun r_330 σ_329 => (if r_328 = r_330 then w_L_1733 b L xs x3 K σ_329 else False))) else (if sw = 42 then vp_in (x3 + 1) L ∧ w_X11_againSet (xs (tn (x3 + 1))) σ (fun r_335 σ_334 => w_X12_againSet (xs (tn (x3 + 1))) σ_334 (fun r_337 σ_336 => (if r_335 = r_337 then w_L_1733 b L xs x3 K σ_336 else False))) else (if sw = 43 then vp_in (x3 + 1) L ∧ w_X11_wasIt (xs (tn (x3 + 1))) σ (fun r_342 σ_341 => w_X12_wasIt (xs (tn (x3 + 1))) σ_341 (fun r_344 σ_343 => (if r_342 = r_344 then w_L_1733 b L xs x3 K σ_343 else False))) else (if sw = 44 then vp_in (x3 + 1) L ∧ w_X11_tells (xs (tn (x3 + 1))) σ (fun r_349 σ_348 => w_X12_tells (xs (tn (x3 + 1))) σ_348 (fun r_351 σ_350 => (if r_349 = r_351 then w_L_1733 b L xs x3 K σ_350 else False))) else (if sw = 45 then vp_in (x3 + 1) L ∧ w_X11_sure (xs (tn (x3 + 1))) σ (fun r_356 σ_355 => w_X12_sure (xs (tn (x3 + 1))) σ_355 (fun r_358 σ_357 => (if r_356 = r_358 then w_L_1733 b L xs x3 K σ_357 else False))) else (if sw = 46 then w_X11_histories σ (fun r_362 σ_361 => w_X12_histories σ_361 (fun r_364 σ_363 => (if (lg_cmp r_362 r_364) = 0 then w_L_1733 b L xs x3 K σ_363 else False))) else (if sw = 47 then w_X11_firsts σ (fun r_368 σ_367 => w_X12_firsts σ_367 (fun r_370 σ_369 => (if r_368 = r_370 then w_L_1733 b L xs x3 K σ_369 else False))) else (if sw = 48 then w_X11_clash σ (fun r_374 σ_373 => w_X12_clash σ_373 (fun r_376 σ_375 => (if r_374 = r_376 then w_L_1733 b L xs x3 K σ_375 else False))) else (if sw = 49 then vp_in (x3 + 1) L ∧ vp_in (x3 + 2) L ∧ w_X11_aheadOdds (xs (tn (x3 + 1))) (xs (tn (x3 + 2))) σ (fun r_382 σ_381 => w_X12_aheadOdds (xs (tn (x3 + 1))) (xs (tn (x3 + 2))) σ_381 (fun r_384 σ_383 => (if r_382 = r_384 then w_L_1733 b L xs x3 K σ_383 else False))) else (if sw = 50 then vp_in (x3 + 1) L ∧ w_X11_live (xs (tn (x3 + 1))) σ (fun r_389 σ_388 => w_X12_live (xs (tn (x3 + 1))) σ_388 (fun r_391 σ_390 => (if r_389 = r_391 then w_L_1733 b L xs x3 K σ_390 else False))) else (if sw = 51 then vp_in (x3 + 1) L ∧ w_X11_lived (xs (tn (x3 + 1))) σ (fun r_396 σ_395 => w_X12_lived (xs (tn (x3 + 1))) σ_395 (fun r_398 σ_397 => (if r_396 = r_398 then w_L_1733 b L xs x3 K σ_397 else False))) else (if sw = 52 then vp_in (x3 + 1) L ∧ vp_in (x3 + 2) L ∧ w_X11_mean (xs (tn (x3 + 1))) (xs (tn (x3 + 2))) σ (fun r_404 σ_403 => w_X12_mean (xs (tn (x3 + 1))) (xs (tn (x3 + 2))) σ_403 (fun r_406 σ_405 => (if r_404 = r_406 then w_L_1733 b L xs x3 K σ_405 else False))) else (if sw = 53 then w_X11_mark σ (fun r_410 σ_409 => w_X12_mark σ_409 (fun r_412 σ_411 => (if r_410 = r_412 then w_L_1733 b L xs x3 K σ_411 else False))) else (if sw = 54 then w_X11_back σ (fun r_416 σ_415 => w_X12_back σ_415 (fun r_418 σ_417 => (if r_416 = r_418 then w_L_1733 b L xs x3 K σ_417 else False))) else w_L_1733 b L xs x3 K σ))))))))))))))))))))))))))))))))))))))))))))))))))))))) := by
  have k0 : ∀ υ, INV N υ → w_L_1733 b L xs x3 K υ := fun υ hi => k1 υ hi.up
  by_cases hc0 : sw = 0
  · rw [if_pos hc0]
    exact inv_status h k0
  rw [if_neg hc0]
  by_cases hc1 : sw = 1
  · rw [if_pos hc1]
    exact inv_top h k0
  rw [if_neg hc1]
  by_cases hc2 : sw = 2
  · rw [if_pos hc2]
    exact inv_bottom h k0
  rw [if_neg hc2]
  by_cases hc3 : sw = 3
  · rw [if_pos hc3]
    exact ⟨hv1, hv2, hv3, inv_tr (X := fun P σ => w_X11_tray (xs (tn (x3 + 1))) (xs (tn (x3 + 2))) (xs (tn (x3 + 3))) σ P) (Y := fun P σ => w_X12_tray (xs (tn (x3 + 1))) (xs (tn (x3 + 2))) (xs (tn (x3 + 3))) σ P) (fun D => trayA D (xs (tn (x3 + 1))) (xs (tn (x3 + 2))) (xs (tn (x3 + 3)))) (fun D σ P ht k => c_tray ht k) (fun D σ P ht k => m_tray ht k) h k0⟩
  rw [if_neg hc3]
  by_cases hc4 : sw = 4
  · rw [if_pos hc4]
    exact ⟨hv1, hv2, hv3, hv4, inv_tr (X := fun P σ => w_X11_write (xs (tn (x3 + 1))) (xs (tn (x3 + 2))) ((((xs (tn (x3 + 3))).toInt64) <<< ((32 : Int32).toInt64 &&& 63)) ||| (((xs (tn (x3 + 4))).toInt64) &&& 4294967295)) σ P) (Y := fun P σ => w_X12_write (xs (tn (x3 + 1))) (xs (tn (x3 + 2))) ((((xs (tn (x3 + 3))).toInt64) <<< ((32 : Int32).toInt64 &&& 63)) ||| (((xs (tn (x3 + 4))).toInt64) &&& 4294967295)) σ P) (fun D => writeA D (xs (tn (x3 + 1))) (xs (tn (x3 + 2))) ((((xs (tn (x3 + 3))).toInt64) <<< ((32 : Int32).toInt64 &&& 63)) ||| (((xs (tn (x3 + 4))).toInt64) &&& 4294967295))) (fun D σ P ht k => c_write ht k) (fun D σ P ht k => m_write ht k) h k0⟩
  rw [if_neg hc4]
  by_cases hc5 : sw = 5
  · rw [if_pos hc5]
    exact ⟨hv1, hv2, inv_read h k0⟩
  rw [if_neg hc5]
  by_cases hc6 : sw = 6
  · rw [if_pos hc6]
    exact ⟨hv1, hv2, hv3, hv4, hv5, inv_tr (X := fun P σ => w_X11_pour (xs (tn (x3 + 1))) (xs (tn (x3 + 2))) (xs (tn (x3 + 3))) (xs (tn (x3 + 4))) (xs (tn (x3 + 5))) σ P) (Y := fun P σ => w_X12_pour (xs (tn (x3 + 1))) (xs (tn (x3 + 2))) (xs (tn (x3 + 3))) (xs (tn (x3 + 4))) (xs (tn (x3 + 5))) σ P) (fun D => pourA D (xs (tn (x3 + 1))) (xs (tn (x3 + 2))) (xs (tn (x3 + 3))) (xs (tn (x3 + 4))) (xs (tn (x3 + 5)))) (fun D σ P ht k => c_pour ht k) (fun D σ P ht k => m_pour ht k) h k0⟩
  rw [if_neg hc6]
  by_cases hc7 : sw = 7
  · rw [if_pos hc7]
    exact ⟨hv1, hv2, hv3, hv4, hv5, inv_feed h k0⟩
  rw [if_neg hc7]
  by_cases hc8 : sw = 8
  · rw [if_pos hc8]
    exact ⟨hv1, inv_city hN h k1⟩
  rw [if_neg hc8]
  by_cases hc9 : sw = 9
  · rw [if_pos hc9]
    exact ⟨hv1, inv_centuries h k0⟩
  rw [if_neg hc9]
  by_cases hc10 : sw = 10
  · rw [if_pos hc10]
    exact ⟨hv1, inv_fault h k0⟩
  rw [if_neg hc10]
  by_cases hc11 : sw = 11
  · rw [if_pos hc11]
    exact ⟨hv1, inv_ask (X := fun P σ => w_X11_many (xs (tn (x3 + 1))) σ P) (Y := fun P σ => w_X12_many (xs (tn (x3 + 1))) σ P) (fun c => manyA c (xs (tn (x3 + 1)))) (fun c σ P hk ok k => c_many hk ok hN k) (fun c σ P hr ok hz k => m_many hr ok k) h k0⟩
  rw [if_neg hc11]
  by_cases hc12 : sw = 12
  · rw [if_pos hc12]
    exact ⟨hv1, hv2, inv_ask (X := fun P σ => w_X11_thing (xs (tn (x3 + 1))) (xs (tn (x3 + 2))) σ P) (Y := fun P σ => w_X12_thing (xs (tn (x3 + 1))) (xs (tn (x3 + 2))) σ P) (fun c => thingA c (xs (tn (x3 + 1))) (xs (tn (x3 + 2)))) (fun c σ P hk ok k => c_thing hk ok hN k) (fun c σ P hr ok hz k => m_thing hr ok k) h k0⟩
  rw [if_neg hc12]
  by_cases hc13 : sw = 13
  · rw [if_pos hc13]
    exact ⟨hv1, hv2, inv_ask (X := fun P σ => w_X11_making (xs (tn (x3 + 1))) (xs (tn (x3 + 2))) σ P) (Y := fun P σ => w_X12_making (xs (tn (x3 + 1))) (xs (tn (x3 + 2))) σ P) (fun c => makingA c (xs (tn (x3 + 1))) (xs (tn (x3 + 2)))) (fun c σ P hk ok k => c_making hk ok k) (fun c σ P hr ok hz k => m_making hr ok k) h k0⟩
  rw [if_neg hc13]
  by_cases hc14 : sw = 14
  · rw [if_pos hc14]
    exact ⟨hv1, inv_ask (X := fun P σ => w_X11_needs (xs (tn (x3 + 1))) σ P) (Y := fun P σ => w_X12_needs (xs (tn (x3 + 1))) σ P) (fun c => needsA c (xs (tn (x3 + 1)))) (fun c σ P hk ok k => c_needs hk ok k) (fun c σ P hr ok hz k => m_needs hr ok k) h k0⟩
  rw [if_neg hc14]
  by_cases hc15 : sw = 15
  · rw [if_pos hc15]
    exact ⟨hv1, hv2, inv_ask (X := fun P σ => w_X11_hate (xs (tn (x3 + 1))) (xs (tn (x3 + 2))) σ P) (Y := fun P σ => w_X12_hate (xs (tn (x3 + 1))) (xs (tn (x3 + 2))) σ P) (fun c => hateA c (xs (tn (x3 + 1))) (xs (tn (x3 + 2)))) (fun c σ P hk ok k => c_hate hk ok k) (fun c σ P hr ok hz k => m_hate hr ok k) h k0⟩
  rw [if_neg hc15]
  by_cases hc16 : sw = 16
  · rw [if_pos hc16]
    exact ⟨hv1, inv_copyWorth hN h k0⟩
  rw [if_neg hc16]
  by_cases hc17 : sw = 17
  · rw [if_pos hc17]
    exact ⟨hv1, inv_deed (X := fun P σ => w_X11_year (xs (tn (x3 + 1))) σ P) (Y := fun P σ => w_X12_year (xs (tn (x3 + 1))) σ P) (fun c => yearA c (xs (tn (x3 + 1)))) SD SMD (sd_o (Or.inl rfl)) (smd_o (Or.inl rfl)) (fun c ok => year_OK ok) (fun c ok => year_KP) (fun c σ P hk ok k => c_year hk ok hN k) (fun c σ P hr ok k => m_year hr ok k) h k0⟩
  rw [if_neg hc17]
  by_cases hc18 : sw = 18
  · rw [if_pos hc18]
    exact ⟨hv1, inv_deed (X := fun P σ => w_X11_unmake (xs (tn (x3 + 1))) σ P) (Y := fun P σ => w_X12_unmake (xs (tn (x3 + 1))) σ P) (fun c => unmakeA c (xs (tn (x3 + 1)))) SD SMD (sd_o (Or.inl rfl)) (smd_o (Or.inl rfl)) (fun c ok => unmake_OK ok) (fun c ok => unmake_KP) (fun c σ P hk ok k => c_unmake hk ok hN k) (fun c σ P hr ok k => m_unmake hr ok k) h k0⟩
  rw [if_neg hc18]
  by_cases hc19 : sw = 19
  · rw [if_pos hc19]
    exact ⟨hv1, inv_deed (X := fun P σ => w_X11_remake (xs (tn (x3 + 1))) σ P) (Y := fun P σ => w_X12_remake (xs (tn (x3 + 1))) σ P) (fun c => remakeA c (xs (tn (x3 + 1)))) SD SMD (sd_o (Or.inl rfl)) (smd_o (Or.inl rfl)) (fun c ok => remake_OK ok) (fun c ok => remake_KP) (fun c σ P hk ok k => c_remake hk ok hN k) (fun c σ P hr ok k => m_remake hr ok k) h k0⟩
  rw [if_neg hc19]
  by_cases hc20 : sw = 20
  · rw [if_pos hc20]
    refine ⟨hv1, hv2, ?_⟩
    by_cases hb : xs (tn (x3 + 2)) = 0
    · simp only [if_pos hb]
      exact inv_deed (X := fun P σ => w_X11_exempt (xs (tn (x3 + 1))) (bI false) σ P) (Y := fun P σ => w_X12_exempt (xs (tn (x3 + 1))) (bI false) σ P) (fun c => exemptA c (xs (tn (x3 + 1))) false) SD SMD (sd_o (Or.inl rfl)) (smd_o (Or.inl rfl)) (fun c ok => exempt_OK ok) (fun c ok => exempt_KP) (fun c σ P hk ok k => c_exempt hk ok k) (fun c σ P hr ok k => m_exempt hr ok k) h k0
    · simp only [if_neg hb]
      exact inv_deed (X := fun P σ => w_X11_exempt (xs (tn (x3 + 1))) (bI true) σ P) (Y := fun P σ => w_X12_exempt (xs (tn (x3 + 1))) (bI true) σ P) (fun c => exemptA c (xs (tn (x3 + 1))) true) SD SMD (sd_o (Or.inl rfl)) (smd_o (Or.inl rfl)) (fun c ok => exempt_OK ok) (fun c ok => exempt_KP) (fun c σ P hk ok k => c_exempt hk ok k) (fun c σ P hr ok k => m_exempt hr ok k) h k0
  rw [if_neg hc20]
  by_cases hc21 : sw = 21
  · rw [if_pos hc21]
    exact ⟨hv1, hv2, hv3, inv_deed (X := fun P σ => w_X11_grudge (xs (tn (x3 + 1))) (xs (tn (x3 + 2))) (xs (tn (x3 + 3))) σ P) (Y := fun P σ => w_X12_grudge (xs (tn (x3 + 1))) (xs (tn (x3 + 2))) (xs (tn (x3 + 3))) σ P) (fun c => grudgeA c (xs (tn (x3 + 1))) (xs (tn (x3 + 2))) (xs (tn (x3 + 3)))) SRu SMRu (sd_o (Or.inr rfl)) (smd_o (Or.inr rfl)) (fun c ok => grudge_OK ok) (fun c ok => grudge_KP ok) (fun c σ P hk ok k => c_grudge hk ok k) (fun c σ P hr ok k => m_grudge hr ok k) h k1⟩
  rw [if_neg hc21]
  by_cases hc22 : sw = 22
  · rw [if_pos hc22]
    exact ⟨hv1, inv_deed (X := fun P σ => w_X11_rule (xs (tn (x3 + 1))) σ P) (Y := fun P σ => w_X12_rule (xs (tn (x3 + 1))) σ P) (fun c => ruleA c (xs (tn (x3 + 1)))) SRu SMRu (sd_o (Or.inr rfl)) (smd_o (Or.inr rfl)) (fun c ok => rule_OK ok) (fun c ok => rule_KP) (fun c σ P hk ok k => c_rule hk ok k) (fun c σ P hr ok k => m_rule hr ok k) h k1⟩
  rw [if_neg hc22]
  by_cases hc23 : sw = 23
  · rw [if_pos hc23]
    exact inv_ask (X := fun P σ => w_X11_vote σ P) (Y := fun P σ => w_X12_vote σ P) (fun c => voteA c) (fun c σ P hk ok k => c_vote hk ok hN k) (fun c σ P hr ok hz k => m_vote hr ok k) h k0
  rw [if_neg hc23]
  by_cases hc24 : sw = 24
  · rw [if_pos hc24]
    exact ⟨hv1, inv_ask (X := fun P σ => w_X11_votes (xs (tn (x3 + 1))) σ P) (Y := fun P σ => w_X12_votes (xs (tn (x3 + 1))) σ P) (fun c => votesA c (xs (tn (x3 + 1)))) (fun c σ P hk ok k => c_votes hk ok hN k) (fun c σ P hr ok hz k => m_votes hr ok k) h k0⟩
  rw [if_neg hc24]
  by_cases hc25 : sw = 25
  · rw [if_pos hc25]
    exact ⟨hv1, inv_ask (X := fun P σ => w_X11_voteBy (xs (tn (x3 + 1))) σ P) (Y := fun P σ => w_X12_voteBy (xs (tn (x3 + 1))) σ P) (fun c => voteByA c (xs (tn (x3 + 1)))) (fun c σ P hk ok k => c_voteBy hk ok hN k) (fun c σ P hr ok hz k => m_voteBy hr ok k) h k0⟩
  rw [if_neg hc25]
  by_cases hc26 : sw = 26
  · rw [if_pos hc26]
    exact ⟨hv1, inv_sway hN h k0⟩
  rw [if_neg hc26]
  by_cases hc27 : sw = 27
  · rw [if_pos hc27]
    exact ⟨hv1, inv_ask (X := fun P σ => w_X11_falls (xs (tn (x3 + 1))) σ P) (Y := fun P σ => w_X12_falls (xs (tn (x3 + 1))) σ P) (fun c => fallsA c (xs (tn (x3 + 1)))) (fun c σ P hk ok k => c_falls hk ok hN k) (fun c σ P hr ok hz k => m_falls hr ok k) h k0⟩
  rw [if_neg hc27]
  by_cases hc28 : sw = 28
  · rw [if_pos hc28]
    exact ⟨hv1, inv_ask (X := fun P σ => w_X11_loss (xs (tn (x3 + 1))) σ P) (Y := fun P σ => w_X12_loss (xs (tn (x3 + 1))) σ P) (fun c => lossA c (xs (tn (x3 + 1)))) (fun c σ P hk ok k => c_loss hk ok hN k) (fun c σ P hr ok hz k => m_loss hr ok k) h k0⟩
  rw [if_neg hc28]
  by_cases hc29 : sw = 29
  · rw [if_pos hc29]
    exact inv_ask (X := fun P σ => w_X11_keystone σ P) (Y := fun P σ => w_X12_keystone σ P) (fun c => keyA c) (fun c σ P hk ok k => c_keystone hk ok hN k) (fun c σ P hr ok hz k => m_keystone hr ok k) h k0
  rw [if_neg hc29]
  by_cases hc30 : sw = 30
  · rw [if_pos hc30]
    exact ⟨hv1, inv_ask (X := fun P σ => w_X11_goneBy (xs (tn (x3 + 1))) σ P) (Y := fun P σ => w_X12_goneBy (xs (tn (x3 + 1))) σ P) (fun c => goneByA c (xs (tn (x3 + 1)))) (fun c σ P hk ok k => c_goneBy hk ok hN k) (fun c σ P hr ok hz k => m_goneBy hr ok k) h k0⟩
  rw [if_neg hc30]
  by_cases hc31 : sw = 31
  · rw [if_pos hc31]
    exact ⟨hv1, inv_ask (X := fun P σ => w_X11_ends (xs (tn (x3 + 1))) σ P) (Y := fun P σ => w_X12_ends (xs (tn (x3 + 1))) σ P) (fun c => endsA c (xs (tn (x3 + 1)))) (fun c σ P hk ok k => c_ends hk ok hN k) (fun c σ P hr ok hz k => m_ends hr ok k) h k0⟩
  rw [if_neg hc31]
  by_cases hc32 : sw = 32
  · rw [if_pos hc32]
    exact ⟨hv1, inv_ask (X := fun P σ => w_X11_later (xs (tn (x3 + 1))) σ P) (Y := fun P σ => w_X12_later (xs (tn (x3 + 1))) σ P) (fun c => laterA c (xs (tn (x3 + 1)))) (fun c σ P hk ok k => c_later hk ok hN k) (fun c σ P hr ok hz k => m_later hr ok k) h k0⟩
  rw [if_neg hc32]
  by_cases hc33 : sw = 33
  · rw [if_pos hc33]
    exact ⟨hv1, hv2, inv_ask (X := fun P σ => w_X11_keep (xs (tn (x3 + 1))) (xs (tn (x3 + 2))) σ P) (Y := fun P σ => w_X12_keep (xs (tn (x3 + 1))) (xs (tn (x3 + 2))) σ P) (fun c => sizA (keepM c (xs (tn (x3 + 1))) (xs (tn (x3 + 2))))) (fun c σ P hk ok k => c_keep hk ok hN k) (fun c σ P hr ok hz k => m_keep hr ok k) h k0⟩
  rw [if_neg hc33]
  by_cases hc34 : sw = 34
  · rw [if_pos hc34]
    exact ⟨hv1, hv2, inv_ask (X := fun P σ => w_X11_keepSet (xs (tn (x3 + 1))) (xs (tn (x3 + 2))) σ P) (Y := fun P σ => w_X12_keepSet (xs (tn (x3 + 1))) (xs (tn (x3 + 2))) σ P) (fun c => setA (keepM c (xs (tn (x3 + 1))) (xs (tn (x3 + 2))))) (fun c σ P hk ok k => c_keepSet hk ok hN k) (fun c σ P hr ok hz k => m_keepSet hr ok k) h k0⟩
  rw [if_neg hc34]
  by_cases hc35 : sw = 35
  · rw [if_pos hc35]
    exact ⟨hv1, inv_ask (X := fun P σ => w_X11_strike (xs (tn (x3 + 1))) σ P) (Y := fun P σ => w_X12_strike (xs (tn (x3 + 1))) σ P) (fun c => sizA (strikeM c (xs (tn (x3 + 1))))) (fun c σ P hk ok k => c_strike hk ok hN k) (fun c σ P hr ok hz k => m_strike hr ok k) h k0⟩
  rw [if_neg hc35]
  by_cases hc36 : sw = 36
  · rw [if_pos hc36]
    exact ⟨hv1, inv_ask (X := fun P σ => w_X11_strikeSet (xs (tn (x3 + 1))) σ P) (Y := fun P σ => w_X12_strikeSet (xs (tn (x3 + 1))) σ P) (fun c => setA (strikeM c (xs (tn (x3 + 1))))) (fun c σ P hk ok k => c_strikeSet hk ok hN k) (fun c σ P hr ok hz k => m_strikeSet hr ok k) h k0⟩
  rw [if_neg hc36]
  by_cases hc37 : sw = 37
  · rw [if_pos hc37]
    exact ⟨hv1, inv_agenda hN h k0⟩
  rw [if_neg hc37]
  by_cases hc38 : sw = 38
  · rw [if_pos hc38]
    exact ⟨hv1, inv_agendaAt h k0⟩
  rw [if_neg hc38]
  by_cases hc39 : sw = 39
  · rw [if_pos hc39]
    exact ⟨hv1, hv2, inv_ask (X := fun P σ => w_X11_game (xs (tn (x3 + 1))) (xs (tn (x3 + 2))) σ P) (Y := fun P σ => w_X12_game (xs (tn (x3 + 1))) (xs (tn (x3 + 2))) σ P) (fun c => gameA c (xs (tn (x3 + 1))) (xs (tn (x3 + 2)))) (fun c σ P hk ok k => c_game hk ok hN k) (fun c σ P hr ok hz k => m_game hr ok k) h k0⟩
  rw [if_neg hc39]
  by_cases hc40 : sw = 40
  · rw [if_pos hc40]
    exact ⟨hv1, hv2, inv_ask (X := fun P σ => w_X11_firstMove (xs (tn (x3 + 1))) (xs (tn (x3 + 2))) σ P) (Y := fun P σ => w_X12_firstMove (xs (tn (x3 + 1))) (xs (tn (x3 + 2))) σ P) (fun c => firstMoveA c (xs (tn (x3 + 1))) (xs (tn (x3 + 2)))) (fun c σ P hk ok k => c_firstMove hk ok hN k) (fun c σ P hr ok hz k => m_firstMove hr ok k) h k0⟩
  rw [if_neg hc40]
  by_cases hc41 : sw = 41
  · rw [if_pos hc41]
    exact ⟨hv1, inv_ask (X := fun P σ => w_X11_again (xs (tn (x3 + 1))) σ P) (Y := fun P σ => w_X12_again (xs (tn (x3 + 1))) σ P) (fun c => sizA (againM c (xs (tn (x3 + 1))))) (fun c σ P hk ok k => c_again hk ok hN k) (fun c σ P hr ok hz k => m_again hr ok k) h k0⟩
  rw [if_neg hc41]
  by_cases hc42 : sw = 42
  · rw [if_pos hc42]
    exact ⟨hv1, inv_ask (X := fun P σ => w_X11_againSet (xs (tn (x3 + 1))) σ P) (Y := fun P σ => w_X12_againSet (xs (tn (x3 + 1))) σ P) (fun c => setA (againM c (xs (tn (x3 + 1))))) (fun c σ P hk ok k => c_againSet hk ok hN k) (fun c σ P hr ok hz k => m_againSet hr ok k) h k0⟩
  rw [if_neg hc42]
  by_cases hc43 : sw = 43
  · rw [if_pos hc43]
    exact ⟨hv1, inv_ask (X := fun P σ => w_X11_wasIt (xs (tn (x3 + 1))) σ P) (Y := fun P σ => w_X12_wasIt (xs (tn (x3 + 1))) σ P) (fun c => wasItA c (xs (tn (x3 + 1)))) (fun c σ P hk ok k => c_wasIt hk ok hN k) (fun c σ P hr ok hz k => m_wasIt hr ok k) h k0⟩
  rw [if_neg hc43]
  by_cases hc44 : sw = 44
  · rw [if_pos hc44]
    exact ⟨hv1, inv_ask (X := fun P σ => w_X11_tells (xs (tn (x3 + 1))) σ P) (Y := fun P σ => w_X12_tells (xs (tn (x3 + 1))) σ P) (fun c => tellsA c (xs (tn (x3 + 1)))) (fun c σ P hk ok k => c_tells hk ok hN k) (fun c σ P hr ok hz k => m_tells hr ok k) h k0⟩
  rw [if_neg hc44]
  by_cases hc45 : sw = 45
  · rw [if_pos hc45]
    exact ⟨hv1, inv_ask (X := fun P σ => w_X11_sure (xs (tn (x3 + 1))) σ P) (Y := fun P σ => w_X12_sure (xs (tn (x3 + 1))) σ P) (fun c => sureA c (xs (tn (x3 + 1)))) (fun c σ P hk ok k => c_sure hk ok hN k) (fun c σ P hr ok hz k => m_sure hr ok k) h k0⟩
  rw [if_neg hc45]
  by_cases hc46 : sw = 46
  · rw [if_pos hc46]
    exact inv_askL (X := fun P σ => w_X11_histories σ P) (Y := fun P σ => w_X12_histories σ P) (fun c => historiesA c) (fun c σ P hk ok k => c_histories hk ok k) (fun c σ P hr ok k => m_histories hr ok k) h k0
  rw [if_neg hc46]
  by_cases hc47 : sw = 47
  · rw [if_pos hc47]
    exact inv_ask (X := fun P σ => w_X11_firsts σ P) (Y := fun P σ => w_X12_firsts σ P) (fun c => firstsA c) (fun c σ P hk ok k => c_firsts hk ok k) (fun c σ P hr ok hz k => m_firsts hr ok k) h k0
  rw [if_neg hc47]
  by_cases hc48 : sw = 48
  · rw [if_pos hc48]
    exact inv_ask (X := fun P σ => w_X11_clash σ P) (Y := fun P σ => w_X12_clash σ P) (fun c => clashA c) (fun c σ P hk ok k => c_clash hk ok k) (fun c σ P hr ok hz k => m_clash hr ok hz k) h k0
  rw [if_neg hc48]
  by_cases hc49 : sw = 49
  · rw [if_pos hc49]
    exact ⟨hv1, hv2, inv_odds h k0⟩
  rw [if_neg hc49]
  by_cases hc50 : sw = 50
  · rw [if_pos hc50]
    exact ⟨hv1, inv_live hN h k0⟩
  rw [if_neg hc50]
  by_cases hc51 : sw = 51
  · rw [if_pos hc51]
    exact ⟨hv1, inv_lived h k0⟩
  rw [if_neg hc51]
  by_cases hc52 : sw = 52
  · rw [if_pos hc52]
    exact ⟨hv1, hv2, inv_mean hN h k0⟩
  rw [if_neg hc52]
  by_cases hc53 : sw = 53
  · rw [if_pos hc53]
    exact inv_mark h k0
  rw [if_neg hc53]
  by_cases hc54 : sw = 54
  · rw [if_pos hc54]
    exact inv_back hN h k1
  rw [if_neg hc54]
  exact k0 σ h
theorem law_loop {b L : Nat} {xs : Nat → Int32} (hL : L ≤ 3072) {σ : Sto} (h : INV 1 σ) : w_L b L xs σ := by
  refine Lp_inv (fun s => ∃ n, s.1 = nI (6 * n) ∧ n ≤ 513 ∧ INV (n + 1) s.2) (fun s => 4000 - tn s.1) ⟨0, rfl, by decide, h⟩ ?_
  rintro K ⟨x3, τ⟩ ⟨n, hx, hn, hi⟩ kk
  dsimp only at hx hi kk ⊢
  unfold w_L_18
  by_cases hlt : (nI L - 6) < x3
  · rw [if_pos hlt]; trivial
  · rw [if_neg hlt]
    have h6 : ¬ L < 6 := fun q => hlt (by
      have h1 : nI L - 6 < 0 := by
        rcases (show L = 0 ∨ L = 1 ∨ L = 2 ∨ L = 3 ∨ L = 4 ∨ L = 5 by omega) with rfl | rfl | rfl | rfl | rfl | rfl <;> decide
      have h2 : (0 : Int32) ≤ x3 := by
        rw [hx, N0, jI_le (by decide) (by omega)]
        omega
      exact Int32.lt_of_lt_of_le h1 h2)
    have hle : 6 * n + 6 ≤ L := by
      rw [hx, N6, jI_sub (by omega), jI_lt (by omega) (by omega)] at hlt
      omega
    have vj : ∀ j, j ≤ 5 → vp_in (nI (6 * n) + nI j) L := fun j hj => by
      rw [jI_add]
      exact vp_nI (by omega) (by omega)
    refine ⟨by rw [hx]; exact vp_nI (by omega) (by omega), fun sw _ => law_step (N := n + 1) (by omega) hi ?_ ?_ ?_ ?_ ?_ (fun υ hu => ?_)⟩
    · rw [hx]; exact vj 1 (by decide)
    · rw [hx]; exact vj 2 (by decide)
    · rw [hx]; exact vj 3 (by decide)
    · rw [hx]; exact vj 4 (by decide)
    · rw [hx]; exact vj 5 (by decide)
    · intro y hy
      have ey : y = nI (6 * (n + 1)) := by rw [hy, hx, N6, jI_add]; rfl
      refine kk (y, υ) ⟨n + 1, ey, by omega, hu⟩ ?_
      show 4000 - tn y < 4000 - tn x3
      rw [ey, hx, tn_nI (by omega), tn_nI (by omega)]
      omega

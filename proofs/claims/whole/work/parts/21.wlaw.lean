theorem tsw_nil {x : Int32} {lo : Int} : ∀ k : Nat, k < 0 → x.toInt ≠ lo + k := fun k h => absurd h (Nat.not_lt_zero _)
theorem tsw_cons {x : Int32} {lo lo2 : Int} {n : Nat} (hl : lo + 1 = lo2) (h : x.toInt ≠ lo) (t : ∀ k : Nat, k < n → x.toInt ≠ lo2 + k) : ∀ k : Nat, k < n + 1 → x.toInt ≠ lo + k := by
  intro k hk
  cases k with
  | zero => simpa using h
  | succ k =>
    have h2 := t k (by omega)
    rw [← hl] at h2
    intro e
    exact h2 (by rw [e]; push_cast; omega)
def w_L_1733 (b L : Nat) (xs : Nat → Int32) (x3 : Int32) (K : Int32 × Sto → Prop) (σ : Sto) : Prop :=
  ∀ x3_9 : Int32, x3_9 = x3 + 6 → K (x3_9, σ)
theorem s_L_1733 {B : Nat} {E : Nat → List (Nat × Value) → List Value → Sto → Prop} {b L : Nat} {xs : Nat → Int32} (C : Cy B E RL code 4 ret_law 44 1033 (Zl b L xs)) (x3 : Int32) (K : Int32 × Sto → Prop) (hK : ∀ (x3 : Int32) (σ : Sto), K (x3, σ) → E 18 [(0, .ref b), (1, .ref (B + 1)), (2, .ref (B + 101)), (3, .int x3)] [] σ) (σ : Sto) (h : w_L_1733 b L xs x3 K σ) : E 1733 [(0, .ref b), (1, .ref (B + 1)), (2, .ref (B + 101)), (3, .int x3)] [] σ := by
  unfold w_L_1733 at h
  obtain ⟨x3_9, hx_10⟩ : ∃ y : Int32, y = x3 + 6 := ⟨_, rfl⟩
  replace h := h x3_9 hx_10
  refine f_iinc C (j := 3) (v := x3_9) (lv2 := [(3, .int x3_9), (0, .ref b), (1, .ref (B + 1)), (2, .ref (B + 101))]) dL_law_1733 rfl hx_10.symm (by decide) rfl rfl ?_
  refine f_goto C (t := 18) dL_law_1736 (by decide) ?_
  refine f_lv C (lv2 := [(0, .ref b), (1, .ref (B + 1)), (2, .ref (B + 101)), (3, .int x3_9)]) [1, 2, 3, 0] rfl ?_
  exact hK _ _ h
def w_L_18 (b L : Nat) (xs : Nat → Int32) (x3 : Int32) (K : Int32 × Sto → Prop) (σ : Sto) : Prop :=
  (if ((nI L) - 6) < x3 then True else vp_in x3 L ∧ ∀ sw_3 : Int32, sw_3 = (xs (tn x3)) &&& 63 → (if sw_3 = 0 then w_X11_status σ (fun r_5 σ_4 => w_X12_status σ_4 (fun r_7 σ_6 => (if r_5 = r_7 then w_L_1733 b L xs x3 K σ_6 else False))) else (if sw_3 = 1 then w_X11_top σ (fun r_13 σ_12 => w_X12_top σ_12 (fun r_15 σ_14 => (if (lg_cmp r_13 r_15) = 0 then w_L_1733 b L xs x3 K σ_14 else False))) else (if sw_3 = 2 then w_X11_bottom σ (fun r_19 σ_18 => w_X12_bottom σ_18 (fun r_21 σ_20 => (if (lg_cmp r_19 r_21) = 0 then w_L_1733 b L xs x3 K σ_20 else False))) else (if sw_3 = 3 then vp_in (x3 + 1) L ∧ vp_in (x3 + 2) L ∧ vp_in (x3 + 3) L ∧ w_X11_tray (xs (tn (x3 + 1))) (xs (tn (x3 + 2))) (xs (tn (x3 + 3))) σ (fun r_28 σ_27 => w_X12_tray (xs (tn (x3 + 1))) (xs (tn (x3 + 2))) (xs (tn (x3 + 3))) σ_27 (fun r_30 σ_29 => (if r_28 = r_30 then w_L_1733 b L xs x3 K σ_29 else False))) else (if sw_3 = 4 then vp_in (x3 + 1) L ∧ vp_in (x3 + 2) L ∧ vp_in (x3 + 3) L ∧ vp_in (x3 + 4) L ∧ w_X11_write (xs (tn (x3 + 1))) (xs (tn (x3 + 2))) ((((xs (tn (x3 + 3))).toInt64) <<< ((32 : Int32).toInt64 &&& 63)) ||| (((xs (tn (x3 + 4))).toInt64) &&& 4294967295)) σ (fun r_38 σ_37 => w_X12_write (xs (tn (x3 + 1))) (xs (tn (x3 + 2))) ((((xs (tn (x3 + 3))).toInt64) <<< ((32 : Int32).toInt64 &&& 63)) ||| (((xs (tn (x3 + 4))).toInt64) &&& 4294967295)) σ_37 (fun r_40 σ_39 => (if r_38 = r_40 then w_L_1733 b L xs x3 K σ_39 else False))) else (if sw_3 = 5 then vp_in (x3 + 1) L ∧ vp_in (x3 + 2) L ∧ w_X11_read (xs (tn (x3 + 1))) (xs (tn (x3 + 2))) σ (fun r_46 σ_45 => w_X12_read (xs (tn (x3 + 1))) (xs (tn (x3 + 2))) σ_45 (fun r_48 σ_47 => (if (lg_cmp r_46 r_48) = 0 then w_L_1733 b L xs x3 K σ_47 else False))) else (if sw_3 = 6 then vp_in (x3 + 1) L ∧ vp_in (x3 + 2) L ∧ vp_in (x3 + 3) L ∧ vp_in (x3 + 4) L ∧ vp_in (x3 + 5) L ∧ w_X11_pour (xs (tn (x3 + 1))) (xs (tn (x3 + 2))) (xs (tn (x3 + 3))) (xs (tn (x3 + 4))) (xs (tn (x3 + 5))) σ (fun r_57 σ_56 => w_X12_pour (xs (tn (x3 + 1))) (xs (tn (x3 + 2))) (xs (tn (x3 + 3))) (xs (tn (x3 + 4))) (xs (tn (x3 + 5))) σ_56 (fun r_59 σ_58 => (if r_57 = r_59 then w_L_1733 b L xs x3 K σ_58 else False))) else (if sw_3 = 7 then vp_in (x3 + 1) L ∧ vp_in (x3 + 2) L ∧ vp_in (x3 + 3) L ∧ vp_in (x3 + 4) L ∧ vp_in (x3 + 5) L ∧ w_X11_feed (xs (tn (x3 + 1))) (xs (tn (x3 + 2))) (xs (tn (x3 + 3))) (xs (tn (x3 + 4))) (xs (tn (x3 + 5))) σ (fun r_68 σ_67 => w_X12_feed (xs (tn (x3 + 1))) (xs (tn (x3 + 2))) (xs (tn (x3 + 3))) (xs (tn (x3 + 4))) (xs (tn (x3 + 5))) σ_67 (fun r_70 σ_69 => (if r_68 = r_70 then w_L_1733 b L xs x3 K σ_69 else False))) else (if sw_3 = 8 then vp_in (x3 + 1) L ∧ w_X11_city (xs (tn (x3 + 1))) σ (fun r_75 σ_74 => w_X12_city (xs (tn (x3 + 1))) σ_74 (fun r_77 σ_76 => (if r_75 = r_77 then w_L_1733 b L xs x3 K σ_76 else False))) else (if sw_3 = 9 then vp_in (x3 + 1) L ∧ w_X11_centuries (xs (tn (x3 + 1))) σ (fun r_82 σ_81 => w_X12_centuries (xs (tn (x3 + 1))) σ_81 (fun r_84 σ_83 => (if r_82 = r_84 then w_L_1733 b L xs x3 K σ_83 else False))) else (if sw_3 = 10 then vp_in (x3 + 1) L ∧ w_X11_fault (xs (tn (x3 + 1))) σ (fun r_89 σ_88 => w_X12_fault (xs (tn (x3 + 1))) σ_88 (fun r_91 σ_90 => (if r_89 = r_91 then w_L_1733 b L xs x3 K σ_90 else False))) else (if sw_3 = 11 then vp_in (x3 + 1) L ∧ w_X11_many (xs (tn (x3 + 1))) σ (fun r_96 σ_95 => w_X12_many (xs (tn (x3 + 1))) σ_95 (fun r_98 σ_97 => (if r_96 = r_98 then w_L_1733 b L xs x3 K σ_97 else False))) else (if sw_3 = 12 then vp_in (x3 + 1) L ∧ vp_in (x3 + 2) L ∧ w_X11_thing (xs (tn (x3 + 1))) (xs (tn (x3 + 2))) σ (fun r_104 σ_103 => w_X12_thing (xs (tn (x3 + 1))) (xs (tn (x3 + 2))) σ_103 (fun r_106 σ_105 => (if r_104 = r_106 then w_L_1733 b L xs x3 K σ_105 else False))) else (if sw_3 = 13 then vp_in (x3 + 1) L ∧ vp_in (x3 + 2) L ∧ w_X11_making (xs (tn (x3 + 1))) (xs (tn (x3 + 2))) σ (fun r_112 σ_111 => w_X12_making (xs (tn (x3 + 1))) (xs (tn (x3 + 2))) σ_111 (fun r_114 σ_113 => (if r_112 = r_114 then w_L_1733 b L xs x3 K σ_113 else False))) else (if sw_3 = 14 then vp_in (x3 + 1) L ∧ w_X11_needs (xs (tn (x3 + 1))) σ (fun r_119 σ_118 => w_X12_needs (xs (tn (x3 + 1))) σ_118 (fun r_121 σ_120 => (if r_119 = r_121 then w_L_1733 b L xs x3 K σ_120 else False))) else (if sw_3 = 15 then vp_in (x3 + 1) L ∧ vp_in (x3 + 2) L ∧ w_X11_hate (xs (tn (x3 + 1))) (xs (tn (x3 + 2))) σ (fun r_127 σ_126 => w_X12_hate (xs (tn (x3 + 1))) (xs (tn (x3 + 2))) σ_126 (fun r_129 σ_128 => (if r_127 = r_129 then w_L_1733 b L xs x3 K σ_128 else False))) else (if sw_3 = 16 then vp_in (x3 + 1) L ∧ w_X11_copyWorth (xs (tn (x3 + 1))) σ (fun r_134 σ_133 => w_X12_copyWorth (xs (tn (x3 + 1))) σ_133 (fun r_136 σ_135 => (if r_134 = r_136 then w_L_1733 b L xs x3 K σ_135 else False))) else (if sw_3 = 17 then vp_in (x3 + 1) L ∧ w_X11_year (xs (tn (x3 + 1))) σ (fun r_141 σ_140 => w_X12_year (xs (tn (x3 + 1))) σ_140 (fun r_143 σ_142 => (if r_141 = r_143 then w_L_1733 b L xs x3 K σ_142 else False))) else (if sw_3 = 18 then vp_in (x3 + 1) L ∧ w_X11_unmake (xs (tn (x3 + 1))) σ (fun r_148 σ_147 => w_X12_unmake (xs (tn (x3 + 1))) σ_147 (fun r_150 σ_149 => (if r_148 = r_150 then w_L_1733 b L xs x3 K σ_149 else False))) else (if sw_3 = 19 then vp_in (x3 + 1) L ∧ w_X11_remake (xs (tn (x3 + 1))) σ (fun r_155 σ_154 => w_X12_remake (xs (tn (x3 + 1))) σ_154 (fun r_157 σ_156 => (if r_155 = r_157 then w_L_1733 b L xs x3 K σ_156 else False))) else (if sw_3 = 20 then vp_in (x3 + 1) L ∧ vp_in (x3 + 2) L ∧ (if (xs (tn (x3 + 2))) = 0 then w_X11_exempt (xs (tn (x3 + 1))) 0 σ (fun r_164 σ_163 => (if (xs (tn (x3 + 2))) = 0 then w_X12_exempt (xs (tn (x3 + 1))) 0 σ_163 (fun r_167 σ_166 => (if r_164 = r_167 then w_L_1733 b L xs x3 K σ_166 else False)) else w_X12_exempt (xs (tn (x3 + 1))) 1 σ_163 (fun r_170 σ_169 => (if r_164 = r_170 then w_L_1733 b L xs x3 K σ_169 else False)))) else w_X11_exempt (xs (tn (x3 + 1))) 1 σ (fun r_173 σ_172 => (if (xs (tn (x3 + 2))) = 0 then w_X12_exempt (xs (tn (x3 + 1))) 0 σ_172 (fun r_176 σ_175 => (if r_173 = r_176 then w_L_1733 b L xs x3 K σ_175 else False)) else w_X12_exempt (xs (tn (x3 + 1))) 1 σ_172 (fun r_179 σ_178 => (if r_173 = r_179 then w_L_1733 b L xs x3 K σ_178 else False))))) else (if sw_3 = 21 then vp_in (x3 + 1) L ∧ vp_in (x3 + 2) L ∧ vp_in (x3 + 3) L ∧ w_X11_grudge (xs (tn (x3 + 1))) (xs (tn (x3 + 2))) (xs (tn (x3 + 3))) σ (fun r_186 σ_185 => w_X12_grudge (xs (tn (x3 + 1))) (xs (tn (x3 + 2))) (xs (tn (x3 + 3))) σ_185 (fun r_188 σ_187 => (if r_186 = r_188 then w_L_1733 b L xs x3 K σ_187 else False))) else (if sw_3 = 22 then vp_in (x3 + 1) L ∧ w_X11_rule (xs (tn (x3 + 1))) σ (fun r_193 σ_192 => w_X12_rule (xs (tn (x3 + 1))) σ_192 (fun r_195 σ_194 => (if r_193 = r_195 then w_L_1733 b L xs x3 K σ_194 else False))) else (if sw_3 = 23 then w_X11_vote σ (fun r_199 σ_198 => w_X12_vote σ_198 (fun r_201 σ_200 => (if r_199 = r_201 then w_L_1733 b L xs x3 K σ_200 else False))) else (if sw_3 = 24 then vp_in (x3 + 1) L ∧ w_X11_votes (xs (tn (x3 + 1))) σ (fun r_206 σ_205 => w_X12_votes (xs (tn (x3 + 1))) σ_205 (fun r_208 σ_207 => (if r_206 = r_208 then w_L_1733 b L xs x3 K σ_207 else False))) else (if sw_3 = 25 then vp_in (x3 + 1) L ∧ w_X11_voteBy (xs (tn (x3 + 1))) σ (fun r_213 σ_212 => w_X12_voteBy (xs (tn (x3 + 1))) σ_212 (fun r_215 σ_214 => (if r_213 = r_215 then w_L_1733 b L xs x3 K σ_214 else False))) else (if sw_3 = 26 then vp_in (x3 + 1) L ∧ w_X11_sway (xs (tn (x3 + 1))) σ (fun r_220 σ_219 => w_X12_sway (xs (tn (x3 + 1))) σ_219 (fun r_222 σ_221 => (if r_220 = r_222 then w_L_1733 b L xs x3 K σ_221 else False))) else (if sw_3 = 27 then vp_in (x3 + 1) L ∧ w_X11_falls (xs (tn (x3 + 1))) σ (fun r_227 σ_226 => w_X12_falls (xs (tn (x3 + 1))) σ_226 (fun r_229 σ_228 => (if r_227 = r_229 then w_L_1733 b L xs x3 K σ_228 else False))) else (if sw_3 = 28 then vp_in (x3 + 1) L ∧ w_X11_loss (xs (tn (x3 + 1))) σ (fun r_234 σ_233 => w_X12_loss (xs (tn (x3 + 1))) σ_233 (fun r_236 σ_235 => (if r_234 = r_236 then w_L_1733 b L xs x3 K σ_235 else False))) else (if sw_3 = 29 then w_X11_keystone σ (fun r_240 σ_239 => w_X12_keystone σ_239 (fun r_242 σ_241 => (if r_240 = r_242 then w_L_1733 b L xs x3 K σ_241 else False))) else (if sw_3 = 30 then vp_in (x3 + 1) L ∧ w_X11_goneBy (xs (tn (x3 + 1))) σ (fun r_247 σ_246 => w_X12_goneBy (xs (tn (x3 + 1))) σ_246 (fun r_249 σ_248 => (if r_247 = r_249 then w_L_1733 b L xs x3 K σ_248 else False))) else (if sw_3 = 31 then vp_in (x3 + 1) L ∧ w_X11_ends (xs (tn (x3 + 1))) σ (fun r_254 σ_253 => w_X12_ends (xs (tn (x3 + 1))) σ_253 (fun r_256 σ_255 => (if r_254 = r_256 then w_L_1733 b L xs x3 K σ_255 else False))) else (if sw_3 = 32 then vp_in (x3 + 1) L ∧ w_X11_later (xs (tn (x3 + 1))) σ (fun r_261 σ_260 => w_X12_later (xs (tn (x3 + 1))) σ_260 (fun r_263 σ_262 => (if r_261 = r_263 then w_L_1733 b L xs x3 K σ_262 else False))) else (if sw_3 = 33 then vp_in (x3 + 1) L ∧ vp_in (x3 + 2) L ∧ w_X11_keep (xs (tn (x3 + 1))) (xs (tn (x3 + 2))) σ (fun r_269 σ_268 => w_X12_keep (xs (tn (x3 + 1))) (xs (tn (x3 + 2))) σ_268 (fun r_271 σ_270 => (if r_269 = r_271 then w_L_1733 b L xs x3 K σ_270 else False))) else (if sw_3 = 34 then vp_in (x3 + 1) L ∧ vp_in (x3 + 2) L ∧ w_X11_keepSet (xs (tn (x3 + 1))) (xs (tn (x3 + 2))) σ (fun r_277 σ_276 => w_X12_keepSet (xs (tn (x3 + 1))) (xs (tn (x3 + 2))) σ_276 (fun r_279 σ_278 => (if r_277 = r_279 then w_L_1733 b L xs x3 K σ_278 else False))) else (if sw_3 = 35 then vp_in (x3 + 1) L ∧ w_X11_strike (xs (tn (x3 + 1))) σ (fun r_284 σ_283 => w_X12_strike (xs (tn (x3 + 1))) σ_283 (fun r_286 σ_285 => (if r_284 = r_286 then w_L_1733 b L xs x3 K σ_285 else False))) else (if sw_3 = 36 then vp_in (x3 + 1) L ∧ w_X11_strikeSet (xs (tn (x3 + 1))) σ (fun r_291 σ_290 => w_X12_strikeSet (xs (tn (x3 + 1))) σ_290 (fun r_293 σ_292 => (if r_291 = r_293 then w_L_1733 b L xs x3 K σ_292 else False))) else (if sw_3 = 37 then vp_in (x3 + 1) L ∧ w_X11_agenda (xs (tn (x3 + 1))) σ (fun r_298 σ_297 => w_X12_agenda (xs (tn (x3 + 1))) σ_297 (fun r_300 σ_299 => (if r_298 = r_300 then w_L_1733 b L xs x3 K σ_299 else False))) else (if sw_3 = 38 then vp_in (x3 + 1) L ∧ w_X11_agendaAt (xs (tn (x3 + 1))) σ (fun r_305 σ_304 => w_X12_agendaAt (xs (tn (x3 + 1))) σ_304 (fun r_307 σ_306 => (if r_305 = r_307 then w_L_1733 b L xs x3 K σ_306 else False))) else (if sw_3 = 39 then vp_in (x3 + 1) L ∧ vp_in (x3 + 2) L ∧ w_X11_game (xs (tn (x3 + 1))) (xs (tn (x3 + 2))) σ (fun r_313 σ_312 => w_X12_game (xs (tn (x3 + 1))) (xs (tn (x3 + 2))) σ_312 (fun r_315 σ_314 => (if r_313 = r_315 then w_L_1733 b L xs x3 K σ_314 else False))) else (if sw_3 = 40 then vp_in (x3 + 1) L ∧ vp_in (x3 + 2) L ∧ w_X11_firstMove (xs (tn (x3 + 1))) (xs (tn (x3 + 2))) σ (fun r_321 σ_320 => w_X12_firstMove (xs (tn (x3 + 1))) (xs (tn (x3 + 2))) σ_320 (fun r_323 σ_322 => (if r_321 = r_323 then w_L_1733 b L xs x3 K σ_322 else False))) else (if sw_3 = 41 then vp_in (x3 + 1) L ∧ w_X11_again (xs (tn (x3 + 1))) σ (fun r_328 σ_327 => w_X12_again (xs (tn (x3 + 1))) σ_327 (fun r_330 σ_329 => (if r_328 = r_330 then w_L_1733 b L xs x3 K σ_329 else False))) else (if sw_3 = 42 then vp_in (x3 + 1) L ∧ w_X11_againSet (xs (tn (x3 + 1))) σ (fun r_335 σ_334 => w_X12_againSet (xs (tn (x3 + 1))) σ_334 (fun r_337 σ_336 => (if r_335 = r_337 then w_L_1733 b L xs x3 K σ_336 else False))) else (if sw_3 = 43 then vp_in (x3 + 1) L ∧ w_X11_wasIt (xs (tn (x3 + 1))) σ (fun r_342 σ_341 => w_X12_wasIt (xs (tn (x3 + 1))) σ_341 (fun r_344 σ_343 => (if r_342 = r_344 then w_L_1733 b L xs x3 K σ_343 else False))) else (if sw_3 = 44 then vp_in (x3 + 1) L ∧ w_X11_tells (xs (tn (x3 + 1))) σ (fun r_349 σ_348 => w_X12_tells (xs (tn (x3 + 1))) σ_348 (fun r_351 σ_350 => (if r_349 = r_351 then w_L_1733 b L xs x3 K σ_350 else False))) else (if sw_3 = 45 then vp_in (x3 + 1) L ∧ w_X11_sure (xs (tn (x3 + 1))) σ (fun r_356 σ_355 => w_X12_sure (xs (tn (x3 + 1))) σ_355 (fun r_358 σ_357 => (if r_356 = r_358 then w_L_1733 b L xs x3 K σ_357 else False))) else (if sw_3 = 46 then w_X11_histories σ (fun r_362 σ_361 => w_X12_histories σ_361 (fun r_364 σ_363 => (if (lg_cmp r_362 r_364) = 0 then w_L_1733 b L xs x3 K σ_363 else False))) else (if sw_3 = 47 then w_X11_firsts σ (fun r_368 σ_367 => w_X12_firsts σ_367 (fun r_370 σ_369 => (if r_368 = r_370 then w_L_1733 b L xs x3 K σ_369 else False))) else (if sw_3 = 48 then w_X11_clash σ (fun r_374 σ_373 => w_X12_clash σ_373 (fun r_376 σ_375 => (if r_374 = r_376 then w_L_1733 b L xs x3 K σ_375 else False))) else (if sw_3 = 49 then vp_in (x3 + 1) L ∧ vp_in (x3 + 2) L ∧ w_X11_aheadOdds (xs (tn (x3 + 1))) (xs (tn (x3 + 2))) σ (fun r_382 σ_381 => w_X12_aheadOdds (xs (tn (x3 + 1))) (xs (tn (x3 + 2))) σ_381 (fun r_384 σ_383 => (if r_382 = r_384 then w_L_1733 b L xs x3 K σ_383 else False))) else (if sw_3 = 50 then vp_in (x3 + 1) L ∧ w_X11_live (xs (tn (x3 + 1))) σ (fun r_389 σ_388 => w_X12_live (xs (tn (x3 + 1))) σ_388 (fun r_391 σ_390 => (if r_389 = r_391 then w_L_1733 b L xs x3 K σ_390 else False))) else (if sw_3 = 51 then vp_in (x3 + 1) L ∧ w_X11_lived (xs (tn (x3 + 1))) σ (fun r_396 σ_395 => w_X12_lived (xs (tn (x3 + 1))) σ_395 (fun r_398 σ_397 => (if r_396 = r_398 then w_L_1733 b L xs x3 K σ_397 else False))) else (if sw_3 = 52 then vp_in (x3 + 1) L ∧ vp_in (x3 + 2) L ∧ w_X11_mean (xs (tn (x3 + 1))) (xs (tn (x3 + 2))) σ (fun r_404 σ_403 => w_X12_mean (xs (tn (x3 + 1))) (xs (tn (x3 + 2))) σ_403 (fun r_406 σ_405 => (if r_404 = r_406 then w_L_1733 b L xs x3 K σ_405 else False))) else (if sw_3 = 53 then w_X11_mark σ (fun r_410 σ_409 => w_X12_mark σ_409 (fun r_412 σ_411 => (if r_410 = r_412 then w_L_1733 b L xs x3 K σ_411 else False))) else (if sw_3 = 54 then w_X11_back σ (fun r_416 σ_415 => w_X12_back σ_415 (fun r_418 σ_417 => (if r_416 = r_418 then w_L_1733 b L xs x3 K σ_417 else False))) else w_L_1733 b L xs x3 K σ))))))))))))))))))))))))))))))))))))))))))))))))))))))))
theorem s_L_18 {B : Nat} {E : Nat → List (Nat × Value) → List Value → Sto → Prop} {b L : Nat} {xs : Nat → Int32} (C : Cy B E RL code 4 ret_law 44 1033 (Zl b L xs)) (x3 : Int32) (K : Int32 × Sto → Prop) (hK : ∀ (x3 : Int32) (σ : Sto), K (x3, σ) → E 18 [(0, .ref b), (1, .ref (B + 1)), (2, .ref (B + 101)), (3, .int x3)] [] σ) (σ : Sto) (h : w_L_18 b L xs x3 K σ) : E 18 [(0, .ref b), (1, .ref (B + 1)), (2, .ref (B + 101)), (3, .int x3)] [] σ := by
  unfold w_L_18 at h
  refine f_iload_n C (j := 3) dL_law_18 rfl rfl rfl ?_
  refine f_aload_n C (j := 0) dL_law_19 rfl rfl rfl ?_
  refine f_slen C dL_law_20 rfl ?_
  refine f_bipush C (v := 6) dL_law_21 kb6 rfl ?_
  refine f_isub C dL_law_23 rfl ?_
  refine f_icmp_gt C (t := 1739) dL_law_24 (by decide) rfl (fun hq_1 => ?_) (fun hq_1 => ?_)
  · replace h := Eq.mp (if_pos hq_1) h
    refine f_iconst C (v := 1) dL_law_1739 kc1 rfl ?_
    exact f_law1 C dL_law_1740
  · replace h := Eq.mp (if_neg hq_1) h
    refine f_aload_n C (j := 0) dL_law_27 rfl rfl rfl ?_
    refine f_iload_n C (j := 3) dL_law_28 rfl rfl rfl ?_
    obtain ⟨hi_2, h⟩ := h
    refine f_sld C (j := tn x3) hi_2 rfl dL_law_29 rfl ?_
    refine f_bipush C (v := 63) dL_law_30 kb63 rfl ?_
    refine f_iand C dL_law_32 rfl ?_
    refine f_name (fun sw_3 hsw_3 => ?_)
    replace h := h sw_3 hsw_3
    by_cases hq_11 : sw_3 = 0
    · replace h := Eq.mp (if_pos hq_11) h
      refine f_tableIn C (off := 235) (t := 268) dL_law_33 (by rw [hq_11]; decide) (by rw [hq_11]; decide) (by rw [hq_11]; rfl) (by decide) ?_
      refine f_aload_n C (j := 1) dL_law_268 rfl rfl rfl ?_
      refine f_callVi C (a := 1) (ci := 11) (As := fun B => []) o1 rfl (c_X11_status   _ _ h) tM_L_13 tI_X11_status tS_X11_status tN_X11 tC_X11_status 0 dd_X11_status rfl (by decide) (by decide) rfl (Nat.le_of_ble_eq_true rfl) dL_law_269 rfl (fun r_5 σ_4 h => ?_)
      refine f_aload_n C (j := 2) dL_law_272 rfl rfl rfl ?_
      refine f_callVi C (a := 101) (ci := 12) (As := fun B => []) o101 rfl (c_X12_status   _ _ h) tM_L_17 tI_X12_status tS_X12_status tN_X12 tC_X12_status 0 dd_X12_status rfl (by decide) (by decide) rfl (Nat.le_of_ble_eq_true rfl) dL_law_273 rfl (fun r_7 σ_6 h => ?_)
      refine f_icmp_eq C (t := 1733) dL_law_276 (by decide) rfl (fun hq_8 => ?_) (fun hq_8 => ?_)
      · replace h := Eq.mp (if_pos hq_8) h
        exact s_L_1733 C _ K hK _ h
      · replace h := Eq.mp (if_neg hq_8) h
        refine f_iconst C (v := 0) dL_law_279 kc0 rfl ?_
        exact h.elim
    replace h := Eq.mp (if_neg hq_11) h
    by_cases hq_17 : sw_3 = 1
    · replace h := Eq.mp (if_pos hq_17) h
      refine f_tableIn C (off := 248) (t := 281) dL_law_33 (by rw [hq_17]; decide) (by rw [hq_17]; decide) (by rw [hq_17]; rfl) (by decide) ?_
      refine f_aload_n C (j := 1) dL_law_281 rfl rfl rfl ?_
      refine f_callVl C (a := 1) (ci := 11) (As := fun B => []) o1 rfl (c_X11_top   _ _ h) tM_L_18 tI_X11_top tS_X11_top tN_X11 tC_X11_top 0 dd_X11_top rfl (by decide) (by decide) rfl (Nat.le_of_ble_eq_true rfl) dL_law_282 rfl (fun r_13 σ_12 h => ?_)
      refine f_aload_n C (j := 2) dL_law_285 rfl rfl rfl ?_
      refine f_callVl C (a := 101) (ci := 12) (As := fun B => []) o101 rfl (c_X12_top   _ _ h) tM_L_22 tI_X12_top tS_X12_top tN_X12 tC_X12_top 0 dd_X12_top rfl (by decide) (by decide) rfl (Nat.le_of_ble_eq_true rfl) dL_law_286 rfl (fun r_15 σ_14 h => ?_)
      refine f_lcmp C dL_law_289 rfl ?_
      refine f_if_eq C (t := 1733) dL_law_290 (by decide) rfl (fun hq_16 => ?_) (fun hq_16 => ?_)
      · replace h := Eq.mp (if_pos hq_16) h
        exact s_L_1733 C _ K hK _ h
      · replace h := Eq.mp (if_neg hq_16) h
        refine f_iconst C (v := 0) dL_law_293 kc0 rfl ?_
        exact h.elim
    replace h := Eq.mp (if_neg hq_17) h
    by_cases hq_23 : sw_3 = 2
    · replace h := Eq.mp (if_pos hq_23) h
      refine f_tableIn C (off := 262) (t := 295) dL_law_33 (by rw [hq_23]; decide) (by rw [hq_23]; decide) (by rw [hq_23]; rfl) (by decide) ?_
      refine f_aload_n C (j := 1) dL_law_295 rfl rfl rfl ?_
      refine f_callVl C (a := 1) (ci := 11) (As := fun B => []) o1 rfl (c_X11_bottom   _ _ h) tM_L_23 tI_X11_bottom tS_X11_bottom tN_X11 tC_X11_bottom 0 dd_X11_bottom rfl (by decide) (by decide) rfl (Nat.le_of_ble_eq_true rfl) dL_law_296 rfl (fun r_19 σ_18 h => ?_)
      refine f_aload_n C (j := 2) dL_law_299 rfl rfl rfl ?_
      refine f_callVl C (a := 101) (ci := 12) (As := fun B => []) o101 rfl (c_X12_bottom   _ _ h) tM_L_26 tI_X12_bottom tS_X12_bottom tN_X12 tC_X12_bottom 0 dd_X12_bottom rfl (by decide) (by decide) rfl (Nat.le_of_ble_eq_true rfl) dL_law_300 rfl (fun r_21 σ_20 h => ?_)
      refine f_lcmp C dL_law_303 rfl ?_
      refine f_if_eq C (t := 1733) dL_law_304 (by decide) rfl (fun hq_22 => ?_) (fun hq_22 => ?_)
      · replace h := Eq.mp (if_pos hq_22) h
        exact s_L_1733 C _ K hK _ h
      · replace h := Eq.mp (if_neg hq_22) h
        refine f_iconst C (v := 0) dL_law_307 kc0 rfl ?_
        exact h.elim
    replace h := Eq.mp (if_neg hq_23) h
    by_cases hq_32 : sw_3 = 3
    · replace h := Eq.mp (if_pos hq_32) h
      refine f_tableIn C (off := 276) (t := 309) dL_law_33 (by rw [hq_32]; decide) (by rw [hq_32]; decide) (by rw [hq_32]; rfl) (by decide) ?_
      refine f_aload_n C (j := 1) dL_law_309 rfl rfl rfl ?_
      refine f_aload_n C (j := 0) dL_law_310 rfl rfl rfl ?_
      refine f_iload_n C (j := 3) dL_law_311 rfl rfl rfl ?_
      refine f_iconst C (v := 1) dL_law_312 kc1 rfl ?_
      refine f_iadd C dL_law_313 rfl ?_
      obtain ⟨hi_24, h⟩ := h
      refine f_sld C (j := tn (x3 + 1)) hi_24 rfl dL_law_314 rfl ?_
      refine f_aload_n C (j := 0) dL_law_315 rfl rfl rfl ?_
      refine f_iload_n C (j := 3) dL_law_316 rfl rfl rfl ?_
      refine f_iconst C (v := 2) dL_law_317 kc2 rfl ?_
      refine f_iadd C dL_law_318 rfl ?_
      obtain ⟨hi_25, h⟩ := h
      refine f_sld C (j := tn (x3 + 2)) hi_25 rfl dL_law_319 rfl ?_
      refine f_aload_n C (j := 0) dL_law_320 rfl rfl rfl ?_
      refine f_iload_n C (j := 3) dL_law_321 rfl rfl rfl ?_
      refine f_iconst C (v := 3) dL_law_322 kc3 rfl ?_
      refine f_iadd C dL_law_323 rfl ?_
      obtain ⟨hi_26, h⟩ := h
      refine f_sld C (j := tn (x3 + 3)) hi_26 rfl dL_law_324 rfl ?_
      refine f_callVi C (a := 1) (ci := 11) (As := fun B => [.int (xs (tn (x3 + 1))), .int (xs (tn (x3 + 2))), .int (xs (tn (x3 + 3)))]) o1 rfl (c_X11_tray  _ _ _ _ _ h) tM_L_27 tI_X11_tray tS_X11_tray tN_X11 tC_X11_tray 3 dd_X11_tray rfl (by decide) (by decide) rfl (Nat.le_of_ble_eq_true rfl) dL_law_325 rfl (fun r_28 σ_27 h => ?_)
      refine f_aload_n C (j := 2) dL_law_328 rfl rfl rfl ?_
      refine f_aload_n C (j := 0) dL_law_329 rfl rfl rfl ?_
      refine f_iload_n C (j := 3) dL_law_330 rfl rfl rfl ?_
      refine f_iconst C (v := 1) dL_law_331 kc1 rfl ?_
      refine f_iadd C dL_law_332 rfl ?_
      refine f_sld C (j := tn (x3 + 1)) hi_24 rfl dL_law_333 rfl ?_
      refine f_aload_n C (j := 0) dL_law_334 rfl rfl rfl ?_
      refine f_iload_n C (j := 3) dL_law_335 rfl rfl rfl ?_
      refine f_iconst C (v := 2) dL_law_336 kc2 rfl ?_
      refine f_iadd C dL_law_337 rfl ?_
      refine f_sld C (j := tn (x3 + 2)) hi_25 rfl dL_law_338 rfl ?_
      refine f_aload_n C (j := 0) dL_law_339 rfl rfl rfl ?_
      refine f_iload_n C (j := 3) dL_law_340 rfl rfl rfl ?_
      refine f_iconst C (v := 3) dL_law_341 kc3 rfl ?_
      refine f_iadd C dL_law_342 rfl ?_
      refine f_sld C (j := tn (x3 + 3)) hi_26 rfl dL_law_343 rfl ?_
      refine f_callVi C (a := 101) (ci := 12) (As := fun B => [.int (xs (tn (x3 + 1))), .int (xs (tn (x3 + 2))), .int (xs (tn (x3 + 3)))]) o101 rfl (c_X12_tray  _ _ _ _ _ h) tM_L_31 tI_X12_tray tS_X12_tray tN_X12 tC_X12_tray 3 dd_X12_tray rfl (by decide) (by decide) rfl (Nat.le_of_ble_eq_true rfl) dL_law_344 rfl (fun r_30 σ_29 h => ?_)
      refine f_icmp_eq C (t := 1733) dL_law_347 (by decide) rfl (fun hq_31 => ?_) (fun hq_31 => ?_)
      · replace h := Eq.mp (if_pos hq_31) h
        exact s_L_1733 C _ K hK _ h
      · replace h := Eq.mp (if_neg hq_31) h
        refine f_iconst C (v := 0) dL_law_350 kc0 rfl ?_
        exact h.elim
    replace h := Eq.mp (if_neg hq_32) h
    by_cases hq_42 : sw_3 = 4
    · replace h := Eq.mp (if_pos hq_42) h
      refine f_tableIn C (off := 319) (t := 352) dL_law_33 (by rw [hq_42]; decide) (by rw [hq_42]; decide) (by rw [hq_42]; rfl) (by decide) ?_
      refine f_aload_n C (j := 1) dL_law_352 rfl rfl rfl ?_
      refine f_aload_n C (j := 0) dL_law_353 rfl rfl rfl ?_
      refine f_iload_n C (j := 3) dL_law_354 rfl rfl rfl ?_
      refine f_iconst C (v := 1) dL_law_355 kc1 rfl ?_
      refine f_iadd C dL_law_356 rfl ?_
      obtain ⟨hi_33, h⟩ := h
      refine f_sld C (j := tn (x3 + 1)) hi_33 rfl dL_law_357 rfl ?_
      refine f_aload_n C (j := 0) dL_law_358 rfl rfl rfl ?_
      refine f_iload_n C (j := 3) dL_law_359 rfl rfl rfl ?_
      refine f_iconst C (v := 2) dL_law_360 kc2 rfl ?_
      refine f_iadd C dL_law_361 rfl ?_
      obtain ⟨hi_34, h⟩ := h
      refine f_sld C (j := tn (x3 + 2)) hi_34 rfl dL_law_362 rfl ?_
      refine f_aload_n C (j := 0) dL_law_363 rfl rfl rfl ?_
      refine f_iload_n C (j := 3) dL_law_364 rfl rfl rfl ?_
      refine f_iconst C (v := 3) dL_law_365 kc3 rfl ?_
      refine f_iadd C dL_law_366 rfl ?_
      obtain ⟨hi_35, h⟩ := h
      refine f_sld C (j := tn (x3 + 3)) hi_35 rfl dL_law_367 rfl ?_
      refine f_i2l C dL_law_368 rfl ?_
      refine f_bipush C (v := 32) dL_law_369 kb32 rfl ?_
      refine f_lshl C dL_law_371 rfl ?_
      refine f_aload_n C (j := 0) dL_law_372 rfl rfl rfl ?_
      refine f_iload_n C (j := 3) dL_law_373 rfl rfl rfl ?_
      refine f_iconst C (v := 4) dL_law_374 kc4 rfl ?_
      refine f_iadd C dL_law_375 rfl ?_
      obtain ⟨hi_36, h⟩ := h
      refine f_sld C (j := tn (x3 + 4)) hi_36 rfl dL_law_376 rfl ?_
      refine f_i2l C dL_law_377 rfl ?_
      refine f_ldc2_w C tL_L_32 dL_law_378 rfl ?_
      refine f_land C dL_law_381 rfl ?_
      refine f_lor C dL_law_382 rfl ?_
      refine f_callVi C (a := 1) (ci := 11) (As := fun B => [.int (xs (tn (x3 + 1))), .int (xs (tn (x3 + 2))), .long ((((xs (tn (x3 + 3))).toInt64) <<< ((32 : Int32).toInt64 &&& 63)) ||| (((xs (tn (x3 + 4))).toInt64) &&& 4294967295))]) o1 rfl (c_X11_write  _ _ _ _ _ h) tM_L_34 tI_X11_write tS_X11_write tN_X11 tC_X11_write 3 dd_X11_write rfl (by decide) (by decide) rfl (Nat.le_of_ble_eq_true rfl) dL_law_383 rfl (fun r_38 σ_37 h => ?_)
      refine f_aload_n C (j := 2) dL_law_386 rfl rfl rfl ?_
      refine f_aload_n C (j := 0) dL_law_387 rfl rfl rfl ?_
      refine f_iload_n C (j := 3) dL_law_388 rfl rfl rfl ?_
      refine f_iconst C (v := 1) dL_law_389 kc1 rfl ?_
      refine f_iadd C dL_law_390 rfl ?_
      refine f_sld C (j := tn (x3 + 1)) hi_33 rfl dL_law_391 rfl ?_
      refine f_aload_n C (j := 0) dL_law_392 rfl rfl rfl ?_
      refine f_iload_n C (j := 3) dL_law_393 rfl rfl rfl ?_
      refine f_iconst C (v := 2) dL_law_394 kc2 rfl ?_
      refine f_iadd C dL_law_395 rfl ?_
      refine f_sld C (j := tn (x3 + 2)) hi_34 rfl dL_law_396 rfl ?_
      refine f_aload_n C (j := 0) dL_law_397 rfl rfl rfl ?_
      refine f_iload_n C (j := 3) dL_law_398 rfl rfl rfl ?_
      refine f_iconst C (v := 3) dL_law_399 kc3 rfl ?_
      refine f_iadd C dL_law_400 rfl ?_
      refine f_sld C (j := tn (x3 + 3)) hi_35 rfl dL_law_401 rfl ?_
      refine f_i2l C dL_law_402 rfl ?_
      refine f_bipush C (v := 32) dL_law_403 kb32 rfl ?_
      refine f_lshl C dL_law_405 rfl ?_
      refine f_aload_n C (j := 0) dL_law_406 rfl rfl rfl ?_
      refine f_iload_n C (j := 3) dL_law_407 rfl rfl rfl ?_
      refine f_iconst C (v := 4) dL_law_408 kc4 rfl ?_
      refine f_iadd C dL_law_409 rfl ?_
      refine f_sld C (j := tn (x3 + 4)) hi_36 rfl dL_law_410 rfl ?_
      refine f_i2l C dL_law_411 rfl ?_
      refine f_ldc2_w C tL_L_32 dL_law_412 rfl ?_
      refine f_land C dL_law_415 rfl ?_
      refine f_lor C dL_law_416 rfl ?_
      refine f_callVi C (a := 101) (ci := 12) (As := fun B => [.int (xs (tn (x3 + 1))), .int (xs (tn (x3 + 2))), .long ((((xs (tn (x3 + 3))).toInt64) <<< ((32 : Int32).toInt64 &&& 63)) ||| (((xs (tn (x3 + 4))).toInt64) &&& 4294967295))]) o101 rfl (c_X12_write  _ _ _ _ _ h) tM_L_38 tI_X12_write tS_X12_write tN_X12 tC_X12_write 3 dd_X12_write rfl (by decide) (by decide) rfl (Nat.le_of_ble_eq_true rfl) dL_law_417 rfl (fun r_40 σ_39 h => ?_)
      refine f_icmp_eq C (t := 1733) dL_law_420 (by decide) rfl (fun hq_41 => ?_) (fun hq_41 => ?_)
      · replace h := Eq.mp (if_pos hq_41) h
        exact s_L_1733 C _ K hK _ h
      · replace h := Eq.mp (if_neg hq_41) h
        refine f_iconst C (v := 0) dL_law_423 kc0 rfl ?_
        exact h.elim
    replace h := Eq.mp (if_neg hq_42) h
    by_cases hq_50 : sw_3 = 5
    · replace h := Eq.mp (if_pos hq_50) h
      refine f_tableIn C (off := 392) (t := 425) dL_law_33 (by rw [hq_50]; decide) (by rw [hq_50]; decide) (by rw [hq_50]; rfl) (by decide) ?_
      refine f_aload_n C (j := 1) dL_law_425 rfl rfl rfl ?_
      refine f_aload_n C (j := 0) dL_law_426 rfl rfl rfl ?_
      refine f_iload_n C (j := 3) dL_law_427 rfl rfl rfl ?_
      refine f_iconst C (v := 1) dL_law_428 kc1 rfl ?_
      refine f_iadd C dL_law_429 rfl ?_
      obtain ⟨hi_43, h⟩ := h
      refine f_sld C (j := tn (x3 + 1)) hi_43 rfl dL_law_430 rfl ?_
      refine f_aload_n C (j := 0) dL_law_431 rfl rfl rfl ?_
      refine f_iload_n C (j := 3) dL_law_432 rfl rfl rfl ?_
      refine f_iconst C (v := 2) dL_law_433 kc2 rfl ?_
      refine f_iadd C dL_law_434 rfl ?_
      obtain ⟨hi_44, h⟩ := h
      refine f_sld C (j := tn (x3 + 2)) hi_44 rfl dL_law_435 rfl ?_
      refine f_callVl C (a := 1) (ci := 11) (As := fun B => [.int (xs (tn (x3 + 1))), .int (xs (tn (x3 + 2)))]) o1 rfl (c_X11_read  _ _ _ _ h) tM_L_39 tI_X11_read tS_X11_read tN_X11 tC_X11_read 2 dd_X11_read rfl (by decide) (by decide) rfl (Nat.le_of_ble_eq_true rfl) dL_law_436 rfl (fun r_46 σ_45 h => ?_)
      refine f_aload_n C (j := 2) dL_law_439 rfl rfl rfl ?_
      refine f_aload_n C (j := 0) dL_law_440 rfl rfl rfl ?_
      refine f_iload_n C (j := 3) dL_law_441 rfl rfl rfl ?_
      refine f_iconst C (v := 1) dL_law_442 kc1 rfl ?_
      refine f_iadd C dL_law_443 rfl ?_
      refine f_sld C (j := tn (x3 + 1)) hi_43 rfl dL_law_444 rfl ?_
      refine f_aload_n C (j := 0) dL_law_445 rfl rfl rfl ?_
      refine f_iload_n C (j := 3) dL_law_446 rfl rfl rfl ?_
      refine f_iconst C (v := 2) dL_law_447 kc2 rfl ?_
      refine f_iadd C dL_law_448 rfl ?_
      refine f_sld C (j := tn (x3 + 2)) hi_44 rfl dL_law_449 rfl ?_
      refine f_callVl C (a := 101) (ci := 12) (As := fun B => [.int (xs (tn (x3 + 1))), .int (xs (tn (x3 + 2)))]) o101 rfl (c_X12_read  _ _ _ _ h) tM_L_43 tI_X12_read tS_X12_read tN_X12 tC_X12_read 2 dd_X12_read rfl (by decide) (by decide) rfl (Nat.le_of_ble_eq_true rfl) dL_law_450 rfl (fun r_48 σ_47 h => ?_)
      refine f_lcmp C dL_law_453 rfl ?_
      refine f_if_eq C (t := 1733) dL_law_454 (by decide) rfl (fun hq_49 => ?_) (fun hq_49 => ?_)
      · replace h := Eq.mp (if_pos hq_49) h
        exact s_L_1733 C _ K hK _ h
      · replace h := Eq.mp (if_neg hq_49) h
        refine f_iconst C (v := 0) dL_law_457 kc0 rfl ?_
        exact h.elim
    replace h := Eq.mp (if_neg hq_50) h
    by_cases hq_61 : sw_3 = 6
    · replace h := Eq.mp (if_pos hq_61) h
      refine f_tableIn C (off := 426) (t := 459) dL_law_33 (by rw [hq_61]; decide) (by rw [hq_61]; decide) (by rw [hq_61]; rfl) (by decide) ?_
      refine f_aload_n C (j := 1) dL_law_459 rfl rfl rfl ?_
      refine f_aload_n C (j := 0) dL_law_460 rfl rfl rfl ?_
      refine f_iload_n C (j := 3) dL_law_461 rfl rfl rfl ?_
      refine f_iconst C (v := 1) dL_law_462 kc1 rfl ?_
      refine f_iadd C dL_law_463 rfl ?_
      obtain ⟨hi_51, h⟩ := h
      refine f_sld C (j := tn (x3 + 1)) hi_51 rfl dL_law_464 rfl ?_
      refine f_aload_n C (j := 0) dL_law_465 rfl rfl rfl ?_
      refine f_iload_n C (j := 3) dL_law_466 rfl rfl rfl ?_
      refine f_iconst C (v := 2) dL_law_467 kc2 rfl ?_
      refine f_iadd C dL_law_468 rfl ?_
      obtain ⟨hi_52, h⟩ := h
      refine f_sld C (j := tn (x3 + 2)) hi_52 rfl dL_law_469 rfl ?_
      refine f_aload_n C (j := 0) dL_law_470 rfl rfl rfl ?_
      refine f_iload_n C (j := 3) dL_law_471 rfl rfl rfl ?_
      refine f_iconst C (v := 3) dL_law_472 kc3 rfl ?_
      refine f_iadd C dL_law_473 rfl ?_
      obtain ⟨hi_53, h⟩ := h
      refine f_sld C (j := tn (x3 + 3)) hi_53 rfl dL_law_474 rfl ?_
      refine f_aload_n C (j := 0) dL_law_475 rfl rfl rfl ?_
      refine f_iload_n C (j := 3) dL_law_476 rfl rfl rfl ?_
      refine f_iconst C (v := 4) dL_law_477 kc4 rfl ?_
      refine f_iadd C dL_law_478 rfl ?_
      obtain ⟨hi_54, h⟩ := h
      refine f_sld C (j := tn (x3 + 4)) hi_54 rfl dL_law_479 rfl ?_
      refine f_aload_n C (j := 0) dL_law_480 rfl rfl rfl ?_
      refine f_iload_n C (j := 3) dL_law_481 rfl rfl rfl ?_
      refine f_iconst C (v := 5) dL_law_482 kc5 rfl ?_
      refine f_iadd C dL_law_483 rfl ?_
      obtain ⟨hi_55, h⟩ := h
      refine f_sld C (j := tn (x3 + 5)) hi_55 rfl dL_law_484 rfl ?_
      refine f_callVi C (a := 1) (ci := 11) (As := fun B => [.int (xs (tn (x3 + 1))), .int (xs (tn (x3 + 2))), .int (xs (tn (x3 + 3))), .int (xs (tn (x3 + 4))), .int (xs (tn (x3 + 5)))]) o1 rfl (c_X11_pour  _ _ _ _ _ _ _ h) tM_L_44 tI_X11_pour tS_X11_pour tN_X11 tC_X11_pour 5 dd_X11_pour rfl (by decide) (by decide) rfl (Nat.le_of_ble_eq_true rfl) dL_law_485 rfl (fun r_57 σ_56 h => ?_)
      refine f_aload_n C (j := 2) dL_law_488 rfl rfl rfl ?_
      refine f_aload_n C (j := 0) dL_law_489 rfl rfl rfl ?_
      refine f_iload_n C (j := 3) dL_law_490 rfl rfl rfl ?_
      refine f_iconst C (v := 1) dL_law_491 kc1 rfl ?_
      refine f_iadd C dL_law_492 rfl ?_
      refine f_sld C (j := tn (x3 + 1)) hi_51 rfl dL_law_493 rfl ?_
      refine f_aload_n C (j := 0) dL_law_494 rfl rfl rfl ?_
      refine f_iload_n C (j := 3) dL_law_495 rfl rfl rfl ?_
      refine f_iconst C (v := 2) dL_law_496 kc2 rfl ?_
      refine f_iadd C dL_law_497 rfl ?_
      refine f_sld C (j := tn (x3 + 2)) hi_52 rfl dL_law_498 rfl ?_
      refine f_aload_n C (j := 0) dL_law_499 rfl rfl rfl ?_
      refine f_iload_n C (j := 3) dL_law_500 rfl rfl rfl ?_
      refine f_iconst C (v := 3) dL_law_501 kc3 rfl ?_
      refine f_iadd C dL_law_502 rfl ?_
      refine f_sld C (j := tn (x3 + 3)) hi_53 rfl dL_law_503 rfl ?_
      refine f_aload_n C (j := 0) dL_law_504 rfl rfl rfl ?_
      refine f_iload_n C (j := 3) dL_law_505 rfl rfl rfl ?_
      refine f_iconst C (v := 4) dL_law_506 kc4 rfl ?_
      refine f_iadd C dL_law_507 rfl ?_
      refine f_sld C (j := tn (x3 + 4)) hi_54 rfl dL_law_508 rfl ?_
      refine f_aload_n C (j := 0) dL_law_509 rfl rfl rfl ?_
      refine f_iload_n C (j := 3) dL_law_510 rfl rfl rfl ?_
      refine f_iconst C (v := 5) dL_law_511 kc5 rfl ?_
      refine f_iadd C dL_law_512 rfl ?_
      refine f_sld C (j := tn (x3 + 5)) hi_55 rfl dL_law_513 rfl ?_
      refine f_callVi C (a := 101) (ci := 12) (As := fun B => [.int (xs (tn (x3 + 1))), .int (xs (tn (x3 + 2))), .int (xs (tn (x3 + 3))), .int (xs (tn (x3 + 4))), .int (xs (tn (x3 + 5)))]) o101 rfl (c_X12_pour  _ _ _ _ _ _ _ h) tM_L_48 tI_X12_pour tS_X12_pour tN_X12 tC_X12_pour 5 dd_X12_pour rfl (by decide) (by decide) rfl (Nat.le_of_ble_eq_true rfl) dL_law_514 rfl (fun r_59 σ_58 h => ?_)
      refine f_icmp_eq C (t := 1733) dL_law_517 (by decide) rfl (fun hq_60 => ?_) (fun hq_60 => ?_)
      · replace h := Eq.mp (if_pos hq_60) h
        exact s_L_1733 C _ K hK _ h
      · replace h := Eq.mp (if_neg hq_60) h
        refine f_iconst C (v := 0) dL_law_520 kc0 rfl ?_
        exact h.elim
    replace h := Eq.mp (if_neg hq_61) h
    by_cases hq_72 : sw_3 = 7
    · replace h := Eq.mp (if_pos hq_72) h
      refine f_tableIn C (off := 489) (t := 522) dL_law_33 (by rw [hq_72]; decide) (by rw [hq_72]; decide) (by rw [hq_72]; rfl) (by decide) ?_
      refine f_aload_n C (j := 1) dL_law_522 rfl rfl rfl ?_
      refine f_aload_n C (j := 0) dL_law_523 rfl rfl rfl ?_
      refine f_iload_n C (j := 3) dL_law_524 rfl rfl rfl ?_
      refine f_iconst C (v := 1) dL_law_525 kc1 rfl ?_
      refine f_iadd C dL_law_526 rfl ?_
      obtain ⟨hi_62, h⟩ := h
      refine f_sld C (j := tn (x3 + 1)) hi_62 rfl dL_law_527 rfl ?_
      refine f_aload_n C (j := 0) dL_law_528 rfl rfl rfl ?_
      refine f_iload_n C (j := 3) dL_law_529 rfl rfl rfl ?_
      refine f_iconst C (v := 2) dL_law_530 kc2 rfl ?_
      refine f_iadd C dL_law_531 rfl ?_
      obtain ⟨hi_63, h⟩ := h
      refine f_sld C (j := tn (x3 + 2)) hi_63 rfl dL_law_532 rfl ?_
      refine f_aload_n C (j := 0) dL_law_533 rfl rfl rfl ?_
      refine f_iload_n C (j := 3) dL_law_534 rfl rfl rfl ?_
      refine f_iconst C (v := 3) dL_law_535 kc3 rfl ?_
      refine f_iadd C dL_law_536 rfl ?_
      obtain ⟨hi_64, h⟩ := h
      refine f_sld C (j := tn (x3 + 3)) hi_64 rfl dL_law_537 rfl ?_
      refine f_aload_n C (j := 0) dL_law_538 rfl rfl rfl ?_
      refine f_iload_n C (j := 3) dL_law_539 rfl rfl rfl ?_
      refine f_iconst C (v := 4) dL_law_540 kc4 rfl ?_
      refine f_iadd C dL_law_541 rfl ?_
      obtain ⟨hi_65, h⟩ := h
      refine f_sld C (j := tn (x3 + 4)) hi_65 rfl dL_law_542 rfl ?_
      refine f_aload_n C (j := 0) dL_law_543 rfl rfl rfl ?_
      refine f_iload_n C (j := 3) dL_law_544 rfl rfl rfl ?_
      refine f_iconst C (v := 5) dL_law_545 kc5 rfl ?_
      refine f_iadd C dL_law_546 rfl ?_
      obtain ⟨hi_66, h⟩ := h
      refine f_sld C (j := tn (x3 + 5)) hi_66 rfl dL_law_547 rfl ?_
      refine f_callVi C (a := 1) (ci := 11) (As := fun B => [.int (xs (tn (x3 + 1))), .int (xs (tn (x3 + 2))), .int (xs (tn (x3 + 3))), .int (xs (tn (x3 + 4))), .int (xs (tn (x3 + 5)))]) o1 rfl (c_X11_feed  _ _ _ _ _ _ _ h) tM_L_49 tI_X11_feed tS_X11_feed tN_X11 tC_X11_feed 5 dd_X11_feed rfl (by decide) (by decide) rfl (Nat.le_of_ble_eq_true rfl) dL_law_548 rfl (fun r_68 σ_67 h => ?_)
      refine f_aload_n C (j := 2) dL_law_551 rfl rfl rfl ?_
      refine f_aload_n C (j := 0) dL_law_552 rfl rfl rfl ?_
      refine f_iload_n C (j := 3) dL_law_553 rfl rfl rfl ?_
      refine f_iconst C (v := 1) dL_law_554 kc1 rfl ?_
      refine f_iadd C dL_law_555 rfl ?_
      refine f_sld C (j := tn (x3 + 1)) hi_62 rfl dL_law_556 rfl ?_
      refine f_aload_n C (j := 0) dL_law_557 rfl rfl rfl ?_
      refine f_iload_n C (j := 3) dL_law_558 rfl rfl rfl ?_
      refine f_iconst C (v := 2) dL_law_559 kc2 rfl ?_
      refine f_iadd C dL_law_560 rfl ?_
      refine f_sld C (j := tn (x3 + 2)) hi_63 rfl dL_law_561 rfl ?_
      refine f_aload_n C (j := 0) dL_law_562 rfl rfl rfl ?_
      refine f_iload_n C (j := 3) dL_law_563 rfl rfl rfl ?_
      refine f_iconst C (v := 3) dL_law_564 kc3 rfl ?_
      refine f_iadd C dL_law_565 rfl ?_
      refine f_sld C (j := tn (x3 + 3)) hi_64 rfl dL_law_566 rfl ?_
      refine f_aload_n C (j := 0) dL_law_567 rfl rfl rfl ?_
      refine f_iload_n C (j := 3) dL_law_568 rfl rfl rfl ?_
      refine f_iconst C (v := 4) dL_law_569 kc4 rfl ?_
      refine f_iadd C dL_law_570 rfl ?_
      refine f_sld C (j := tn (x3 + 4)) hi_65 rfl dL_law_571 rfl ?_
      refine f_aload_n C (j := 0) dL_law_572 rfl rfl rfl ?_
      refine f_iload_n C (j := 3) dL_law_573 rfl rfl rfl ?_
      refine f_iconst C (v := 5) dL_law_574 kc5 rfl ?_
      refine f_iadd C dL_law_575 rfl ?_
      refine f_sld C (j := tn (x3 + 5)) hi_66 rfl dL_law_576 rfl ?_
      refine f_callVi C (a := 101) (ci := 12) (As := fun B => [.int (xs (tn (x3 + 1))), .int (xs (tn (x3 + 2))), .int (xs (tn (x3 + 3))), .int (xs (tn (x3 + 4))), .int (xs (tn (x3 + 5)))]) o101 rfl (c_X12_feed  _ _ _ _ _ _ _ h) tM_L_53 tI_X12_feed tS_X12_feed tN_X12 tC_X12_feed 5 dd_X12_feed rfl (by decide) (by decide) rfl (Nat.le_of_ble_eq_true rfl) dL_law_577 rfl (fun r_70 σ_69 h => ?_)
      refine f_icmp_eq C (t := 1733) dL_law_580 (by decide) rfl (fun hq_71 => ?_) (fun hq_71 => ?_)
      · replace h := Eq.mp (if_pos hq_71) h
        exact s_L_1733 C _ K hK _ h
      · replace h := Eq.mp (if_neg hq_71) h
        refine f_iconst C (v := 0) dL_law_583 kc0 rfl ?_
        exact h.elim
    replace h := Eq.mp (if_neg hq_72) h
    by_cases hq_79 : sw_3 = 8
    · replace h := Eq.mp (if_pos hq_79) h
      refine f_tableIn C (off := 552) (t := 585) dL_law_33 (by rw [hq_79]; decide) (by rw [hq_79]; decide) (by rw [hq_79]; rfl) (by decide) ?_
      refine f_aload_n C (j := 1) dL_law_585 rfl rfl rfl ?_
      refine f_aload_n C (j := 0) dL_law_586 rfl rfl rfl ?_
      refine f_iload_n C (j := 3) dL_law_587 rfl rfl rfl ?_
      refine f_iconst C (v := 1) dL_law_588 kc1 rfl ?_
      refine f_iadd C dL_law_589 rfl ?_
      obtain ⟨hi_73, h⟩ := h
      refine f_sld C (j := tn (x3 + 1)) hi_73 rfl dL_law_590 rfl ?_
      refine f_callVi C (a := 1) (ci := 11) (As := fun B => [.int (xs (tn (x3 + 1)))]) o1 rfl (c_X11_city  _ _ _ h) tM_L_54 tI_X11_city tS_X11_city tN_X11 tC_X11_city 1 dd_X11_city rfl (by decide) (by decide) rfl (Nat.le_of_ble_eq_true rfl) dL_law_591 rfl (fun r_75 σ_74 h => ?_)
      refine f_aload_n C (j := 2) dL_law_594 rfl rfl rfl ?_
      refine f_aload_n C (j := 0) dL_law_595 rfl rfl rfl ?_
      refine f_iload_n C (j := 3) dL_law_596 rfl rfl rfl ?_
      refine f_iconst C (v := 1) dL_law_597 kc1 rfl ?_
      refine f_iadd C dL_law_598 rfl ?_
      refine f_sld C (j := tn (x3 + 1)) hi_73 rfl dL_law_599 rfl ?_
      refine f_callVi C (a := 101) (ci := 12) (As := fun B => [.int (xs (tn (x3 + 1)))]) o101 rfl (c_X12_city  _ _ _ h) tM_L_58 tI_X12_city tS_X12_city tN_X12 tC_X12_city 1 dd_X12_city rfl (by decide) (by decide) rfl (Nat.le_of_ble_eq_true rfl) dL_law_600 rfl (fun r_77 σ_76 h => ?_)
      refine f_icmp_eq C (t := 1733) dL_law_603 (by decide) rfl (fun hq_78 => ?_) (fun hq_78 => ?_)
      · replace h := Eq.mp (if_pos hq_78) h
        exact s_L_1733 C _ K hK _ h
      · replace h := Eq.mp (if_neg hq_78) h
        refine f_iconst C (v := 0) dL_law_606 kc0 rfl ?_
        exact h.elim
    replace h := Eq.mp (if_neg hq_79) h
    by_cases hq_86 : sw_3 = 9
    · replace h := Eq.mp (if_pos hq_86) h
      refine f_tableIn C (off := 575) (t := 608) dL_law_33 (by rw [hq_86]; decide) (by rw [hq_86]; decide) (by rw [hq_86]; rfl) (by decide) ?_
      refine f_aload_n C (j := 1) dL_law_608 rfl rfl rfl ?_
      refine f_aload_n C (j := 0) dL_law_609 rfl rfl rfl ?_
      refine f_iload_n C (j := 3) dL_law_610 rfl rfl rfl ?_
      refine f_iconst C (v := 1) dL_law_611 kc1 rfl ?_
      refine f_iadd C dL_law_612 rfl ?_
      obtain ⟨hi_80, h⟩ := h
      refine f_sld C (j := tn (x3 + 1)) hi_80 rfl dL_law_613 rfl ?_
      refine f_callVi C (a := 1) (ci := 11) (As := fun B => [.int (xs (tn (x3 + 1)))]) o1 rfl (c_X11_centuries  _ _ _ h) tM_L_59 tI_X11_centuries tS_X11_centuries tN_X11 tC_X11_centuries 1 dd_X11_centuries rfl (by decide) (by decide) rfl (Nat.le_of_ble_eq_true rfl) dL_law_614 rfl (fun r_82 σ_81 h => ?_)
      refine f_aload_n C (j := 2) dL_law_617 rfl rfl rfl ?_
      refine f_aload_n C (j := 0) dL_law_618 rfl rfl rfl ?_
      refine f_iload_n C (j := 3) dL_law_619 rfl rfl rfl ?_
      refine f_iconst C (v := 1) dL_law_620 kc1 rfl ?_
      refine f_iadd C dL_law_621 rfl ?_
      refine f_sld C (j := tn (x3 + 1)) hi_80 rfl dL_law_622 rfl ?_
      refine f_callVi C (a := 101) (ci := 12) (As := fun B => [.int (xs (tn (x3 + 1)))]) o101 rfl (c_X12_centuries  _ _ _ h) tM_L_62 tI_X12_centuries tS_X12_centuries tN_X12 tC_X12_centuries 1 dd_X12_centuries rfl (by decide) (by decide) rfl (Nat.le_of_ble_eq_true rfl) dL_law_623 rfl (fun r_84 σ_83 h => ?_)
      refine f_icmp_eq C (t := 1733) dL_law_626 (by decide) rfl (fun hq_85 => ?_) (fun hq_85 => ?_)
      · replace h := Eq.mp (if_pos hq_85) h
        exact s_L_1733 C _ K hK _ h
      · replace h := Eq.mp (if_neg hq_85) h
        refine f_iconst C (v := 0) dL_law_629 kc0 rfl ?_
        exact h.elim
    replace h := Eq.mp (if_neg hq_86) h
    by_cases hq_93 : sw_3 = 10
    · replace h := Eq.mp (if_pos hq_93) h
      refine f_tableIn C (off := 598) (t := 631) dL_law_33 (by rw [hq_93]; decide) (by rw [hq_93]; decide) (by rw [hq_93]; rfl) (by decide) ?_
      refine f_aload_n C (j := 1) dL_law_631 rfl rfl rfl ?_
      refine f_aload_n C (j := 0) dL_law_632 rfl rfl rfl ?_
      refine f_iload_n C (j := 3) dL_law_633 rfl rfl rfl ?_
      refine f_iconst C (v := 1) dL_law_634 kc1 rfl ?_
      refine f_iadd C dL_law_635 rfl ?_
      obtain ⟨hi_87, h⟩ := h
      refine f_sld C (j := tn (x3 + 1)) hi_87 rfl dL_law_636 rfl ?_
      refine f_callVi C (a := 1) (ci := 11) (As := fun B => [.int (xs (tn (x3 + 1)))]) o1 rfl (c_X11_fault  _ _ _ h) tM_L_63 tI_X11_fault tS_X11_fault tN_X11 tC_X11_fault 1 dd_X11_fault rfl (by decide) (by decide) rfl (Nat.le_of_ble_eq_true rfl) dL_law_637 rfl (fun r_89 σ_88 h => ?_)
      refine f_aload_n C (j := 2) dL_law_640 rfl rfl rfl ?_
      refine f_aload_n C (j := 0) dL_law_641 rfl rfl rfl ?_
      refine f_iload_n C (j := 3) dL_law_642 rfl rfl rfl ?_
      refine f_iconst C (v := 1) dL_law_643 kc1 rfl ?_
      refine f_iadd C dL_law_644 rfl ?_
      refine f_sld C (j := tn (x3 + 1)) hi_87 rfl dL_law_645 rfl ?_
      refine f_callVi C (a := 101) (ci := 12) (As := fun B => [.int (xs (tn (x3 + 1)))]) o101 rfl (c_X12_fault  _ _ _ h) tM_L_66 tI_X12_fault tS_X12_fault tN_X12 tC_X12_fault 1 dd_X12_fault rfl (by decide) (by decide) rfl (Nat.le_of_ble_eq_true rfl) dL_law_646 rfl (fun r_91 σ_90 h => ?_)
      refine f_icmp_eq C (t := 1733) dL_law_649 (by decide) rfl (fun hq_92 => ?_) (fun hq_92 => ?_)
      · replace h := Eq.mp (if_pos hq_92) h
        exact s_L_1733 C _ K hK _ h
      · replace h := Eq.mp (if_neg hq_92) h
        refine f_iconst C (v := 0) dL_law_652 kc0 rfl ?_
        exact h.elim
    replace h := Eq.mp (if_neg hq_93) h
    by_cases hq_100 : sw_3 = 11
    · replace h := Eq.mp (if_pos hq_100) h
      refine f_tableIn C (off := 621) (t := 654) dL_law_33 (by rw [hq_100]; decide) (by rw [hq_100]; decide) (by rw [hq_100]; rfl) (by decide) ?_
      refine f_aload_n C (j := 1) dL_law_654 rfl rfl rfl ?_
      refine f_aload_n C (j := 0) dL_law_655 rfl rfl rfl ?_
      refine f_iload_n C (j := 3) dL_law_656 rfl rfl rfl ?_
      refine f_iconst C (v := 1) dL_law_657 kc1 rfl ?_
      refine f_iadd C dL_law_658 rfl ?_
      obtain ⟨hi_94, h⟩ := h
      refine f_sld C (j := tn (x3 + 1)) hi_94 rfl dL_law_659 rfl ?_
      refine f_callVi C (a := 1) (ci := 11) (As := fun B => [.int (xs (tn (x3 + 1)))]) o1 rfl (c_X11_many  _ _ _ h) tM_L_67 tI_X11_many tS_X11_many tN_X11 tC_X11_many 1 dd_X11_many rfl (by decide) (by decide) rfl (Nat.le_of_ble_eq_true rfl) dL_law_660 rfl (fun r_96 σ_95 h => ?_)
      refine f_aload_n C (j := 2) dL_law_663 rfl rfl rfl ?_
      refine f_aload_n C (j := 0) dL_law_664 rfl rfl rfl ?_
      refine f_iload_n C (j := 3) dL_law_665 rfl rfl rfl ?_
      refine f_iconst C (v := 1) dL_law_666 kc1 rfl ?_
      refine f_iadd C dL_law_667 rfl ?_
      refine f_sld C (j := tn (x3 + 1)) hi_94 rfl dL_law_668 rfl ?_
      refine f_callVi C (a := 101) (ci := 12) (As := fun B => [.int (xs (tn (x3 + 1)))]) o101 rfl (c_X12_many  _ _ _ h) tM_L_70 tI_X12_many tS_X12_many tN_X12 tC_X12_many 1 dd_X12_many rfl (by decide) (by decide) rfl (Nat.le_of_ble_eq_true rfl) dL_law_669 rfl (fun r_98 σ_97 h => ?_)
      refine f_icmp_eq C (t := 1733) dL_law_672 (by decide) rfl (fun hq_99 => ?_) (fun hq_99 => ?_)
      · replace h := Eq.mp (if_pos hq_99) h
        exact s_L_1733 C _ K hK _ h
      · replace h := Eq.mp (if_neg hq_99) h
        refine f_iconst C (v := 0) dL_law_675 kc0 rfl ?_
        exact h.elim
    replace h := Eq.mp (if_neg hq_100) h
    by_cases hq_108 : sw_3 = 12
    · replace h := Eq.mp (if_pos hq_108) h
      refine f_tableIn C (off := 644) (t := 677) dL_law_33 (by rw [hq_108]; decide) (by rw [hq_108]; decide) (by rw [hq_108]; rfl) (by decide) ?_
      refine f_aload_n C (j := 1) dL_law_677 rfl rfl rfl ?_
      refine f_aload_n C (j := 0) dL_law_678 rfl rfl rfl ?_
      refine f_iload_n C (j := 3) dL_law_679 rfl rfl rfl ?_
      refine f_iconst C (v := 1) dL_law_680 kc1 rfl ?_
      refine f_iadd C dL_law_681 rfl ?_
      obtain ⟨hi_101, h⟩ := h
      refine f_sld C (j := tn (x3 + 1)) hi_101 rfl dL_law_682 rfl ?_
      refine f_aload_n C (j := 0) dL_law_683 rfl rfl rfl ?_
      refine f_iload_n C (j := 3) dL_law_684 rfl rfl rfl ?_
      refine f_iconst C (v := 2) dL_law_685 kc2 rfl ?_
      refine f_iadd C dL_law_686 rfl ?_
      obtain ⟨hi_102, h⟩ := h
      refine f_sld C (j := tn (x3 + 2)) hi_102 rfl dL_law_687 rfl ?_
      refine f_callVi C (a := 1) (ci := 11) (As := fun B => [.int (xs (tn (x3 + 1))), .int (xs (tn (x3 + 2)))]) o1 rfl (c_X11_thing  _ _ _ _ h) tM_L_71 tI_X11_thing tS_X11_thing tN_X11 tC_X11_thing 2 dd_X11_thing rfl (by decide) (by decide) rfl (Nat.le_of_ble_eq_true rfl) dL_law_688 rfl (fun r_104 σ_103 h => ?_)
      refine f_aload_n C (j := 2) dL_law_691 rfl rfl rfl ?_
      refine f_aload_n C (j := 0) dL_law_692 rfl rfl rfl ?_
      refine f_iload_n C (j := 3) dL_law_693 rfl rfl rfl ?_
      refine f_iconst C (v := 1) dL_law_694 kc1 rfl ?_
      refine f_iadd C dL_law_695 rfl ?_
      refine f_sld C (j := tn (x3 + 1)) hi_101 rfl dL_law_696 rfl ?_
      refine f_aload_n C (j := 0) dL_law_697 rfl rfl rfl ?_
      refine f_iload_n C (j := 3) dL_law_698 rfl rfl rfl ?_
      refine f_iconst C (v := 2) dL_law_699 kc2 rfl ?_
      refine f_iadd C dL_law_700 rfl ?_
      refine f_sld C (j := tn (x3 + 2)) hi_102 rfl dL_law_701 rfl ?_
      refine f_callVi C (a := 101) (ci := 12) (As := fun B => [.int (xs (tn (x3 + 1))), .int (xs (tn (x3 + 2)))]) o101 rfl (c_X12_thing  _ _ _ _ h) tM_L_75 tI_X12_thing tS_X12_thing tN_X12 tC_X12_thing 2 dd_X12_thing rfl (by decide) (by decide) rfl (Nat.le_of_ble_eq_true rfl) dL_law_702 rfl (fun r_106 σ_105 h => ?_)
      refine f_icmp_eq C (t := 1733) dL_law_705 (by decide) rfl (fun hq_107 => ?_) (fun hq_107 => ?_)
      · replace h := Eq.mp (if_pos hq_107) h
        exact s_L_1733 C _ K hK _ h
      · replace h := Eq.mp (if_neg hq_107) h
        refine f_iconst C (v := 0) dL_law_708 kc0 rfl ?_
        exact h.elim
    replace h := Eq.mp (if_neg hq_108) h
    by_cases hq_116 : sw_3 = 13
    · replace h := Eq.mp (if_pos hq_116) h
      refine f_tableIn C (off := 677) (t := 710) dL_law_33 (by rw [hq_116]; decide) (by rw [hq_116]; decide) (by rw [hq_116]; rfl) (by decide) ?_
      refine f_aload_n C (j := 1) dL_law_710 rfl rfl rfl ?_
      refine f_aload_n C (j := 0) dL_law_711 rfl rfl rfl ?_
      refine f_iload_n C (j := 3) dL_law_712 rfl rfl rfl ?_
      refine f_iconst C (v := 1) dL_law_713 kc1 rfl ?_
      refine f_iadd C dL_law_714 rfl ?_
      obtain ⟨hi_109, h⟩ := h
      refine f_sld C (j := tn (x3 + 1)) hi_109 rfl dL_law_715 rfl ?_
      refine f_aload_n C (j := 0) dL_law_716 rfl rfl rfl ?_
      refine f_iload_n C (j := 3) dL_law_717 rfl rfl rfl ?_
      refine f_iconst C (v := 2) dL_law_718 kc2 rfl ?_
      refine f_iadd C dL_law_719 rfl ?_
      obtain ⟨hi_110, h⟩ := h
      refine f_sld C (j := tn (x3 + 2)) hi_110 rfl dL_law_720 rfl ?_
      refine f_callVi C (a := 1) (ci := 11) (As := fun B => [.int (xs (tn (x3 + 1))), .int (xs (tn (x3 + 2)))]) o1 rfl (c_X11_making  _ _ _ _ h) tM_L_76 tI_X11_making tS_X11_making tN_X11 tC_X11_making 2 dd_X11_making rfl (by decide) (by decide) rfl (Nat.le_of_ble_eq_true rfl) dL_law_721 rfl (fun r_112 σ_111 h => ?_)
      refine f_aload_n C (j := 2) dL_law_724 rfl rfl rfl ?_
      refine f_aload_n C (j := 0) dL_law_725 rfl rfl rfl ?_
      refine f_iload_n C (j := 3) dL_law_726 rfl rfl rfl ?_
      refine f_iconst C (v := 1) dL_law_727 kc1 rfl ?_
      refine f_iadd C dL_law_728 rfl ?_
      refine f_sld C (j := tn (x3 + 1)) hi_109 rfl dL_law_729 rfl ?_
      refine f_aload_n C (j := 0) dL_law_730 rfl rfl rfl ?_
      refine f_iload_n C (j := 3) dL_law_731 rfl rfl rfl ?_
      refine f_iconst C (v := 2) dL_law_732 kc2 rfl ?_
      refine f_iadd C dL_law_733 rfl ?_
      refine f_sld C (j := tn (x3 + 2)) hi_110 rfl dL_law_734 rfl ?_
      refine f_callVi C (a := 101) (ci := 12) (As := fun B => [.int (xs (tn (x3 + 1))), .int (xs (tn (x3 + 2)))]) o101 rfl (c_X12_making  _ _ _ _ h) tM_L_79 tI_X12_making tS_X12_making tN_X12 tC_X12_making 2 dd_X12_making rfl (by decide) (by decide) rfl (Nat.le_of_ble_eq_true rfl) dL_law_735 rfl (fun r_114 σ_113 h => ?_)
      refine f_icmp_eq C (t := 1733) dL_law_738 (by decide) rfl (fun hq_115 => ?_) (fun hq_115 => ?_)
      · replace h := Eq.mp (if_pos hq_115) h
        exact s_L_1733 C _ K hK _ h
      · replace h := Eq.mp (if_neg hq_115) h
        refine f_iconst C (v := 0) dL_law_741 kc0 rfl ?_
        exact h.elim
    replace h := Eq.mp (if_neg hq_116) h
    by_cases hq_123 : sw_3 = 14
    · replace h := Eq.mp (if_pos hq_123) h
      refine f_tableIn C (off := 710) (t := 743) dL_law_33 (by rw [hq_123]; decide) (by rw [hq_123]; decide) (by rw [hq_123]; rfl) (by decide) ?_
      refine f_aload_n C (j := 1) dL_law_743 rfl rfl rfl ?_
      refine f_aload_n C (j := 0) dL_law_744 rfl rfl rfl ?_
      refine f_iload_n C (j := 3) dL_law_745 rfl rfl rfl ?_
      refine f_iconst C (v := 1) dL_law_746 kc1 rfl ?_
      refine f_iadd C dL_law_747 rfl ?_
      obtain ⟨hi_117, h⟩ := h
      refine f_sld C (j := tn (x3 + 1)) hi_117 rfl dL_law_748 rfl ?_
      refine f_callVi C (a := 1) (ci := 11) (As := fun B => [.int (xs (tn (x3 + 1)))]) o1 rfl (c_X11_needs  _ _ _ h) tM_L_80 tI_X11_needs tS_X11_needs tN_X11 tC_X11_needs 1 dd_X11_needs rfl (by decide) (by decide) rfl (Nat.le_of_ble_eq_true rfl) dL_law_749 rfl (fun r_119 σ_118 h => ?_)
      refine f_aload_n C (j := 2) dL_law_752 rfl rfl rfl ?_
      refine f_aload_n C (j := 0) dL_law_753 rfl rfl rfl ?_
      refine f_iload_n C (j := 3) dL_law_754 rfl rfl rfl ?_
      refine f_iconst C (v := 1) dL_law_755 kc1 rfl ?_
      refine f_iadd C dL_law_756 rfl ?_
      refine f_sld C (j := tn (x3 + 1)) hi_117 rfl dL_law_757 rfl ?_
      refine f_callVi C (a := 101) (ci := 12) (As := fun B => [.int (xs (tn (x3 + 1)))]) o101 rfl (c_X12_needs  _ _ _ h) tM_L_83 tI_X12_needs tS_X12_needs tN_X12 tC_X12_needs 1 dd_X12_needs rfl (by decide) (by decide) rfl (Nat.le_of_ble_eq_true rfl) dL_law_758 rfl (fun r_121 σ_120 h => ?_)
      refine f_icmp_eq C (t := 1733) dL_law_761 (by decide) rfl (fun hq_122 => ?_) (fun hq_122 => ?_)
      · replace h := Eq.mp (if_pos hq_122) h
        exact s_L_1733 C _ K hK _ h
      · replace h := Eq.mp (if_neg hq_122) h
        refine f_iconst C (v := 0) dL_law_764 kc0 rfl ?_
        exact h.elim
    replace h := Eq.mp (if_neg hq_123) h
    by_cases hq_131 : sw_3 = 15
    · replace h := Eq.mp (if_pos hq_131) h
      refine f_tableIn C (off := 733) (t := 766) dL_law_33 (by rw [hq_131]; decide) (by rw [hq_131]; decide) (by rw [hq_131]; rfl) (by decide) ?_
      refine f_aload_n C (j := 1) dL_law_766 rfl rfl rfl ?_
      refine f_aload_n C (j := 0) dL_law_767 rfl rfl rfl ?_
      refine f_iload_n C (j := 3) dL_law_768 rfl rfl rfl ?_
      refine f_iconst C (v := 1) dL_law_769 kc1 rfl ?_
      refine f_iadd C dL_law_770 rfl ?_
      obtain ⟨hi_124, h⟩ := h
      refine f_sld C (j := tn (x3 + 1)) hi_124 rfl dL_law_771 rfl ?_
      refine f_aload_n C (j := 0) dL_law_772 rfl rfl rfl ?_
      refine f_iload_n C (j := 3) dL_law_773 rfl rfl rfl ?_
      refine f_iconst C (v := 2) dL_law_774 kc2 rfl ?_
      refine f_iadd C dL_law_775 rfl ?_
      obtain ⟨hi_125, h⟩ := h
      refine f_sld C (j := tn (x3 + 2)) hi_125 rfl dL_law_776 rfl ?_
      refine f_callVi C (a := 1) (ci := 11) (As := fun B => [.int (xs (tn (x3 + 1))), .int (xs (tn (x3 + 2)))]) o1 rfl (c_X11_hate  _ _ _ _ h) tM_L_84 tI_X11_hate tS_X11_hate tN_X11 tC_X11_hate 2 dd_X11_hate rfl (by decide) (by decide) rfl (Nat.le_of_ble_eq_true rfl) dL_law_777 rfl (fun r_127 σ_126 h => ?_)
      refine f_aload_n C (j := 2) dL_law_780 rfl rfl rfl ?_
      refine f_aload_n C (j := 0) dL_law_781 rfl rfl rfl ?_
      refine f_iload_n C (j := 3) dL_law_782 rfl rfl rfl ?_
      refine f_iconst C (v := 1) dL_law_783 kc1 rfl ?_
      refine f_iadd C dL_law_784 rfl ?_
      refine f_sld C (j := tn (x3 + 1)) hi_124 rfl dL_law_785 rfl ?_
      refine f_aload_n C (j := 0) dL_law_786 rfl rfl rfl ?_
      refine f_iload_n C (j := 3) dL_law_787 rfl rfl rfl ?_
      refine f_iconst C (v := 2) dL_law_788 kc2 rfl ?_
      refine f_iadd C dL_law_789 rfl ?_
      refine f_sld C (j := tn (x3 + 2)) hi_125 rfl dL_law_790 rfl ?_
      refine f_callVi C (a := 101) (ci := 12) (As := fun B => [.int (xs (tn (x3 + 1))), .int (xs (tn (x3 + 2)))]) o101 rfl (c_X12_hate  _ _ _ _ h) tM_L_87 tI_X12_hate tS_X12_hate tN_X12 tC_X12_hate 2 dd_X12_hate rfl (by decide) (by decide) rfl (Nat.le_of_ble_eq_true rfl) dL_law_791 rfl (fun r_129 σ_128 h => ?_)
      refine f_icmp_eq C (t := 1733) dL_law_794 (by decide) rfl (fun hq_130 => ?_) (fun hq_130 => ?_)
      · replace h := Eq.mp (if_pos hq_130) h
        exact s_L_1733 C _ K hK _ h
      · replace h := Eq.mp (if_neg hq_130) h
        refine f_iconst C (v := 0) dL_law_797 kc0 rfl ?_
        exact h.elim
    replace h := Eq.mp (if_neg hq_131) h
    by_cases hq_138 : sw_3 = 16
    · replace h := Eq.mp (if_pos hq_138) h
      refine f_tableIn C (off := 766) (t := 799) dL_law_33 (by rw [hq_138]; decide) (by rw [hq_138]; decide) (by rw [hq_138]; rfl) (by decide) ?_
      refine f_aload_n C (j := 1) dL_law_799 rfl rfl rfl ?_
      refine f_aload_n C (j := 0) dL_law_800 rfl rfl rfl ?_
      refine f_iload_n C (j := 3) dL_law_801 rfl rfl rfl ?_
      refine f_iconst C (v := 1) dL_law_802 kc1 rfl ?_
      refine f_iadd C dL_law_803 rfl ?_
      obtain ⟨hi_132, h⟩ := h
      refine f_sld C (j := tn (x3 + 1)) hi_132 rfl dL_law_804 rfl ?_
      refine f_callVi C (a := 1) (ci := 11) (As := fun B => [.int (xs (tn (x3 + 1)))]) o1 rfl (c_X11_copyWorth  _ _ _ h) tM_L_88 tI_X11_copyWorth tS_X11_copyWorth tN_X11 tC_X11_copyWorth 1 dd_X11_copyWorth rfl (by decide) (by decide) rfl (Nat.le_of_ble_eq_true rfl) dL_law_805 rfl (fun r_134 σ_133 h => ?_)
      refine f_aload_n C (j := 2) dL_law_808 rfl rfl rfl ?_
      refine f_aload_n C (j := 0) dL_law_809 rfl rfl rfl ?_
      refine f_iload_n C (j := 3) dL_law_810 rfl rfl rfl ?_
      refine f_iconst C (v := 1) dL_law_811 kc1 rfl ?_
      refine f_iadd C dL_law_812 rfl ?_
      refine f_sld C (j := tn (x3 + 1)) hi_132 rfl dL_law_813 rfl ?_
      refine f_callVi C (a := 101) (ci := 12) (As := fun B => [.int (xs (tn (x3 + 1)))]) o101 rfl (c_X12_copyWorth  _ _ _ h) tM_L_91 tI_X12_copyWorth tS_X12_copyWorth tN_X12 tC_X12_copyWorth 1 dd_X12_copyWorth rfl (by decide) (by decide) rfl (Nat.le_of_ble_eq_true rfl) dL_law_814 rfl (fun r_136 σ_135 h => ?_)
      refine f_icmp_eq C (t := 1733) dL_law_817 (by decide) rfl (fun hq_137 => ?_) (fun hq_137 => ?_)
      · replace h := Eq.mp (if_pos hq_137) h
        exact s_L_1733 C _ K hK _ h
      · replace h := Eq.mp (if_neg hq_137) h
        refine f_iconst C (v := 0) dL_law_820 kc0 rfl ?_
        exact h.elim
    replace h := Eq.mp (if_neg hq_138) h
    by_cases hq_145 : sw_3 = 17
    · replace h := Eq.mp (if_pos hq_145) h
      refine f_tableIn C (off := 789) (t := 822) dL_law_33 (by rw [hq_145]; decide) (by rw [hq_145]; decide) (by rw [hq_145]; rfl) (by decide) ?_
      refine f_aload_n C (j := 1) dL_law_822 rfl rfl rfl ?_
      refine f_aload_n C (j := 0) dL_law_823 rfl rfl rfl ?_
      refine f_iload_n C (j := 3) dL_law_824 rfl rfl rfl ?_
      refine f_iconst C (v := 1) dL_law_825 kc1 rfl ?_
      refine f_iadd C dL_law_826 rfl ?_
      obtain ⟨hi_139, h⟩ := h
      refine f_sld C (j := tn (x3 + 1)) hi_139 rfl dL_law_827 rfl ?_
      refine f_callVi C (a := 1) (ci := 11) (As := fun B => [.int (xs (tn (x3 + 1)))]) o1 rfl (c_X11_year  _ _ _ h) tM_L_92 tI_X11_year tS_X11_year tN_X11 tC_X11_year 1 dd_X11_year rfl (by decide) (by decide) rfl (Nat.le_of_ble_eq_true rfl) dL_law_828 rfl (fun r_141 σ_140 h => ?_)
      refine f_aload_n C (j := 2) dL_law_831 rfl rfl rfl ?_
      refine f_aload_n C (j := 0) dL_law_832 rfl rfl rfl ?_
      refine f_iload_n C (j := 3) dL_law_833 rfl rfl rfl ?_
      refine f_iconst C (v := 1) dL_law_834 kc1 rfl ?_
      refine f_iadd C dL_law_835 rfl ?_
      refine f_sld C (j := tn (x3 + 1)) hi_139 rfl dL_law_836 rfl ?_
      refine f_callVi C (a := 101) (ci := 12) (As := fun B => [.int (xs (tn (x3 + 1)))]) o101 rfl (c_X12_year  _ _ _ h) tM_L_95 tI_X12_year tS_X12_year tN_X12 tC_X12_year 1 dd_X12_year rfl (by decide) (by decide) rfl (Nat.le_of_ble_eq_true rfl) dL_law_837 rfl (fun r_143 σ_142 h => ?_)
      refine f_icmp_eq C (t := 1733) dL_law_840 (by decide) rfl (fun hq_144 => ?_) (fun hq_144 => ?_)
      · replace h := Eq.mp (if_pos hq_144) h
        exact s_L_1733 C _ K hK _ h
      · replace h := Eq.mp (if_neg hq_144) h
        refine f_iconst C (v := 0) dL_law_843 kc0 rfl ?_
        exact h.elim
    replace h := Eq.mp (if_neg hq_145) h
    by_cases hq_152 : sw_3 = 18
    · replace h := Eq.mp (if_pos hq_152) h
      refine f_tableIn C (off := 812) (t := 845) dL_law_33 (by rw [hq_152]; decide) (by rw [hq_152]; decide) (by rw [hq_152]; rfl) (by decide) ?_
      refine f_aload_n C (j := 1) dL_law_845 rfl rfl rfl ?_
      refine f_aload_n C (j := 0) dL_law_846 rfl rfl rfl ?_
      refine f_iload_n C (j := 3) dL_law_847 rfl rfl rfl ?_
      refine f_iconst C (v := 1) dL_law_848 kc1 rfl ?_
      refine f_iadd C dL_law_849 rfl ?_
      obtain ⟨hi_146, h⟩ := h
      refine f_sld C (j := tn (x3 + 1)) hi_146 rfl dL_law_850 rfl ?_
      refine f_callVi C (a := 1) (ci := 11) (As := fun B => [.int (xs (tn (x3 + 1)))]) o1 rfl (c_X11_unmake  _ _ _ h) tM_L_96 tI_X11_unmake tS_X11_unmake tN_X11 tC_X11_unmake 1 dd_X11_unmake rfl (by decide) (by decide) rfl (Nat.le_of_ble_eq_true rfl) dL_law_851 rfl (fun r_148 σ_147 h => ?_)
      refine f_aload_n C (j := 2) dL_law_854 rfl rfl rfl ?_
      refine f_aload_n C (j := 0) dL_law_855 rfl rfl rfl ?_
      refine f_iload_n C (j := 3) dL_law_856 rfl rfl rfl ?_
      refine f_iconst C (v := 1) dL_law_857 kc1 rfl ?_
      refine f_iadd C dL_law_858 rfl ?_
      refine f_sld C (j := tn (x3 + 1)) hi_146 rfl dL_law_859 rfl ?_
      refine f_callVi C (a := 101) (ci := 12) (As := fun B => [.int (xs (tn (x3 + 1)))]) o101 rfl (c_X12_unmake  _ _ _ h) tM_L_99 tI_X12_unmake tS_X12_unmake tN_X12 tC_X12_unmake 1 dd_X12_unmake rfl (by decide) (by decide) rfl (Nat.le_of_ble_eq_true rfl) dL_law_860 rfl (fun r_150 σ_149 h => ?_)
      refine f_icmp_eq C (t := 1733) dL_law_863 (by decide) rfl (fun hq_151 => ?_) (fun hq_151 => ?_)
      · replace h := Eq.mp (if_pos hq_151) h
        exact s_L_1733 C _ K hK _ h
      · replace h := Eq.mp (if_neg hq_151) h
        refine f_iconst C (v := 0) dL_law_866 kc0 rfl ?_
        exact h.elim
    replace h := Eq.mp (if_neg hq_152) h
    by_cases hq_159 : sw_3 = 19
    · replace h := Eq.mp (if_pos hq_159) h
      refine f_tableIn C (off := 835) (t := 868) dL_law_33 (by rw [hq_159]; decide) (by rw [hq_159]; decide) (by rw [hq_159]; rfl) (by decide) ?_
      refine f_aload_n C (j := 1) dL_law_868 rfl rfl rfl ?_
      refine f_aload_n C (j := 0) dL_law_869 rfl rfl rfl ?_
      refine f_iload_n C (j := 3) dL_law_870 rfl rfl rfl ?_
      refine f_iconst C (v := 1) dL_law_871 kc1 rfl ?_
      refine f_iadd C dL_law_872 rfl ?_
      obtain ⟨hi_153, h⟩ := h
      refine f_sld C (j := tn (x3 + 1)) hi_153 rfl dL_law_873 rfl ?_
      refine f_callVi C (a := 1) (ci := 11) (As := fun B => [.int (xs (tn (x3 + 1)))]) o1 rfl (c_X11_remake  _ _ _ h) tM_L_100 tI_X11_remake tS_X11_remake tN_X11 tC_X11_remake 1 dd_X11_remake rfl (by decide) (by decide) rfl (Nat.le_of_ble_eq_true rfl) dL_law_874 rfl (fun r_155 σ_154 h => ?_)
      refine f_aload_n C (j := 2) dL_law_877 rfl rfl rfl ?_
      refine f_aload_n C (j := 0) dL_law_878 rfl rfl rfl ?_
      refine f_iload_n C (j := 3) dL_law_879 rfl rfl rfl ?_
      refine f_iconst C (v := 1) dL_law_880 kc1 rfl ?_
      refine f_iadd C dL_law_881 rfl ?_
      refine f_sld C (j := tn (x3 + 1)) hi_153 rfl dL_law_882 rfl ?_
      refine f_callVi C (a := 101) (ci := 12) (As := fun B => [.int (xs (tn (x3 + 1)))]) o101 rfl (c_X12_remake  _ _ _ h) tM_L_103 tI_X12_remake tS_X12_remake tN_X12 tC_X12_remake 1 dd_X12_remake rfl (by decide) (by decide) rfl (Nat.le_of_ble_eq_true rfl) dL_law_883 rfl (fun r_157 σ_156 h => ?_)
      refine f_icmp_eq C (t := 1733) dL_law_886 (by decide) rfl (fun hq_158 => ?_) (fun hq_158 => ?_)
      · replace h := Eq.mp (if_pos hq_158) h
        exact s_L_1733 C _ K hK _ h
      · replace h := Eq.mp (if_neg hq_158) h
        refine f_iconst C (v := 0) dL_law_889 kc0 rfl ?_
        exact h.elim
    replace h := Eq.mp (if_neg hq_159) h
    by_cases hq_181 : sw_3 = 20
    · replace h := Eq.mp (if_pos hq_181) h
      refine f_tableIn C (off := 858) (t := 891) dL_law_33 (by rw [hq_181]; decide) (by rw [hq_181]; decide) (by rw [hq_181]; rfl) (by decide) ?_
      refine f_aload_n C (j := 1) dL_law_891 rfl rfl rfl ?_
      refine f_aload_n C (j := 0) dL_law_892 rfl rfl rfl ?_
      refine f_iload_n C (j := 3) dL_law_893 rfl rfl rfl ?_
      refine f_iconst C (v := 1) dL_law_894 kc1 rfl ?_
      refine f_iadd C dL_law_895 rfl ?_
      obtain ⟨hi_160, h⟩ := h
      refine f_sld C (j := tn (x3 + 1)) hi_160 rfl dL_law_896 rfl ?_
      refine f_aload_n C (j := 0) dL_law_897 rfl rfl rfl ?_
      refine f_iload_n C (j := 3) dL_law_898 rfl rfl rfl ?_
      refine f_iconst C (v := 2) dL_law_899 kc2 rfl ?_
      refine f_iadd C dL_law_900 rfl ?_
      obtain ⟨hi_161, h⟩ := h
      refine f_sld C (j := tn (x3 + 2)) hi_161 rfl dL_law_901 rfl ?_
      refine f_if_eq C (t := 909) dL_law_902 (by decide) rfl (fun hq_162 => ?_) (fun hq_162 => ?_)
      · replace h := Eq.mp (if_pos hq_162) h
        refine f_iconst C (v := 0) dL_law_909 kc0 rfl ?_
        refine f_callVi C (a := 1) (ci := 11) (As := fun B => [.int (xs (tn (x3 + 1))), .int 0]) o1 rfl (c_X11_exempt  _ _ _ _ h) tM_L_104 tI_X11_exempt tS_X11_exempt tN_X11 tC_X11_exempt 2 dd_X11_exempt rfl (by decide) (by decide) rfl (Nat.le_of_ble_eq_true rfl) dL_law_910 rfl (fun r_164 σ_163 h => ?_)
        refine f_aload_n C (j := 2) dL_law_913 rfl rfl rfl ?_
        refine f_aload_n C (j := 0) dL_law_914 rfl rfl rfl ?_
        refine f_iload_n C (j := 3) dL_law_915 rfl rfl rfl ?_
        refine f_iconst C (v := 1) dL_law_916 kc1 rfl ?_
        refine f_iadd C dL_law_917 rfl ?_
        refine f_sld C (j := tn (x3 + 1)) hi_160 rfl dL_law_918 rfl ?_
        refine f_aload_n C (j := 0) dL_law_919 rfl rfl rfl ?_
        refine f_iload_n C (j := 3) dL_law_920 rfl rfl rfl ?_
        refine f_iconst C (v := 2) dL_law_921 kc2 rfl ?_
        refine f_iadd C dL_law_922 rfl ?_
        refine f_sld C (j := tn (x3 + 2)) hi_161 rfl dL_law_923 rfl ?_
        refine f_if_eq C (t := 931) dL_law_924 (by decide) rfl (fun hq_165 => ?_) (fun hq_165 => ?_)
        · replace h := Eq.mp (if_pos hq_165) h
          refine f_iconst C (v := 0) dL_law_931 kc0 rfl ?_
          refine f_callVi C (a := 101) (ci := 12) (As := fun B => [.int (xs (tn (x3 + 1))), .int 0]) o101 rfl (c_X12_exempt  _ _ _ _ h) tM_L_108 tI_X12_exempt tS_X12_exempt tN_X12 tC_X12_exempt 2 dd_X12_exempt rfl (by decide) (by decide) rfl (Nat.le_of_ble_eq_true rfl) dL_law_932 rfl (fun r_167 σ_166 h => ?_)
          refine f_icmp_eq C (t := 1733) dL_law_935 (by decide) rfl (fun hq_168 => ?_) (fun hq_168 => ?_)
          · replace h := Eq.mp (if_pos hq_168) h
            exact s_L_1733 C _ K hK _ h
          · replace h := Eq.mp (if_neg hq_168) h
            refine f_iconst C (v := 0) dL_law_938 kc0 rfl ?_
            exact h.elim
        · replace h := Eq.mp (if_neg hq_165) h
          refine f_iconst C (v := 1) dL_law_927 kc1 rfl ?_
          refine f_goto C (t := 932) dL_law_928 (by decide) ?_
          refine f_callVi C (a := 101) (ci := 12) (As := fun B => [.int (xs (tn (x3 + 1))), .int 1]) o101 rfl (c_X12_exempt  _ _ _ _ h) tM_L_108 tI_X12_exempt tS_X12_exempt tN_X12 tC_X12_exempt 2 dd_X12_exempt rfl (by decide) (by decide) rfl (Nat.le_of_ble_eq_true rfl) dL_law_932 rfl (fun r_170 σ_169 h => ?_)
          refine f_icmp_eq C (t := 1733) dL_law_935 (by decide) rfl (fun hq_171 => ?_) (fun hq_171 => ?_)
          · replace h := Eq.mp (if_pos hq_171) h
            exact s_L_1733 C _ K hK _ h
          · replace h := Eq.mp (if_neg hq_171) h
            refine f_iconst C (v := 0) dL_law_938 kc0 rfl ?_
            exact h.elim
      · replace h := Eq.mp (if_neg hq_162) h
        refine f_iconst C (v := 1) dL_law_905 kc1 rfl ?_
        refine f_goto C (t := 910) dL_law_906 (by decide) ?_
        refine f_callVi C (a := 1) (ci := 11) (As := fun B => [.int (xs (tn (x3 + 1))), .int 1]) o1 rfl (c_X11_exempt  _ _ _ _ h) tM_L_104 tI_X11_exempt tS_X11_exempt tN_X11 tC_X11_exempt 2 dd_X11_exempt rfl (by decide) (by decide) rfl (Nat.le_of_ble_eq_true rfl) dL_law_910 rfl (fun r_173 σ_172 h => ?_)
        refine f_aload_n C (j := 2) dL_law_913 rfl rfl rfl ?_
        refine f_aload_n C (j := 0) dL_law_914 rfl rfl rfl ?_
        refine f_iload_n C (j := 3) dL_law_915 rfl rfl rfl ?_
        refine f_iconst C (v := 1) dL_law_916 kc1 rfl ?_
        refine f_iadd C dL_law_917 rfl ?_
        refine f_sld C (j := tn (x3 + 1)) hi_160 rfl dL_law_918 rfl ?_
        refine f_aload_n C (j := 0) dL_law_919 rfl rfl rfl ?_
        refine f_iload_n C (j := 3) dL_law_920 rfl rfl rfl ?_
        refine f_iconst C (v := 2) dL_law_921 kc2 rfl ?_
        refine f_iadd C dL_law_922 rfl ?_
        refine f_sld C (j := tn (x3 + 2)) hi_161 rfl dL_law_923 rfl ?_
        refine f_if_eq C (t := 931) dL_law_924 (by decide) rfl (fun hq_174 => ?_) (fun hq_174 => ?_)
        · replace h := Eq.mp (if_pos hq_174) h
          refine f_iconst C (v := 0) dL_law_931 kc0 rfl ?_
          refine f_callVi C (a := 101) (ci := 12) (As := fun B => [.int (xs (tn (x3 + 1))), .int 0]) o101 rfl (c_X12_exempt  _ _ _ _ h) tM_L_108 tI_X12_exempt tS_X12_exempt tN_X12 tC_X12_exempt 2 dd_X12_exempt rfl (by decide) (by decide) rfl (Nat.le_of_ble_eq_true rfl) dL_law_932 rfl (fun r_176 σ_175 h => ?_)
          refine f_icmp_eq C (t := 1733) dL_law_935 (by decide) rfl (fun hq_177 => ?_) (fun hq_177 => ?_)
          · replace h := Eq.mp (if_pos hq_177) h
            exact s_L_1733 C _ K hK _ h
          · replace h := Eq.mp (if_neg hq_177) h
            refine f_iconst C (v := 0) dL_law_938 kc0 rfl ?_
            exact h.elim
        · replace h := Eq.mp (if_neg hq_174) h
          refine f_iconst C (v := 1) dL_law_927 kc1 rfl ?_
          refine f_goto C (t := 932) dL_law_928 (by decide) ?_
          refine f_callVi C (a := 101) (ci := 12) (As := fun B => [.int (xs (tn (x3 + 1))), .int 1]) o101 rfl (c_X12_exempt  _ _ _ _ h) tM_L_108 tI_X12_exempt tS_X12_exempt tN_X12 tC_X12_exempt 2 dd_X12_exempt rfl (by decide) (by decide) rfl (Nat.le_of_ble_eq_true rfl) dL_law_932 rfl (fun r_179 σ_178 h => ?_)
          refine f_icmp_eq C (t := 1733) dL_law_935 (by decide) rfl (fun hq_180 => ?_) (fun hq_180 => ?_)
          · replace h := Eq.mp (if_pos hq_180) h
            exact s_L_1733 C _ K hK _ h
          · replace h := Eq.mp (if_neg hq_180) h
            refine f_iconst C (v := 0) dL_law_938 kc0 rfl ?_
            exact h.elim
    replace h := Eq.mp (if_neg hq_181) h
    by_cases hq_190 : sw_3 = 21
    · replace h := Eq.mp (if_pos hq_190) h
      refine f_tableIn C (off := 907) (t := 940) dL_law_33 (by rw [hq_190]; decide) (by rw [hq_190]; decide) (by rw [hq_190]; rfl) (by decide) ?_
      refine f_aload_n C (j := 1) dL_law_940 rfl rfl rfl ?_
      refine f_aload_n C (j := 0) dL_law_941 rfl rfl rfl ?_
      refine f_iload_n C (j := 3) dL_law_942 rfl rfl rfl ?_
      refine f_iconst C (v := 1) dL_law_943 kc1 rfl ?_
      refine f_iadd C dL_law_944 rfl ?_
      obtain ⟨hi_182, h⟩ := h
      refine f_sld C (j := tn (x3 + 1)) hi_182 rfl dL_law_945 rfl ?_
      refine f_aload_n C (j := 0) dL_law_946 rfl rfl rfl ?_
      refine f_iload_n C (j := 3) dL_law_947 rfl rfl rfl ?_
      refine f_iconst C (v := 2) dL_law_948 kc2 rfl ?_
      refine f_iadd C dL_law_949 rfl ?_
      obtain ⟨hi_183, h⟩ := h
      refine f_sld C (j := tn (x3 + 2)) hi_183 rfl dL_law_950 rfl ?_
      refine f_aload_n C (j := 0) dL_law_951 rfl rfl rfl ?_
      refine f_iload_n C (j := 3) dL_law_952 rfl rfl rfl ?_
      refine f_iconst C (v := 3) dL_law_953 kc3 rfl ?_
      refine f_iadd C dL_law_954 rfl ?_
      obtain ⟨hi_184, h⟩ := h
      refine f_sld C (j := tn (x3 + 3)) hi_184 rfl dL_law_955 rfl ?_
      refine f_callVi C (a := 1) (ci := 11) (As := fun B => [.int (xs (tn (x3 + 1))), .int (xs (tn (x3 + 2))), .int (xs (tn (x3 + 3)))]) o1 rfl (c_X11_grudge  _ _ _ _ _ h) tM_L_109 tI_X11_grudge tS_X11_grudge tN_X11 tC_X11_grudge 3 dd_X11_grudge rfl (by decide) (by decide) rfl (Nat.le_of_ble_eq_true rfl) dL_law_956 rfl (fun r_186 σ_185 h => ?_)
      refine f_aload_n C (j := 2) dL_law_959 rfl rfl rfl ?_
      refine f_aload_n C (j := 0) dL_law_960 rfl rfl rfl ?_
      refine f_iload_n C (j := 3) dL_law_961 rfl rfl rfl ?_
      refine f_iconst C (v := 1) dL_law_962 kc1 rfl ?_
      refine f_iadd C dL_law_963 rfl ?_
      refine f_sld C (j := tn (x3 + 1)) hi_182 rfl dL_law_964 rfl ?_
      refine f_aload_n C (j := 0) dL_law_965 rfl rfl rfl ?_
      refine f_iload_n C (j := 3) dL_law_966 rfl rfl rfl ?_
      refine f_iconst C (v := 2) dL_law_967 kc2 rfl ?_
      refine f_iadd C dL_law_968 rfl ?_
      refine f_sld C (j := tn (x3 + 2)) hi_183 rfl dL_law_969 rfl ?_
      refine f_aload_n C (j := 0) dL_law_970 rfl rfl rfl ?_
      refine f_iload_n C (j := 3) dL_law_971 rfl rfl rfl ?_
      refine f_iconst C (v := 3) dL_law_972 kc3 rfl ?_
      refine f_iadd C dL_law_973 rfl ?_
      refine f_sld C (j := tn (x3 + 3)) hi_184 rfl dL_law_974 rfl ?_
      refine f_callVi C (a := 101) (ci := 12) (As := fun B => [.int (xs (tn (x3 + 1))), .int (xs (tn (x3 + 2))), .int (xs (tn (x3 + 3)))]) o101 rfl (c_X12_grudge  _ _ _ _ _ h) tM_L_112 tI_X12_grudge tS_X12_grudge tN_X12 tC_X12_grudge 3 dd_X12_grudge rfl (by decide) (by decide) rfl (Nat.le_of_ble_eq_true rfl) dL_law_975 rfl (fun r_188 σ_187 h => ?_)
      refine f_icmp_eq C (t := 1733) dL_law_978 (by decide) rfl (fun hq_189 => ?_) (fun hq_189 => ?_)
      · replace h := Eq.mp (if_pos hq_189) h
        exact s_L_1733 C _ K hK _ h
      · replace h := Eq.mp (if_neg hq_189) h
        refine f_iconst C (v := 0) dL_law_981 kc0 rfl ?_
        exact h.elim
    replace h := Eq.mp (if_neg hq_190) h
    by_cases hq_197 : sw_3 = 22
    · replace h := Eq.mp (if_pos hq_197) h
      refine f_tableIn C (off := 950) (t := 983) dL_law_33 (by rw [hq_197]; decide) (by rw [hq_197]; decide) (by rw [hq_197]; rfl) (by decide) ?_
      refine f_aload_n C (j := 1) dL_law_983 rfl rfl rfl ?_
      refine f_aload_n C (j := 0) dL_law_984 rfl rfl rfl ?_
      refine f_iload_n C (j := 3) dL_law_985 rfl rfl rfl ?_
      refine f_iconst C (v := 1) dL_law_986 kc1 rfl ?_
      refine f_iadd C dL_law_987 rfl ?_
      obtain ⟨hi_191, h⟩ := h
      refine f_sld C (j := tn (x3 + 1)) hi_191 rfl dL_law_988 rfl ?_
      refine f_callVi C (a := 1) (ci := 11) (As := fun B => [.int (xs (tn (x3 + 1)))]) o1 rfl (c_X11_rule  _ _ _ h) tM_L_113 tI_X11_rule tS_X11_rule tN_X11 tC_X11_rule 1 dd_X11_rule rfl (by decide) (by decide) rfl (Nat.le_of_ble_eq_true rfl) dL_law_989 rfl (fun r_193 σ_192 h => ?_)
      refine f_aload_n C (j := 2) dL_law_992 rfl rfl rfl ?_
      refine f_aload_n C (j := 0) dL_law_993 rfl rfl rfl ?_
      refine f_iload_n C (j := 3) dL_law_994 rfl rfl rfl ?_
      refine f_iconst C (v := 1) dL_law_995 kc1 rfl ?_
      refine f_iadd C dL_law_996 rfl ?_
      refine f_sld C (j := tn (x3 + 1)) hi_191 rfl dL_law_997 rfl ?_
      refine f_callVi C (a := 101) (ci := 12) (As := fun B => [.int (xs (tn (x3 + 1)))]) o101 rfl (c_X12_rule  _ _ _ h) tM_L_117 tI_X12_rule tS_X12_rule tN_X12 tC_X12_rule 1 dd_X12_rule rfl (by decide) (by decide) rfl (Nat.le_of_ble_eq_true rfl) dL_law_998 rfl (fun r_195 σ_194 h => ?_)
      refine f_icmp_eq C (t := 1733) dL_law_1001 (by decide) rfl (fun hq_196 => ?_) (fun hq_196 => ?_)
      · replace h := Eq.mp (if_pos hq_196) h
        exact s_L_1733 C _ K hK _ h
      · replace h := Eq.mp (if_neg hq_196) h
        refine f_iconst C (v := 0) dL_law_1004 kc0 rfl ?_
        exact h.elim
    replace h := Eq.mp (if_neg hq_197) h
    by_cases hq_203 : sw_3 = 23
    · replace h := Eq.mp (if_pos hq_203) h
      refine f_tableIn C (off := 973) (t := 1006) dL_law_33 (by rw [hq_203]; decide) (by rw [hq_203]; decide) (by rw [hq_203]; rfl) (by decide) ?_
      refine f_aload_n C (j := 1) dL_law_1006 rfl rfl rfl ?_
      refine f_callVi C (a := 1) (ci := 11) (As := fun B => []) o1 rfl (c_X11_vote   _ _ h) tM_L_118 tI_X11_vote tS_X11_vote tN_X11 tC_X11_vote 0 dd_X11_vote rfl (by decide) (by decide) rfl (Nat.le_of_ble_eq_true rfl) dL_law_1007 rfl (fun r_199 σ_198 h => ?_)
      refine f_aload_n C (j := 2) dL_law_1010 rfl rfl rfl ?_
      refine f_callVi C (a := 101) (ci := 12) (As := fun B => []) o101 rfl (c_X12_vote   _ _ h) tM_L_121 tI_X12_vote tS_X12_vote tN_X12 tC_X12_vote 0 dd_X12_vote rfl (by decide) (by decide) rfl (Nat.le_of_ble_eq_true rfl) dL_law_1011 rfl (fun r_201 σ_200 h => ?_)
      refine f_icmp_eq C (t := 1733) dL_law_1014 (by decide) rfl (fun hq_202 => ?_) (fun hq_202 => ?_)
      · replace h := Eq.mp (if_pos hq_202) h
        exact s_L_1733 C _ K hK _ h
      · replace h := Eq.mp (if_neg hq_202) h
        refine f_iconst C (v := 0) dL_law_1017 kc0 rfl ?_
        exact h.elim
    replace h := Eq.mp (if_neg hq_203) h
    by_cases hq_210 : sw_3 = 24
    · replace h := Eq.mp (if_pos hq_210) h
      refine f_tableIn C (off := 986) (t := 1019) dL_law_33 (by rw [hq_210]; decide) (by rw [hq_210]; decide) (by rw [hq_210]; rfl) (by decide) ?_
      refine f_aload_n C (j := 1) dL_law_1019 rfl rfl rfl ?_
      refine f_aload_n C (j := 0) dL_law_1020 rfl rfl rfl ?_
      refine f_iload_n C (j := 3) dL_law_1021 rfl rfl rfl ?_
      refine f_iconst C (v := 1) dL_law_1022 kc1 rfl ?_
      refine f_iadd C dL_law_1023 rfl ?_
      obtain ⟨hi_204, h⟩ := h
      refine f_sld C (j := tn (x3 + 1)) hi_204 rfl dL_law_1024 rfl ?_
      refine f_callVi C (a := 1) (ci := 11) (As := fun B => [.int (xs (tn (x3 + 1)))]) o1 rfl (c_X11_votes  _ _ _ h) tM_L_122 tI_X11_votes tS_X11_votes tN_X11 tC_X11_votes 1 dd_X11_votes rfl (by decide) (by decide) rfl (Nat.le_of_ble_eq_true rfl) dL_law_1025 rfl (fun r_206 σ_205 h => ?_)
      refine f_aload_n C (j := 2) dL_law_1028 rfl rfl rfl ?_
      refine f_aload_n C (j := 0) dL_law_1029 rfl rfl rfl ?_
      refine f_iload_n C (j := 3) dL_law_1030 rfl rfl rfl ?_
      refine f_iconst C (v := 1) dL_law_1031 kc1 rfl ?_
      refine f_iadd C dL_law_1032 rfl ?_
      refine f_sld C (j := tn (x3 + 1)) hi_204 rfl dL_law_1033 rfl ?_
      refine f_callVi C (a := 101) (ci := 12) (As := fun B => [.int (xs (tn (x3 + 1)))]) o101 rfl (c_X12_votes  _ _ _ h) tM_L_125 tI_X12_votes tS_X12_votes tN_X12 tC_X12_votes 1 dd_X12_votes rfl (by decide) (by decide) rfl (Nat.le_of_ble_eq_true rfl) dL_law_1034 rfl (fun r_208 σ_207 h => ?_)
      refine f_icmp_eq C (t := 1733) dL_law_1037 (by decide) rfl (fun hq_209 => ?_) (fun hq_209 => ?_)
      · replace h := Eq.mp (if_pos hq_209) h
        exact s_L_1733 C _ K hK _ h
      · replace h := Eq.mp (if_neg hq_209) h
        refine f_iconst C (v := 0) dL_law_1040 kc0 rfl ?_
        exact h.elim
    replace h := Eq.mp (if_neg hq_210) h
    by_cases hq_217 : sw_3 = 25
    · replace h := Eq.mp (if_pos hq_217) h
      refine f_tableIn C (off := 1009) (t := 1042) dL_law_33 (by rw [hq_217]; decide) (by rw [hq_217]; decide) (by rw [hq_217]; rfl) (by decide) ?_
      refine f_aload_n C (j := 1) dL_law_1042 rfl rfl rfl ?_
      refine f_aload_n C (j := 0) dL_law_1043 rfl rfl rfl ?_
      refine f_iload_n C (j := 3) dL_law_1044 rfl rfl rfl ?_
      refine f_iconst C (v := 1) dL_law_1045 kc1 rfl ?_
      refine f_iadd C dL_law_1046 rfl ?_
      obtain ⟨hi_211, h⟩ := h
      refine f_sld C (j := tn (x3 + 1)) hi_211 rfl dL_law_1047 rfl ?_
      refine f_callVi C (a := 1) (ci := 11) (As := fun B => [.int (xs (tn (x3 + 1)))]) o1 rfl (c_X11_voteBy  _ _ _ h) tM_L_126 tI_X11_voteBy tS_X11_voteBy tN_X11 tC_X11_voteBy 1 dd_X11_voteBy rfl (by decide) (by decide) rfl (Nat.le_of_ble_eq_true rfl) dL_law_1048 rfl (fun r_213 σ_212 h => ?_)
      refine f_aload_n C (j := 2) dL_law_1051 rfl rfl rfl ?_
      refine f_aload_n C (j := 0) dL_law_1052 rfl rfl rfl ?_
      refine f_iload_n C (j := 3) dL_law_1053 rfl rfl rfl ?_
      refine f_iconst C (v := 1) dL_law_1054 kc1 rfl ?_
      refine f_iadd C dL_law_1055 rfl ?_
      refine f_sld C (j := tn (x3 + 1)) hi_211 rfl dL_law_1056 rfl ?_
      refine f_callVi C (a := 101) (ci := 12) (As := fun B => [.int (xs (tn (x3 + 1)))]) o101 rfl (c_X12_voteBy  _ _ _ h) tM_L_129 tI_X12_voteBy tS_X12_voteBy tN_X12 tC_X12_voteBy 1 dd_X12_voteBy rfl (by decide) (by decide) rfl (Nat.le_of_ble_eq_true rfl) dL_law_1057 rfl (fun r_215 σ_214 h => ?_)
      refine f_icmp_eq C (t := 1733) dL_law_1060 (by decide) rfl (fun hq_216 => ?_) (fun hq_216 => ?_)
      · replace h := Eq.mp (if_pos hq_216) h
        exact s_L_1733 C _ K hK _ h
      · replace h := Eq.mp (if_neg hq_216) h
        refine f_iconst C (v := 0) dL_law_1063 kc0 rfl ?_
        exact h.elim
    replace h := Eq.mp (if_neg hq_217) h
    by_cases hq_224 : sw_3 = 26
    · replace h := Eq.mp (if_pos hq_224) h
      refine f_tableIn C (off := 1032) (t := 1065) dL_law_33 (by rw [hq_224]; decide) (by rw [hq_224]; decide) (by rw [hq_224]; rfl) (by decide) ?_
      refine f_aload_n C (j := 1) dL_law_1065 rfl rfl rfl ?_
      refine f_aload_n C (j := 0) dL_law_1066 rfl rfl rfl ?_
      refine f_iload_n C (j := 3) dL_law_1067 rfl rfl rfl ?_
      refine f_iconst C (v := 1) dL_law_1068 kc1 rfl ?_
      refine f_iadd C dL_law_1069 rfl ?_
      obtain ⟨hi_218, h⟩ := h
      refine f_sld C (j := tn (x3 + 1)) hi_218 rfl dL_law_1070 rfl ?_
      refine f_callVi C (a := 1) (ci := 11) (As := fun B => [.int (xs (tn (x3 + 1)))]) o1 rfl (c_X11_sway  _ _ _ h) tM_L_130 tI_X11_sway tS_X11_sway tN_X11 tC_X11_sway 1 dd_X11_sway rfl (by decide) (by decide) rfl (Nat.le_of_ble_eq_true rfl) dL_law_1071 rfl (fun r_220 σ_219 h => ?_)
      refine f_aload_n C (j := 2) dL_law_1074 rfl rfl rfl ?_
      refine f_aload_n C (j := 0) dL_law_1075 rfl rfl rfl ?_
      refine f_iload_n C (j := 3) dL_law_1076 rfl rfl rfl ?_
      refine f_iconst C (v := 1) dL_law_1077 kc1 rfl ?_
      refine f_iadd C dL_law_1078 rfl ?_
      refine f_sld C (j := tn (x3 + 1)) hi_218 rfl dL_law_1079 rfl ?_
      refine f_callVi C (a := 101) (ci := 12) (As := fun B => [.int (xs (tn (x3 + 1)))]) o101 rfl (c_X12_sway  _ _ _ h) tM_L_133 tI_X12_sway tS_X12_sway tN_X12 tC_X12_sway 1 dd_X12_sway rfl (by decide) (by decide) rfl (Nat.le_of_ble_eq_true rfl) dL_law_1080 rfl (fun r_222 σ_221 h => ?_)
      refine f_icmp_eq C (t := 1733) dL_law_1083 (by decide) rfl (fun hq_223 => ?_) (fun hq_223 => ?_)
      · replace h := Eq.mp (if_pos hq_223) h
        exact s_L_1733 C _ K hK _ h
      · replace h := Eq.mp (if_neg hq_223) h
        refine f_iconst C (v := 0) dL_law_1086 kc0 rfl ?_
        exact h.elim
    replace h := Eq.mp (if_neg hq_224) h
    by_cases hq_231 : sw_3 = 27
    · replace h := Eq.mp (if_pos hq_231) h
      refine f_tableIn C (off := 1055) (t := 1088) dL_law_33 (by rw [hq_231]; decide) (by rw [hq_231]; decide) (by rw [hq_231]; rfl) (by decide) ?_
      refine f_aload_n C (j := 1) dL_law_1088 rfl rfl rfl ?_
      refine f_aload_n C (j := 0) dL_law_1089 rfl rfl rfl ?_
      refine f_iload_n C (j := 3) dL_law_1090 rfl rfl rfl ?_
      refine f_iconst C (v := 1) dL_law_1091 kc1 rfl ?_
      refine f_iadd C dL_law_1092 rfl ?_
      obtain ⟨hi_225, h⟩ := h
      refine f_sld C (j := tn (x3 + 1)) hi_225 rfl dL_law_1093 rfl ?_
      refine f_callVi C (a := 1) (ci := 11) (As := fun B => [.int (xs (tn (x3 + 1)))]) o1 rfl (c_X11_falls  _ _ _ h) tM_L_134 tI_X11_falls tS_X11_falls tN_X11 tC_X11_falls 1 dd_X11_falls rfl (by decide) (by decide) rfl (Nat.le_of_ble_eq_true rfl) dL_law_1094 rfl (fun r_227 σ_226 h => ?_)
      refine f_aload_n C (j := 2) dL_law_1097 rfl rfl rfl ?_
      refine f_aload_n C (j := 0) dL_law_1098 rfl rfl rfl ?_
      refine f_iload_n C (j := 3) dL_law_1099 rfl rfl rfl ?_
      refine f_iconst C (v := 1) dL_law_1100 kc1 rfl ?_
      refine f_iadd C dL_law_1101 rfl ?_
      refine f_sld C (j := tn (x3 + 1)) hi_225 rfl dL_law_1102 rfl ?_
      refine f_callVi C (a := 101) (ci := 12) (As := fun B => [.int (xs (tn (x3 + 1)))]) o101 rfl (c_X12_falls  _ _ _ h) tM_L_137 tI_X12_falls tS_X12_falls tN_X12 tC_X12_falls 1 dd_X12_falls rfl (by decide) (by decide) rfl (Nat.le_of_ble_eq_true rfl) dL_law_1103 rfl (fun r_229 σ_228 h => ?_)
      refine f_icmp_eq C (t := 1733) dL_law_1106 (by decide) rfl (fun hq_230 => ?_) (fun hq_230 => ?_)
      · replace h := Eq.mp (if_pos hq_230) h
        exact s_L_1733 C _ K hK _ h
      · replace h := Eq.mp (if_neg hq_230) h
        refine f_iconst C (v := 0) dL_law_1109 kc0 rfl ?_
        exact h.elim
    replace h := Eq.mp (if_neg hq_231) h
    by_cases hq_238 : sw_3 = 28
    · replace h := Eq.mp (if_pos hq_238) h
      refine f_tableIn C (off := 1078) (t := 1111) dL_law_33 (by rw [hq_238]; decide) (by rw [hq_238]; decide) (by rw [hq_238]; rfl) (by decide) ?_
      refine f_aload_n C (j := 1) dL_law_1111 rfl rfl rfl ?_
      refine f_aload_n C (j := 0) dL_law_1112 rfl rfl rfl ?_
      refine f_iload_n C (j := 3) dL_law_1113 rfl rfl rfl ?_
      refine f_iconst C (v := 1) dL_law_1114 kc1 rfl ?_
      refine f_iadd C dL_law_1115 rfl ?_
      obtain ⟨hi_232, h⟩ := h
      refine f_sld C (j := tn (x3 + 1)) hi_232 rfl dL_law_1116 rfl ?_
      refine f_callVi C (a := 1) (ci := 11) (As := fun B => [.int (xs (tn (x3 + 1)))]) o1 rfl (c_X11_loss  _ _ _ h) tM_L_138 tI_X11_loss tS_X11_loss tN_X11 tC_X11_loss 1 dd_X11_loss rfl (by decide) (by decide) rfl (Nat.le_of_ble_eq_true rfl) dL_law_1117 rfl (fun r_234 σ_233 h => ?_)
      refine f_aload_n C (j := 2) dL_law_1120 rfl rfl rfl ?_
      refine f_aload_n C (j := 0) dL_law_1121 rfl rfl rfl ?_
      refine f_iload_n C (j := 3) dL_law_1122 rfl rfl rfl ?_
      refine f_iconst C (v := 1) dL_law_1123 kc1 rfl ?_
      refine f_iadd C dL_law_1124 rfl ?_
      refine f_sld C (j := tn (x3 + 1)) hi_232 rfl dL_law_1125 rfl ?_
      refine f_callVi C (a := 101) (ci := 12) (As := fun B => [.int (xs (tn (x3 + 1)))]) o101 rfl (c_X12_loss  _ _ _ h) tM_L_141 tI_X12_loss tS_X12_loss tN_X12 tC_X12_loss 1 dd_X12_loss rfl (by decide) (by decide) rfl (Nat.le_of_ble_eq_true rfl) dL_law_1126 rfl (fun r_236 σ_235 h => ?_)
      refine f_icmp_eq C (t := 1733) dL_law_1129 (by decide) rfl (fun hq_237 => ?_) (fun hq_237 => ?_)
      · replace h := Eq.mp (if_pos hq_237) h
        exact s_L_1733 C _ K hK _ h
      · replace h := Eq.mp (if_neg hq_237) h
        refine f_iconst C (v := 0) dL_law_1132 kc0 rfl ?_
        exact h.elim
    replace h := Eq.mp (if_neg hq_238) h
    by_cases hq_244 : sw_3 = 29
    · replace h := Eq.mp (if_pos hq_244) h
      refine f_tableIn C (off := 1101) (t := 1134) dL_law_33 (by rw [hq_244]; decide) (by rw [hq_244]; decide) (by rw [hq_244]; rfl) (by decide) ?_
      refine f_aload_n C (j := 1) dL_law_1134 rfl rfl rfl ?_
      refine f_callVi C (a := 1) (ci := 11) (As := fun B => []) o1 rfl (c_X11_keystone   _ _ h) tM_L_142 tI_X11_keystone tS_X11_keystone tN_X11 tC_X11_keystone 0 dd_X11_keystone rfl (by decide) (by decide) rfl (Nat.le_of_ble_eq_true rfl) dL_law_1135 rfl (fun r_240 σ_239 h => ?_)
      refine f_aload_n C (j := 2) dL_law_1138 rfl rfl rfl ?_
      refine f_callVi C (a := 101) (ci := 12) (As := fun B => []) o101 rfl (c_X12_keystone   _ _ h) tM_L_145 tI_X12_keystone tS_X12_keystone tN_X12 tC_X12_keystone 0 dd_X12_keystone rfl (by decide) (by decide) rfl (Nat.le_of_ble_eq_true rfl) dL_law_1139 rfl (fun r_242 σ_241 h => ?_)
      refine f_icmp_eq C (t := 1733) dL_law_1142 (by decide) rfl (fun hq_243 => ?_) (fun hq_243 => ?_)
      · replace h := Eq.mp (if_pos hq_243) h
        exact s_L_1733 C _ K hK _ h
      · replace h := Eq.mp (if_neg hq_243) h
        refine f_iconst C (v := 0) dL_law_1145 kc0 rfl ?_
        exact h.elim
    replace h := Eq.mp (if_neg hq_244) h
    by_cases hq_251 : sw_3 = 30
    · replace h := Eq.mp (if_pos hq_251) h
      refine f_tableIn C (off := 1114) (t := 1147) dL_law_33 (by rw [hq_251]; decide) (by rw [hq_251]; decide) (by rw [hq_251]; rfl) (by decide) ?_
      refine f_aload_n C (j := 1) dL_law_1147 rfl rfl rfl ?_
      refine f_aload_n C (j := 0) dL_law_1148 rfl rfl rfl ?_
      refine f_iload_n C (j := 3) dL_law_1149 rfl rfl rfl ?_
      refine f_iconst C (v := 1) dL_law_1150 kc1 rfl ?_
      refine f_iadd C dL_law_1151 rfl ?_
      obtain ⟨hi_245, h⟩ := h
      refine f_sld C (j := tn (x3 + 1)) hi_245 rfl dL_law_1152 rfl ?_
      refine f_callVi C (a := 1) (ci := 11) (As := fun B => [.int (xs (tn (x3 + 1)))]) o1 rfl (c_X11_goneBy  _ _ _ h) tM_L_146 tI_X11_goneBy tS_X11_goneBy tN_X11 tC_X11_goneBy 1 dd_X11_goneBy rfl (by decide) (by decide) rfl (Nat.le_of_ble_eq_true rfl) dL_law_1153 rfl (fun r_247 σ_246 h => ?_)
      refine f_aload_n C (j := 2) dL_law_1156 rfl rfl rfl ?_
      refine f_aload_n C (j := 0) dL_law_1157 rfl rfl rfl ?_
      refine f_iload_n C (j := 3) dL_law_1158 rfl rfl rfl ?_
      refine f_iconst C (v := 1) dL_law_1159 kc1 rfl ?_
      refine f_iadd C dL_law_1160 rfl ?_
      refine f_sld C (j := tn (x3 + 1)) hi_245 rfl dL_law_1161 rfl ?_
      refine f_callVi C (a := 101) (ci := 12) (As := fun B => [.int (xs (tn (x3 + 1)))]) o101 rfl (c_X12_goneBy  _ _ _ h) tM_L_149 tI_X12_goneBy tS_X12_goneBy tN_X12 tC_X12_goneBy 1 dd_X12_goneBy rfl (by decide) (by decide) rfl (Nat.le_of_ble_eq_true rfl) dL_law_1162 rfl (fun r_249 σ_248 h => ?_)
      refine f_icmp_eq C (t := 1733) dL_law_1165 (by decide) rfl (fun hq_250 => ?_) (fun hq_250 => ?_)
      · replace h := Eq.mp (if_pos hq_250) h
        exact s_L_1733 C _ K hK _ h
      · replace h := Eq.mp (if_neg hq_250) h
        refine f_iconst C (v := 0) dL_law_1168 kc0 rfl ?_
        exact h.elim
    replace h := Eq.mp (if_neg hq_251) h
    by_cases hq_258 : sw_3 = 31
    · replace h := Eq.mp (if_pos hq_258) h
      refine f_tableIn C (off := 1137) (t := 1170) dL_law_33 (by rw [hq_258]; decide) (by rw [hq_258]; decide) (by rw [hq_258]; rfl) (by decide) ?_
      refine f_aload_n C (j := 1) dL_law_1170 rfl rfl rfl ?_
      refine f_aload_n C (j := 0) dL_law_1171 rfl rfl rfl ?_
      refine f_iload_n C (j := 3) dL_law_1172 rfl rfl rfl ?_
      refine f_iconst C (v := 1) dL_law_1173 kc1 rfl ?_
      refine f_iadd C dL_law_1174 rfl ?_
      obtain ⟨hi_252, h⟩ := h
      refine f_sld C (j := tn (x3 + 1)) hi_252 rfl dL_law_1175 rfl ?_
      refine f_callVi C (a := 1) (ci := 11) (As := fun B => [.int (xs (tn (x3 + 1)))]) o1 rfl (c_X11_ends  _ _ _ h) tM_L_150 tI_X11_ends tS_X11_ends tN_X11 tC_X11_ends 1 dd_X11_ends rfl (by decide) (by decide) rfl (Nat.le_of_ble_eq_true rfl) dL_law_1176 rfl (fun r_254 σ_253 h => ?_)
      refine f_aload_n C (j := 2) dL_law_1179 rfl rfl rfl ?_
      refine f_aload_n C (j := 0) dL_law_1180 rfl rfl rfl ?_
      refine f_iload_n C (j := 3) dL_law_1181 rfl rfl rfl ?_
      refine f_iconst C (v := 1) dL_law_1182 kc1 rfl ?_
      refine f_iadd C dL_law_1183 rfl ?_
      refine f_sld C (j := tn (x3 + 1)) hi_252 rfl dL_law_1184 rfl ?_
      refine f_callVi C (a := 101) (ci := 12) (As := fun B => [.int (xs (tn (x3 + 1)))]) o101 rfl (c_X12_ends  _ _ _ h) tM_L_153 tI_X12_ends tS_X12_ends tN_X12 tC_X12_ends 1 dd_X12_ends rfl (by decide) (by decide) rfl (Nat.le_of_ble_eq_true rfl) dL_law_1185 rfl (fun r_256 σ_255 h => ?_)
      refine f_icmp_eq C (t := 1733) dL_law_1188 (by decide) rfl (fun hq_257 => ?_) (fun hq_257 => ?_)
      · replace h := Eq.mp (if_pos hq_257) h
        exact s_L_1733 C _ K hK _ h
      · replace h := Eq.mp (if_neg hq_257) h
        refine f_iconst C (v := 0) dL_law_1191 kc0 rfl ?_
        exact h.elim
    replace h := Eq.mp (if_neg hq_258) h
    by_cases hq_265 : sw_3 = 32
    · replace h := Eq.mp (if_pos hq_265) h
      refine f_tableIn C (off := 1160) (t := 1193) dL_law_33 (by rw [hq_265]; decide) (by rw [hq_265]; decide) (by rw [hq_265]; rfl) (by decide) ?_
      refine f_aload_n C (j := 1) dL_law_1193 rfl rfl rfl ?_
      refine f_aload_n C (j := 0) dL_law_1194 rfl rfl rfl ?_
      refine f_iload_n C (j := 3) dL_law_1195 rfl rfl rfl ?_
      refine f_iconst C (v := 1) dL_law_1196 kc1 rfl ?_
      refine f_iadd C dL_law_1197 rfl ?_
      obtain ⟨hi_259, h⟩ := h
      refine f_sld C (j := tn (x3 + 1)) hi_259 rfl dL_law_1198 rfl ?_
      refine f_callVi C (a := 1) (ci := 11) (As := fun B => [.int (xs (tn (x3 + 1)))]) o1 rfl (c_X11_later  _ _ _ h) tM_L_154 tI_X11_later tS_X11_later tN_X11 tC_X11_later 1 dd_X11_later rfl (by decide) (by decide) rfl (Nat.le_of_ble_eq_true rfl) dL_law_1199 rfl (fun r_261 σ_260 h => ?_)
      refine f_aload_n C (j := 2) dL_law_1202 rfl rfl rfl ?_
      refine f_aload_n C (j := 0) dL_law_1203 rfl rfl rfl ?_
      refine f_iload_n C (j := 3) dL_law_1204 rfl rfl rfl ?_
      refine f_iconst C (v := 1) dL_law_1205 kc1 rfl ?_
      refine f_iadd C dL_law_1206 rfl ?_
      refine f_sld C (j := tn (x3 + 1)) hi_259 rfl dL_law_1207 rfl ?_
      refine f_callVi C (a := 101) (ci := 12) (As := fun B => [.int (xs (tn (x3 + 1)))]) o101 rfl (c_X12_later  _ _ _ h) tM_L_157 tI_X12_later tS_X12_later tN_X12 tC_X12_later 1 dd_X12_later rfl (by decide) (by decide) rfl (Nat.le_of_ble_eq_true rfl) dL_law_1208 rfl (fun r_263 σ_262 h => ?_)
      refine f_icmp_eq C (t := 1733) dL_law_1211 (by decide) rfl (fun hq_264 => ?_) (fun hq_264 => ?_)
      · replace h := Eq.mp (if_pos hq_264) h
        exact s_L_1733 C _ K hK _ h
      · replace h := Eq.mp (if_neg hq_264) h
        refine f_iconst C (v := 0) dL_law_1214 kc0 rfl ?_
        exact h.elim
    replace h := Eq.mp (if_neg hq_265) h
    by_cases hq_273 : sw_3 = 33
    · replace h := Eq.mp (if_pos hq_273) h
      refine f_tableIn C (off := 1183) (t := 1216) dL_law_33 (by rw [hq_273]; decide) (by rw [hq_273]; decide) (by rw [hq_273]; rfl) (by decide) ?_
      refine f_aload_n C (j := 1) dL_law_1216 rfl rfl rfl ?_
      refine f_aload_n C (j := 0) dL_law_1217 rfl rfl rfl ?_
      refine f_iload_n C (j := 3) dL_law_1218 rfl rfl rfl ?_
      refine f_iconst C (v := 1) dL_law_1219 kc1 rfl ?_
      refine f_iadd C dL_law_1220 rfl ?_
      obtain ⟨hi_266, h⟩ := h
      refine f_sld C (j := tn (x3 + 1)) hi_266 rfl dL_law_1221 rfl ?_
      refine f_aload_n C (j := 0) dL_law_1222 rfl rfl rfl ?_
      refine f_iload_n C (j := 3) dL_law_1223 rfl rfl rfl ?_
      refine f_iconst C (v := 2) dL_law_1224 kc2 rfl ?_
      refine f_iadd C dL_law_1225 rfl ?_
      obtain ⟨hi_267, h⟩ := h
      refine f_sld C (j := tn (x3 + 2)) hi_267 rfl dL_law_1226 rfl ?_
      refine f_callVi C (a := 1) (ci := 11) (As := fun B => [.int (xs (tn (x3 + 1))), .int (xs (tn (x3 + 2)))]) o1 rfl (c_X11_keep  _ _ _ _ h) tM_L_158 tI_X11_keep tS_X11_keep tN_X11 tC_X11_keep 2 dd_X11_keep rfl (by decide) (by decide) rfl (Nat.le_of_ble_eq_true rfl) dL_law_1227 rfl (fun r_269 σ_268 h => ?_)
      refine f_aload_n C (j := 2) dL_law_1230 rfl rfl rfl ?_
      refine f_aload_n C (j := 0) dL_law_1231 rfl rfl rfl ?_
      refine f_iload_n C (j := 3) dL_law_1232 rfl rfl rfl ?_
      refine f_iconst C (v := 1) dL_law_1233 kc1 rfl ?_
      refine f_iadd C dL_law_1234 rfl ?_
      refine f_sld C (j := tn (x3 + 1)) hi_266 rfl dL_law_1235 rfl ?_
      refine f_aload_n C (j := 0) dL_law_1236 rfl rfl rfl ?_
      refine f_iload_n C (j := 3) dL_law_1237 rfl rfl rfl ?_
      refine f_iconst C (v := 2) dL_law_1238 kc2 rfl ?_
      refine f_iadd C dL_law_1239 rfl ?_
      refine f_sld C (j := tn (x3 + 2)) hi_267 rfl dL_law_1240 rfl ?_
      refine f_callVi C (a := 101) (ci := 12) (As := fun B => [.int (xs (tn (x3 + 1))), .int (xs (tn (x3 + 2)))]) o101 rfl (c_X12_keep  _ _ _ _ h) tM_L_161 tI_X12_keep tS_X12_keep tN_X12 tC_X12_keep 2 dd_X12_keep rfl (by decide) (by decide) rfl (Nat.le_of_ble_eq_true rfl) dL_law_1241 rfl (fun r_271 σ_270 h => ?_)
      refine f_icmp_eq C (t := 1733) dL_law_1244 (by decide) rfl (fun hq_272 => ?_) (fun hq_272 => ?_)
      · replace h := Eq.mp (if_pos hq_272) h
        exact s_L_1733 C _ K hK _ h
      · replace h := Eq.mp (if_neg hq_272) h
        refine f_iconst C (v := 0) dL_law_1247 kc0 rfl ?_
        exact h.elim
    replace h := Eq.mp (if_neg hq_273) h
    by_cases hq_281 : sw_3 = 34
    · replace h := Eq.mp (if_pos hq_281) h
      refine f_tableIn C (off := 1216) (t := 1249) dL_law_33 (by rw [hq_281]; decide) (by rw [hq_281]; decide) (by rw [hq_281]; rfl) (by decide) ?_
      refine f_aload_n C (j := 1) dL_law_1249 rfl rfl rfl ?_
      refine f_aload_n C (j := 0) dL_law_1250 rfl rfl rfl ?_
      refine f_iload_n C (j := 3) dL_law_1251 rfl rfl rfl ?_
      refine f_iconst C (v := 1) dL_law_1252 kc1 rfl ?_
      refine f_iadd C dL_law_1253 rfl ?_
      obtain ⟨hi_274, h⟩ := h
      refine f_sld C (j := tn (x3 + 1)) hi_274 rfl dL_law_1254 rfl ?_
      refine f_aload_n C (j := 0) dL_law_1255 rfl rfl rfl ?_
      refine f_iload_n C (j := 3) dL_law_1256 rfl rfl rfl ?_
      refine f_iconst C (v := 2) dL_law_1257 kc2 rfl ?_
      refine f_iadd C dL_law_1258 rfl ?_
      obtain ⟨hi_275, h⟩ := h
      refine f_sld C (j := tn (x3 + 2)) hi_275 rfl dL_law_1259 rfl ?_
      refine f_callVi C (a := 1) (ci := 11) (As := fun B => [.int (xs (tn (x3 + 1))), .int (xs (tn (x3 + 2)))]) o1 rfl (c_X11_keepSet  _ _ _ _ h) tM_L_162 tI_X11_keepSet tS_X11_keepSet tN_X11 tC_X11_keepSet 2 dd_X11_keepSet rfl (by decide) (by decide) rfl (Nat.le_of_ble_eq_true rfl) dL_law_1260 rfl (fun r_277 σ_276 h => ?_)
      refine f_aload_n C (j := 2) dL_law_1263 rfl rfl rfl ?_
      refine f_aload_n C (j := 0) dL_law_1264 rfl rfl rfl ?_
      refine f_iload_n C (j := 3) dL_law_1265 rfl rfl rfl ?_
      refine f_iconst C (v := 1) dL_law_1266 kc1 rfl ?_
      refine f_iadd C dL_law_1267 rfl ?_
      refine f_sld C (j := tn (x3 + 1)) hi_274 rfl dL_law_1268 rfl ?_
      refine f_aload_n C (j := 0) dL_law_1269 rfl rfl rfl ?_
      refine f_iload_n C (j := 3) dL_law_1270 rfl rfl rfl ?_
      refine f_iconst C (v := 2) dL_law_1271 kc2 rfl ?_
      refine f_iadd C dL_law_1272 rfl ?_
      refine f_sld C (j := tn (x3 + 2)) hi_275 rfl dL_law_1273 rfl ?_
      refine f_callVi C (a := 101) (ci := 12) (As := fun B => [.int (xs (tn (x3 + 1))), .int (xs (tn (x3 + 2)))]) o101 rfl (c_X12_keepSet  _ _ _ _ h) tM_L_165 tI_X12_keepSet tS_X12_keepSet tN_X12 tC_X12_keepSet 2 dd_X12_keepSet rfl (by decide) (by decide) rfl (Nat.le_of_ble_eq_true rfl) dL_law_1274 rfl (fun r_279 σ_278 h => ?_)
      refine f_icmp_eq C (t := 1733) dL_law_1277 (by decide) rfl (fun hq_280 => ?_) (fun hq_280 => ?_)
      · replace h := Eq.mp (if_pos hq_280) h
        exact s_L_1733 C _ K hK _ h
      · replace h := Eq.mp (if_neg hq_280) h
        refine f_iconst C (v := 0) dL_law_1280 kc0 rfl ?_
        exact h.elim
    replace h := Eq.mp (if_neg hq_281) h
    by_cases hq_288 : sw_3 = 35
    · replace h := Eq.mp (if_pos hq_288) h
      refine f_tableIn C (off := 1249) (t := 1282) dL_law_33 (by rw [hq_288]; decide) (by rw [hq_288]; decide) (by rw [hq_288]; rfl) (by decide) ?_
      refine f_aload_n C (j := 1) dL_law_1282 rfl rfl rfl ?_
      refine f_aload_n C (j := 0) dL_law_1283 rfl rfl rfl ?_
      refine f_iload_n C (j := 3) dL_law_1284 rfl rfl rfl ?_
      refine f_iconst C (v := 1) dL_law_1285 kc1 rfl ?_
      refine f_iadd C dL_law_1286 rfl ?_
      obtain ⟨hi_282, h⟩ := h
      refine f_sld C (j := tn (x3 + 1)) hi_282 rfl dL_law_1287 rfl ?_
      refine f_callVi C (a := 1) (ci := 11) (As := fun B => [.int (xs (tn (x3 + 1)))]) o1 rfl (c_X11_strike  _ _ _ h) tM_L_166 tI_X11_strike tS_X11_strike tN_X11 tC_X11_strike 1 dd_X11_strike rfl (by decide) (by decide) rfl (Nat.le_of_ble_eq_true rfl) dL_law_1288 rfl (fun r_284 σ_283 h => ?_)
      refine f_aload_n C (j := 2) dL_law_1291 rfl rfl rfl ?_
      refine f_aload_n C (j := 0) dL_law_1292 rfl rfl rfl ?_
      refine f_iload_n C (j := 3) dL_law_1293 rfl rfl rfl ?_
      refine f_iconst C (v := 1) dL_law_1294 kc1 rfl ?_
      refine f_iadd C dL_law_1295 rfl ?_
      refine f_sld C (j := tn (x3 + 1)) hi_282 rfl dL_law_1296 rfl ?_
      refine f_callVi C (a := 101) (ci := 12) (As := fun B => [.int (xs (tn (x3 + 1)))]) o101 rfl (c_X12_strike  _ _ _ h) tM_L_169 tI_X12_strike tS_X12_strike tN_X12 tC_X12_strike 1 dd_X12_strike rfl (by decide) (by decide) rfl (Nat.le_of_ble_eq_true rfl) dL_law_1297 rfl (fun r_286 σ_285 h => ?_)
      refine f_icmp_eq C (t := 1733) dL_law_1300 (by decide) rfl (fun hq_287 => ?_) (fun hq_287 => ?_)
      · replace h := Eq.mp (if_pos hq_287) h
        exact s_L_1733 C _ K hK _ h
      · replace h := Eq.mp (if_neg hq_287) h
        refine f_iconst C (v := 0) dL_law_1303 kc0 rfl ?_
        exact h.elim
    replace h := Eq.mp (if_neg hq_288) h
    by_cases hq_295 : sw_3 = 36
    · replace h := Eq.mp (if_pos hq_295) h
      refine f_tableIn C (off := 1272) (t := 1305) dL_law_33 (by rw [hq_295]; decide) (by rw [hq_295]; decide) (by rw [hq_295]; rfl) (by decide) ?_
      refine f_aload_n C (j := 1) dL_law_1305 rfl rfl rfl ?_
      refine f_aload_n C (j := 0) dL_law_1306 rfl rfl rfl ?_
      refine f_iload_n C (j := 3) dL_law_1307 rfl rfl rfl ?_
      refine f_iconst C (v := 1) dL_law_1308 kc1 rfl ?_
      refine f_iadd C dL_law_1309 rfl ?_
      obtain ⟨hi_289, h⟩ := h
      refine f_sld C (j := tn (x3 + 1)) hi_289 rfl dL_law_1310 rfl ?_
      refine f_callVi C (a := 1) (ci := 11) (As := fun B => [.int (xs (tn (x3 + 1)))]) o1 rfl (c_X11_strikeSet  _ _ _ h) tM_L_170 tI_X11_strikeSet tS_X11_strikeSet tN_X11 tC_X11_strikeSet 1 dd_X11_strikeSet rfl (by decide) (by decide) rfl (Nat.le_of_ble_eq_true rfl) dL_law_1311 rfl (fun r_291 σ_290 h => ?_)
      refine f_aload_n C (j := 2) dL_law_1314 rfl rfl rfl ?_
      refine f_aload_n C (j := 0) dL_law_1315 rfl rfl rfl ?_
      refine f_iload_n C (j := 3) dL_law_1316 rfl rfl rfl ?_
      refine f_iconst C (v := 1) dL_law_1317 kc1 rfl ?_
      refine f_iadd C dL_law_1318 rfl ?_
      refine f_sld C (j := tn (x3 + 1)) hi_289 rfl dL_law_1319 rfl ?_
      refine f_callVi C (a := 101) (ci := 12) (As := fun B => [.int (xs (tn (x3 + 1)))]) o101 rfl (c_X12_strikeSet  _ _ _ h) tM_L_173 tI_X12_strikeSet tS_X12_strikeSet tN_X12 tC_X12_strikeSet 1 dd_X12_strikeSet rfl (by decide) (by decide) rfl (Nat.le_of_ble_eq_true rfl) dL_law_1320 rfl (fun r_293 σ_292 h => ?_)
      refine f_icmp_eq C (t := 1733) dL_law_1323 (by decide) rfl (fun hq_294 => ?_) (fun hq_294 => ?_)
      · replace h := Eq.mp (if_pos hq_294) h
        exact s_L_1733 C _ K hK _ h
      · replace h := Eq.mp (if_neg hq_294) h
        refine f_iconst C (v := 0) dL_law_1326 kc0 rfl ?_
        exact h.elim
    replace h := Eq.mp (if_neg hq_295) h
    by_cases hq_302 : sw_3 = 37
    · replace h := Eq.mp (if_pos hq_302) h
      refine f_tableIn C (off := 1295) (t := 1328) dL_law_33 (by rw [hq_302]; decide) (by rw [hq_302]; decide) (by rw [hq_302]; rfl) (by decide) ?_
      refine f_aload_n C (j := 1) dL_law_1328 rfl rfl rfl ?_
      refine f_aload_n C (j := 0) dL_law_1329 rfl rfl rfl ?_
      refine f_iload_n C (j := 3) dL_law_1330 rfl rfl rfl ?_
      refine f_iconst C (v := 1) dL_law_1331 kc1 rfl ?_
      refine f_iadd C dL_law_1332 rfl ?_
      obtain ⟨hi_296, h⟩ := h
      refine f_sld C (j := tn (x3 + 1)) hi_296 rfl dL_law_1333 rfl ?_
      refine f_callVi C (a := 1) (ci := 11) (As := fun B => [.int (xs (tn (x3 + 1)))]) o1 rfl (c_X11_agenda  _ _ _ h) tM_L_174 tI_X11_agenda tS_X11_agenda tN_X11 tC_X11_agenda 1 dd_X11_agenda rfl (by decide) (by decide) rfl (Nat.le_of_ble_eq_true rfl) dL_law_1334 rfl (fun r_298 σ_297 h => ?_)
      refine f_aload_n C (j := 2) dL_law_1337 rfl rfl rfl ?_
      refine f_aload_n C (j := 0) dL_law_1338 rfl rfl rfl ?_
      refine f_iload_n C (j := 3) dL_law_1339 rfl rfl rfl ?_
      refine f_iconst C (v := 1) dL_law_1340 kc1 rfl ?_
      refine f_iadd C dL_law_1341 rfl ?_
      refine f_sld C (j := tn (x3 + 1)) hi_296 rfl dL_law_1342 rfl ?_
      refine f_callVi C (a := 101) (ci := 12) (As := fun B => [.int (xs (tn (x3 + 1)))]) o101 rfl (c_X12_agenda  _ _ _ h) tM_L_177 tI_X12_agenda tS_X12_agenda tN_X12 tC_X12_agenda 1 dd_X12_agenda rfl (by decide) (by decide) rfl (Nat.le_of_ble_eq_true rfl) dL_law_1343 rfl (fun r_300 σ_299 h => ?_)
      refine f_icmp_eq C (t := 1733) dL_law_1346 (by decide) rfl (fun hq_301 => ?_) (fun hq_301 => ?_)
      · replace h := Eq.mp (if_pos hq_301) h
        exact s_L_1733 C _ K hK _ h
      · replace h := Eq.mp (if_neg hq_301) h
        refine f_iconst C (v := 0) dL_law_1349 kc0 rfl ?_
        exact h.elim
    replace h := Eq.mp (if_neg hq_302) h
    by_cases hq_309 : sw_3 = 38
    · replace h := Eq.mp (if_pos hq_309) h
      refine f_tableIn C (off := 1318) (t := 1351) dL_law_33 (by rw [hq_309]; decide) (by rw [hq_309]; decide) (by rw [hq_309]; rfl) (by decide) ?_
      refine f_aload_n C (j := 1) dL_law_1351 rfl rfl rfl ?_
      refine f_aload_n C (j := 0) dL_law_1352 rfl rfl rfl ?_
      refine f_iload_n C (j := 3) dL_law_1353 rfl rfl rfl ?_
      refine f_iconst C (v := 1) dL_law_1354 kc1 rfl ?_
      refine f_iadd C dL_law_1355 rfl ?_
      obtain ⟨hi_303, h⟩ := h
      refine f_sld C (j := tn (x3 + 1)) hi_303 rfl dL_law_1356 rfl ?_
      refine f_callVi C (a := 1) (ci := 11) (As := fun B => [.int (xs (tn (x3 + 1)))]) o1 rfl (c_X11_agendaAt  _ _ _ h) tM_L_178 tI_X11_agendaAt tS_X11_agendaAt tN_X11 tC_X11_agendaAt 1 dd_X11_agendaAt rfl (by decide) (by decide) rfl (Nat.le_of_ble_eq_true rfl) dL_law_1357 rfl (fun r_305 σ_304 h => ?_)
      refine f_aload_n C (j := 2) dL_law_1360 rfl rfl rfl ?_
      refine f_aload_n C (j := 0) dL_law_1361 rfl rfl rfl ?_
      refine f_iload_n C (j := 3) dL_law_1362 rfl rfl rfl ?_
      refine f_iconst C (v := 1) dL_law_1363 kc1 rfl ?_
      refine f_iadd C dL_law_1364 rfl ?_
      refine f_sld C (j := tn (x3 + 1)) hi_303 rfl dL_law_1365 rfl ?_
      refine f_callVi C (a := 101) (ci := 12) (As := fun B => [.int (xs (tn (x3 + 1)))]) o101 rfl (c_X12_agendaAt  _ _ _ h) tM_L_181 tI_X12_agendaAt tS_X12_agendaAt tN_X12 tC_X12_agendaAt 1 dd_X12_agendaAt rfl (by decide) (by decide) rfl (Nat.le_of_ble_eq_true rfl) dL_law_1366 rfl (fun r_307 σ_306 h => ?_)
      refine f_icmp_eq C (t := 1733) dL_law_1369 (by decide) rfl (fun hq_308 => ?_) (fun hq_308 => ?_)
      · replace h := Eq.mp (if_pos hq_308) h
        exact s_L_1733 C _ K hK _ h
      · replace h := Eq.mp (if_neg hq_308) h
        refine f_iconst C (v := 0) dL_law_1372 kc0 rfl ?_
        exact h.elim
    replace h := Eq.mp (if_neg hq_309) h
    by_cases hq_317 : sw_3 = 39
    · replace h := Eq.mp (if_pos hq_317) h
      refine f_tableIn C (off := 1341) (t := 1374) dL_law_33 (by rw [hq_317]; decide) (by rw [hq_317]; decide) (by rw [hq_317]; rfl) (by decide) ?_
      refine f_aload_n C (j := 1) dL_law_1374 rfl rfl rfl ?_
      refine f_aload_n C (j := 0) dL_law_1375 rfl rfl rfl ?_
      refine f_iload_n C (j := 3) dL_law_1376 rfl rfl rfl ?_
      refine f_iconst C (v := 1) dL_law_1377 kc1 rfl ?_
      refine f_iadd C dL_law_1378 rfl ?_
      obtain ⟨hi_310, h⟩ := h
      refine f_sld C (j := tn (x3 + 1)) hi_310 rfl dL_law_1379 rfl ?_
      refine f_aload_n C (j := 0) dL_law_1380 rfl rfl rfl ?_
      refine f_iload_n C (j := 3) dL_law_1381 rfl rfl rfl ?_
      refine f_iconst C (v := 2) dL_law_1382 kc2 rfl ?_
      refine f_iadd C dL_law_1383 rfl ?_
      obtain ⟨hi_311, h⟩ := h
      refine f_sld C (j := tn (x3 + 2)) hi_311 rfl dL_law_1384 rfl ?_
      refine f_callVi C (a := 1) (ci := 11) (As := fun B => [.int (xs (tn (x3 + 1))), .int (xs (tn (x3 + 2)))]) o1 rfl (c_X11_game  _ _ _ _ h) tM_L_182 tI_X11_game tS_X11_game tN_X11 tC_X11_game 2 dd_X11_game rfl (by decide) (by decide) rfl (Nat.le_of_ble_eq_true rfl) dL_law_1385 rfl (fun r_313 σ_312 h => ?_)
      refine f_aload_n C (j := 2) dL_law_1388 rfl rfl rfl ?_
      refine f_aload_n C (j := 0) dL_law_1389 rfl rfl rfl ?_
      refine f_iload_n C (j := 3) dL_law_1390 rfl rfl rfl ?_
      refine f_iconst C (v := 1) dL_law_1391 kc1 rfl ?_
      refine f_iadd C dL_law_1392 rfl ?_
      refine f_sld C (j := tn (x3 + 1)) hi_310 rfl dL_law_1393 rfl ?_
      refine f_aload_n C (j := 0) dL_law_1394 rfl rfl rfl ?_
      refine f_iload_n C (j := 3) dL_law_1395 rfl rfl rfl ?_
      refine f_iconst C (v := 2) dL_law_1396 kc2 rfl ?_
      refine f_iadd C dL_law_1397 rfl ?_
      refine f_sld C (j := tn (x3 + 2)) hi_311 rfl dL_law_1398 rfl ?_
      refine f_callVi C (a := 101) (ci := 12) (As := fun B => [.int (xs (tn (x3 + 1))), .int (xs (tn (x3 + 2)))]) o101 rfl (c_X12_game  _ _ _ _ h) tM_L_185 tI_X12_game tS_X12_game tN_X12 tC_X12_game 2 dd_X12_game rfl (by decide) (by decide) rfl (Nat.le_of_ble_eq_true rfl) dL_law_1399 rfl (fun r_315 σ_314 h => ?_)
      refine f_icmp_eq C (t := 1733) dL_law_1402 (by decide) rfl (fun hq_316 => ?_) (fun hq_316 => ?_)
      · replace h := Eq.mp (if_pos hq_316) h
        exact s_L_1733 C _ K hK _ h
      · replace h := Eq.mp (if_neg hq_316) h
        refine f_iconst C (v := 0) dL_law_1405 kc0 rfl ?_
        exact h.elim
    replace h := Eq.mp (if_neg hq_317) h
    by_cases hq_325 : sw_3 = 40
    · replace h := Eq.mp (if_pos hq_325) h
      refine f_tableIn C (off := 1374) (t := 1407) dL_law_33 (by rw [hq_325]; decide) (by rw [hq_325]; decide) (by rw [hq_325]; rfl) (by decide) ?_
      refine f_aload_n C (j := 1) dL_law_1407 rfl rfl rfl ?_
      refine f_aload_n C (j := 0) dL_law_1408 rfl rfl rfl ?_
      refine f_iload_n C (j := 3) dL_law_1409 rfl rfl rfl ?_
      refine f_iconst C (v := 1) dL_law_1410 kc1 rfl ?_
      refine f_iadd C dL_law_1411 rfl ?_
      obtain ⟨hi_318, h⟩ := h
      refine f_sld C (j := tn (x3 + 1)) hi_318 rfl dL_law_1412 rfl ?_
      refine f_aload_n C (j := 0) dL_law_1413 rfl rfl rfl ?_
      refine f_iload_n C (j := 3) dL_law_1414 rfl rfl rfl ?_
      refine f_iconst C (v := 2) dL_law_1415 kc2 rfl ?_
      refine f_iadd C dL_law_1416 rfl ?_
      obtain ⟨hi_319, h⟩ := h
      refine f_sld C (j := tn (x3 + 2)) hi_319 rfl dL_law_1417 rfl ?_
      refine f_callVi C (a := 1) (ci := 11) (As := fun B => [.int (xs (tn (x3 + 1))), .int (xs (tn (x3 + 2)))]) o1 rfl (c_X11_firstMove  _ _ _ _ h) tM_L_186 tI_X11_firstMove tS_X11_firstMove tN_X11 tC_X11_firstMove 2 dd_X11_firstMove rfl (by decide) (by decide) rfl (Nat.le_of_ble_eq_true rfl) dL_law_1418 rfl (fun r_321 σ_320 h => ?_)
      refine f_aload_n C (j := 2) dL_law_1421 rfl rfl rfl ?_
      refine f_aload_n C (j := 0) dL_law_1422 rfl rfl rfl ?_
      refine f_iload_n C (j := 3) dL_law_1423 rfl rfl rfl ?_
      refine f_iconst C (v := 1) dL_law_1424 kc1 rfl ?_
      refine f_iadd C dL_law_1425 rfl ?_
      refine f_sld C (j := tn (x3 + 1)) hi_318 rfl dL_law_1426 rfl ?_
      refine f_aload_n C (j := 0) dL_law_1427 rfl rfl rfl ?_
      refine f_iload_n C (j := 3) dL_law_1428 rfl rfl rfl ?_
      refine f_iconst C (v := 2) dL_law_1429 kc2 rfl ?_
      refine f_iadd C dL_law_1430 rfl ?_
      refine f_sld C (j := tn (x3 + 2)) hi_319 rfl dL_law_1431 rfl ?_
      refine f_callVi C (a := 101) (ci := 12) (As := fun B => [.int (xs (tn (x3 + 1))), .int (xs (tn (x3 + 2)))]) o101 rfl (c_X12_firstMove  _ _ _ _ h) tM_L_189 tI_X12_firstMove tS_X12_firstMove tN_X12 tC_X12_firstMove 2 dd_X12_firstMove rfl (by decide) (by decide) rfl (Nat.le_of_ble_eq_true rfl) dL_law_1432 rfl (fun r_323 σ_322 h => ?_)
      refine f_icmp_eq C (t := 1733) dL_law_1435 (by decide) rfl (fun hq_324 => ?_) (fun hq_324 => ?_)
      · replace h := Eq.mp (if_pos hq_324) h
        exact s_L_1733 C _ K hK _ h
      · replace h := Eq.mp (if_neg hq_324) h
        refine f_iconst C (v := 0) dL_law_1438 kc0 rfl ?_
        exact h.elim
    replace h := Eq.mp (if_neg hq_325) h
    by_cases hq_332 : sw_3 = 41
    · replace h := Eq.mp (if_pos hq_332) h
      refine f_tableIn C (off := 1407) (t := 1440) dL_law_33 (by rw [hq_332]; decide) (by rw [hq_332]; decide) (by rw [hq_332]; rfl) (by decide) ?_
      refine f_aload_n C (j := 1) dL_law_1440 rfl rfl rfl ?_
      refine f_aload_n C (j := 0) dL_law_1441 rfl rfl rfl ?_
      refine f_iload_n C (j := 3) dL_law_1442 rfl rfl rfl ?_
      refine f_iconst C (v := 1) dL_law_1443 kc1 rfl ?_
      refine f_iadd C dL_law_1444 rfl ?_
      obtain ⟨hi_326, h⟩ := h
      refine f_sld C (j := tn (x3 + 1)) hi_326 rfl dL_law_1445 rfl ?_
      refine f_callVi C (a := 1) (ci := 11) (As := fun B => [.int (xs (tn (x3 + 1)))]) o1 rfl (c_X11_again  _ _ _ h) tM_L_190 tI_X11_again tS_X11_again tN_X11 tC_X11_again 1 dd_X11_again rfl (by decide) (by decide) rfl (Nat.le_of_ble_eq_true rfl) dL_law_1446 rfl (fun r_328 σ_327 h => ?_)
      refine f_aload_n C (j := 2) dL_law_1449 rfl rfl rfl ?_
      refine f_aload_n C (j := 0) dL_law_1450 rfl rfl rfl ?_
      refine f_iload_n C (j := 3) dL_law_1451 rfl rfl rfl ?_
      refine f_iconst C (v := 1) dL_law_1452 kc1 rfl ?_
      refine f_iadd C dL_law_1453 rfl ?_
      refine f_sld C (j := tn (x3 + 1)) hi_326 rfl dL_law_1454 rfl ?_
      refine f_callVi C (a := 101) (ci := 12) (As := fun B => [.int (xs (tn (x3 + 1)))]) o101 rfl (c_X12_again  _ _ _ h) tM_L_193 tI_X12_again tS_X12_again tN_X12 tC_X12_again 1 dd_X12_again rfl (by decide) (by decide) rfl (Nat.le_of_ble_eq_true rfl) dL_law_1455 rfl (fun r_330 σ_329 h => ?_)
      refine f_icmp_eq C (t := 1733) dL_law_1458 (by decide) rfl (fun hq_331 => ?_) (fun hq_331 => ?_)
      · replace h := Eq.mp (if_pos hq_331) h
        exact s_L_1733 C _ K hK _ h
      · replace h := Eq.mp (if_neg hq_331) h
        refine f_iconst C (v := 0) dL_law_1461 kc0 rfl ?_
        exact h.elim
    replace h := Eq.mp (if_neg hq_332) h
    by_cases hq_339 : sw_3 = 42
    · replace h := Eq.mp (if_pos hq_339) h
      refine f_tableIn C (off := 1430) (t := 1463) dL_law_33 (by rw [hq_339]; decide) (by rw [hq_339]; decide) (by rw [hq_339]; rfl) (by decide) ?_
      refine f_aload_n C (j := 1) dL_law_1463 rfl rfl rfl ?_
      refine f_aload_n C (j := 0) dL_law_1464 rfl rfl rfl ?_
      refine f_iload_n C (j := 3) dL_law_1465 rfl rfl rfl ?_
      refine f_iconst C (v := 1) dL_law_1466 kc1 rfl ?_
      refine f_iadd C dL_law_1467 rfl ?_
      obtain ⟨hi_333, h⟩ := h
      refine f_sld C (j := tn (x3 + 1)) hi_333 rfl dL_law_1468 rfl ?_
      refine f_callVi C (a := 1) (ci := 11) (As := fun B => [.int (xs (tn (x3 + 1)))]) o1 rfl (c_X11_againSet  _ _ _ h) tM_L_194 tI_X11_againSet tS_X11_againSet tN_X11 tC_X11_againSet 1 dd_X11_againSet rfl (by decide) (by decide) rfl (Nat.le_of_ble_eq_true rfl) dL_law_1469 rfl (fun r_335 σ_334 h => ?_)
      refine f_aload_n C (j := 2) dL_law_1472 rfl rfl rfl ?_
      refine f_aload_n C (j := 0) dL_law_1473 rfl rfl rfl ?_
      refine f_iload_n C (j := 3) dL_law_1474 rfl rfl rfl ?_
      refine f_iconst C (v := 1) dL_law_1475 kc1 rfl ?_
      refine f_iadd C dL_law_1476 rfl ?_
      refine f_sld C (j := tn (x3 + 1)) hi_333 rfl dL_law_1477 rfl ?_
      refine f_callVi C (a := 101) (ci := 12) (As := fun B => [.int (xs (tn (x3 + 1)))]) o101 rfl (c_X12_againSet  _ _ _ h) tM_L_197 tI_X12_againSet tS_X12_againSet tN_X12 tC_X12_againSet 1 dd_X12_againSet rfl (by decide) (by decide) rfl (Nat.le_of_ble_eq_true rfl) dL_law_1478 rfl (fun r_337 σ_336 h => ?_)
      refine f_icmp_eq C (t := 1733) dL_law_1481 (by decide) rfl (fun hq_338 => ?_) (fun hq_338 => ?_)
      · replace h := Eq.mp (if_pos hq_338) h
        exact s_L_1733 C _ K hK _ h
      · replace h := Eq.mp (if_neg hq_338) h
        refine f_iconst C (v := 0) dL_law_1484 kc0 rfl ?_
        exact h.elim
    replace h := Eq.mp (if_neg hq_339) h
    by_cases hq_346 : sw_3 = 43
    · replace h := Eq.mp (if_pos hq_346) h
      refine f_tableIn C (off := 1453) (t := 1486) dL_law_33 (by rw [hq_346]; decide) (by rw [hq_346]; decide) (by rw [hq_346]; rfl) (by decide) ?_
      refine f_aload_n C (j := 1) dL_law_1486 rfl rfl rfl ?_
      refine f_aload_n C (j := 0) dL_law_1487 rfl rfl rfl ?_
      refine f_iload_n C (j := 3) dL_law_1488 rfl rfl rfl ?_
      refine f_iconst C (v := 1) dL_law_1489 kc1 rfl ?_
      refine f_iadd C dL_law_1490 rfl ?_
      obtain ⟨hi_340, h⟩ := h
      refine f_sld C (j := tn (x3 + 1)) hi_340 rfl dL_law_1491 rfl ?_
      refine f_callVi C (a := 1) (ci := 11) (As := fun B => [.int (xs (tn (x3 + 1)))]) o1 rfl (c_X11_wasIt  _ _ _ h) tM_L_198 tI_X11_wasIt tS_X11_wasIt tN_X11 tC_X11_wasIt 1 dd_X11_wasIt rfl (by decide) (by decide) rfl (Nat.le_of_ble_eq_true rfl) dL_law_1492 rfl (fun r_342 σ_341 h => ?_)
      refine f_aload_n C (j := 2) dL_law_1495 rfl rfl rfl ?_
      refine f_aload_n C (j := 0) dL_law_1496 rfl rfl rfl ?_
      refine f_iload_n C (j := 3) dL_law_1497 rfl rfl rfl ?_
      refine f_iconst C (v := 1) dL_law_1498 kc1 rfl ?_
      refine f_iadd C dL_law_1499 rfl ?_
      refine f_sld C (j := tn (x3 + 1)) hi_340 rfl dL_law_1500 rfl ?_
      refine f_callVi C (a := 101) (ci := 12) (As := fun B => [.int (xs (tn (x3 + 1)))]) o101 rfl (c_X12_wasIt  _ _ _ h) tM_L_201 tI_X12_wasIt tS_X12_wasIt tN_X12 tC_X12_wasIt 1 dd_X12_wasIt rfl (by decide) (by decide) rfl (Nat.le_of_ble_eq_true rfl) dL_law_1501 rfl (fun r_344 σ_343 h => ?_)
      refine f_icmp_eq C (t := 1733) dL_law_1504 (by decide) rfl (fun hq_345 => ?_) (fun hq_345 => ?_)
      · replace h := Eq.mp (if_pos hq_345) h
        exact s_L_1733 C _ K hK _ h
      · replace h := Eq.mp (if_neg hq_345) h
        refine f_iconst C (v := 0) dL_law_1507 kc0 rfl ?_
        exact h.elim
    replace h := Eq.mp (if_neg hq_346) h
    by_cases hq_353 : sw_3 = 44
    · replace h := Eq.mp (if_pos hq_353) h
      refine f_tableIn C (off := 1476) (t := 1509) dL_law_33 (by rw [hq_353]; decide) (by rw [hq_353]; decide) (by rw [hq_353]; rfl) (by decide) ?_
      refine f_aload_n C (j := 1) dL_law_1509 rfl rfl rfl ?_
      refine f_aload_n C (j := 0) dL_law_1510 rfl rfl rfl ?_
      refine f_iload_n C (j := 3) dL_law_1511 rfl rfl rfl ?_
      refine f_iconst C (v := 1) dL_law_1512 kc1 rfl ?_
      refine f_iadd C dL_law_1513 rfl ?_
      obtain ⟨hi_347, h⟩ := h
      refine f_sld C (j := tn (x3 + 1)) hi_347 rfl dL_law_1514 rfl ?_
      refine f_callVi C (a := 1) (ci := 11) (As := fun B => [.int (xs (tn (x3 + 1)))]) o1 rfl (c_X11_tells  _ _ _ h) tM_L_202 tI_X11_tells tS_X11_tells tN_X11 tC_X11_tells 1 dd_X11_tells rfl (by decide) (by decide) rfl (Nat.le_of_ble_eq_true rfl) dL_law_1515 rfl (fun r_349 σ_348 h => ?_)
      refine f_aload_n C (j := 2) dL_law_1518 rfl rfl rfl ?_
      refine f_aload_n C (j := 0) dL_law_1519 rfl rfl rfl ?_
      refine f_iload_n C (j := 3) dL_law_1520 rfl rfl rfl ?_
      refine f_iconst C (v := 1) dL_law_1521 kc1 rfl ?_
      refine f_iadd C dL_law_1522 rfl ?_
      refine f_sld C (j := tn (x3 + 1)) hi_347 rfl dL_law_1523 rfl ?_
      refine f_callVi C (a := 101) (ci := 12) (As := fun B => [.int (xs (tn (x3 + 1)))]) o101 rfl (c_X12_tells  _ _ _ h) tM_L_205 tI_X12_tells tS_X12_tells tN_X12 tC_X12_tells 1 dd_X12_tells rfl (by decide) (by decide) rfl (Nat.le_of_ble_eq_true rfl) dL_law_1524 rfl (fun r_351 σ_350 h => ?_)
      refine f_icmp_eq C (t := 1733) dL_law_1527 (by decide) rfl (fun hq_352 => ?_) (fun hq_352 => ?_)
      · replace h := Eq.mp (if_pos hq_352) h
        exact s_L_1733 C _ K hK _ h
      · replace h := Eq.mp (if_neg hq_352) h
        refine f_iconst C (v := 0) dL_law_1530 kc0 rfl ?_
        exact h.elim
    replace h := Eq.mp (if_neg hq_353) h
    by_cases hq_360 : sw_3 = 45
    · replace h := Eq.mp (if_pos hq_360) h
      refine f_tableIn C (off := 1499) (t := 1532) dL_law_33 (by rw [hq_360]; decide) (by rw [hq_360]; decide) (by rw [hq_360]; rfl) (by decide) ?_
      refine f_aload_n C (j := 1) dL_law_1532 rfl rfl rfl ?_
      refine f_aload_n C (j := 0) dL_law_1533 rfl rfl rfl ?_
      refine f_iload_n C (j := 3) dL_law_1534 rfl rfl rfl ?_
      refine f_iconst C (v := 1) dL_law_1535 kc1 rfl ?_
      refine f_iadd C dL_law_1536 rfl ?_
      obtain ⟨hi_354, h⟩ := h
      refine f_sld C (j := tn (x3 + 1)) hi_354 rfl dL_law_1537 rfl ?_
      refine f_callVi C (a := 1) (ci := 11) (As := fun B => [.int (xs (tn (x3 + 1)))]) o1 rfl (c_X11_sure  _ _ _ h) tM_L_206 tI_X11_sure tS_X11_sure tN_X11 tC_X11_sure 1 dd_X11_sure rfl (by decide) (by decide) rfl (Nat.le_of_ble_eq_true rfl) dL_law_1538 rfl (fun r_356 σ_355 h => ?_)
      refine f_aload_n C (j := 2) dL_law_1541 rfl rfl rfl ?_
      refine f_aload_n C (j := 0) dL_law_1542 rfl rfl rfl ?_
      refine f_iload_n C (j := 3) dL_law_1543 rfl rfl rfl ?_
      refine f_iconst C (v := 1) dL_law_1544 kc1 rfl ?_
      refine f_iadd C dL_law_1545 rfl ?_
      refine f_sld C (j := tn (x3 + 1)) hi_354 rfl dL_law_1546 rfl ?_
      refine f_callVi C (a := 101) (ci := 12) (As := fun B => [.int (xs (tn (x3 + 1)))]) o101 rfl (c_X12_sure  _ _ _ h) tM_L_209 tI_X12_sure tS_X12_sure tN_X12 tC_X12_sure 1 dd_X12_sure rfl (by decide) (by decide) rfl (Nat.le_of_ble_eq_true rfl) dL_law_1547 rfl (fun r_358 σ_357 h => ?_)
      refine f_icmp_eq C (t := 1733) dL_law_1550 (by decide) rfl (fun hq_359 => ?_) (fun hq_359 => ?_)
      · replace h := Eq.mp (if_pos hq_359) h
        exact s_L_1733 C _ K hK _ h
      · replace h := Eq.mp (if_neg hq_359) h
        refine f_iconst C (v := 0) dL_law_1553 kc0 rfl ?_
        exact h.elim
    replace h := Eq.mp (if_neg hq_360) h
    by_cases hq_366 : sw_3 = 46
    · replace h := Eq.mp (if_pos hq_366) h
      refine f_tableIn C (off := 1522) (t := 1555) dL_law_33 (by rw [hq_366]; decide) (by rw [hq_366]; decide) (by rw [hq_366]; rfl) (by decide) ?_
      refine f_aload_n C (j := 1) dL_law_1555 rfl rfl rfl ?_
      refine f_callVl C (a := 1) (ci := 11) (As := fun B => []) o1 rfl (c_X11_histories   _ _ h) tM_L_210 tI_X11_histories tS_X11_histories tN_X11 tC_X11_histories 0 dd_X11_histories rfl (by decide) (by decide) rfl (Nat.le_of_ble_eq_true rfl) dL_law_1556 rfl (fun r_362 σ_361 h => ?_)
      refine f_aload_n C (j := 2) dL_law_1559 rfl rfl rfl ?_
      refine f_callVl C (a := 101) (ci := 12) (As := fun B => []) o101 rfl (c_X12_histories   _ _ h) tM_L_213 tI_X12_histories tS_X12_histories tN_X12 tC_X12_histories 0 dd_X12_histories rfl (by decide) (by decide) rfl (Nat.le_of_ble_eq_true rfl) dL_law_1560 rfl (fun r_364 σ_363 h => ?_)
      refine f_lcmp C dL_law_1563 rfl ?_
      refine f_if_eq C (t := 1733) dL_law_1564 (by decide) rfl (fun hq_365 => ?_) (fun hq_365 => ?_)
      · replace h := Eq.mp (if_pos hq_365) h
        exact s_L_1733 C _ K hK _ h
      · replace h := Eq.mp (if_neg hq_365) h
        refine f_iconst C (v := 0) dL_law_1567 kc0 rfl ?_
        exact h.elim
    replace h := Eq.mp (if_neg hq_366) h
    by_cases hq_372 : sw_3 = 47
    · replace h := Eq.mp (if_pos hq_372) h
      refine f_tableIn C (off := 1536) (t := 1569) dL_law_33 (by rw [hq_372]; decide) (by rw [hq_372]; decide) (by rw [hq_372]; rfl) (by decide) ?_
      refine f_aload_n C (j := 1) dL_law_1569 rfl rfl rfl ?_
      refine f_callVi C (a := 1) (ci := 11) (As := fun B => []) o1 rfl (c_X11_firsts   _ _ h) tM_L_214 tI_X11_firsts tS_X11_firsts tN_X11 tC_X11_firsts 0 dd_X11_firsts rfl (by decide) (by decide) rfl (Nat.le_of_ble_eq_true rfl) dL_law_1570 rfl (fun r_368 σ_367 h => ?_)
      refine f_aload_n C (j := 2) dL_law_1573 rfl rfl rfl ?_
      refine f_callVi C (a := 101) (ci := 12) (As := fun B => []) o101 rfl (c_X12_firsts   _ _ h) tM_L_217 tI_X12_firsts tS_X12_firsts tN_X12 tC_X12_firsts 0 dd_X12_firsts rfl (by decide) (by decide) rfl (Nat.le_of_ble_eq_true rfl) dL_law_1574 rfl (fun r_370 σ_369 h => ?_)
      refine f_icmp_eq C (t := 1733) dL_law_1577 (by decide) rfl (fun hq_371 => ?_) (fun hq_371 => ?_)
      · replace h := Eq.mp (if_pos hq_371) h
        exact s_L_1733 C _ K hK _ h
      · replace h := Eq.mp (if_neg hq_371) h
        refine f_iconst C (v := 0) dL_law_1580 kc0 rfl ?_
        exact h.elim
    replace h := Eq.mp (if_neg hq_372) h
    by_cases hq_378 : sw_3 = 48
    · replace h := Eq.mp (if_pos hq_378) h
      refine f_tableIn C (off := 1549) (t := 1582) dL_law_33 (by rw [hq_378]; decide) (by rw [hq_378]; decide) (by rw [hq_378]; rfl) (by decide) ?_
      refine f_aload_n C (j := 1) dL_law_1582 rfl rfl rfl ?_
      refine f_callVi C (a := 1) (ci := 11) (As := fun B => []) o1 rfl (c_X11_clash   _ _ h) tM_L_218 tI_X11_clash tS_X11_clash tN_X11 tC_X11_clash 0 dd_X11_clash rfl (by decide) (by decide) rfl (Nat.le_of_ble_eq_true rfl) dL_law_1583 rfl (fun r_374 σ_373 h => ?_)
      refine f_aload_n C (j := 2) dL_law_1586 rfl rfl rfl ?_
      refine f_callVi C (a := 101) (ci := 12) (As := fun B => []) o101 rfl (c_X12_clash   _ _ h) tM_L_221 tI_X12_clash tS_X12_clash tN_X12 tC_X12_clash 0 dd_X12_clash rfl (by decide) (by decide) rfl (Nat.le_of_ble_eq_true rfl) dL_law_1587 rfl (fun r_376 σ_375 h => ?_)
      refine f_icmp_eq C (t := 1733) dL_law_1590 (by decide) rfl (fun hq_377 => ?_) (fun hq_377 => ?_)
      · replace h := Eq.mp (if_pos hq_377) h
        exact s_L_1733 C _ K hK _ h
      · replace h := Eq.mp (if_neg hq_377) h
        refine f_iconst C (v := 0) dL_law_1593 kc0 rfl ?_
        exact h.elim
    replace h := Eq.mp (if_neg hq_378) h
    by_cases hq_386 : sw_3 = 49
    · replace h := Eq.mp (if_pos hq_386) h
      refine f_tableIn C (off := 1562) (t := 1595) dL_law_33 (by rw [hq_386]; decide) (by rw [hq_386]; decide) (by rw [hq_386]; rfl) (by decide) ?_
      refine f_aload_n C (j := 1) dL_law_1595 rfl rfl rfl ?_
      refine f_aload_n C (j := 0) dL_law_1596 rfl rfl rfl ?_
      refine f_iload_n C (j := 3) dL_law_1597 rfl rfl rfl ?_
      refine f_iconst C (v := 1) dL_law_1598 kc1 rfl ?_
      refine f_iadd C dL_law_1599 rfl ?_
      obtain ⟨hi_379, h⟩ := h
      refine f_sld C (j := tn (x3 + 1)) hi_379 rfl dL_law_1600 rfl ?_
      refine f_aload_n C (j := 0) dL_law_1601 rfl rfl rfl ?_
      refine f_iload_n C (j := 3) dL_law_1602 rfl rfl rfl ?_
      refine f_iconst C (v := 2) dL_law_1603 kc2 rfl ?_
      refine f_iadd C dL_law_1604 rfl ?_
      obtain ⟨hi_380, h⟩ := h
      refine f_sld C (j := tn (x3 + 2)) hi_380 rfl dL_law_1605 rfl ?_
      refine f_callVi C (a := 1) (ci := 11) (As := fun B => [.int (xs (tn (x3 + 1))), .int (xs (tn (x3 + 2)))]) o1 rfl (c_X11_aheadOdds  _ _ _ _ h) tM_L_222 tI_X11_aheadOdds tS_X11_aheadOdds tN_X11 tC_X11_aheadOdds 2 dd_X11_aheadOdds rfl (by decide) (by decide) rfl (Nat.le_of_ble_eq_true rfl) dL_law_1606 rfl (fun r_382 σ_381 h => ?_)
      refine f_aload_n C (j := 2) dL_law_1609 rfl rfl rfl ?_
      refine f_aload_n C (j := 0) dL_law_1610 rfl rfl rfl ?_
      refine f_iload_n C (j := 3) dL_law_1611 rfl rfl rfl ?_
      refine f_iconst C (v := 1) dL_law_1612 kc1 rfl ?_
      refine f_iadd C dL_law_1613 rfl ?_
      refine f_sld C (j := tn (x3 + 1)) hi_379 rfl dL_law_1614 rfl ?_
      refine f_aload_n C (j := 0) dL_law_1615 rfl rfl rfl ?_
      refine f_iload_n C (j := 3) dL_law_1616 rfl rfl rfl ?_
      refine f_iconst C (v := 2) dL_law_1617 kc2 rfl ?_
      refine f_iadd C dL_law_1618 rfl ?_
      refine f_sld C (j := tn (x3 + 2)) hi_380 rfl dL_law_1619 rfl ?_
      refine f_callVi C (a := 101) (ci := 12) (As := fun B => [.int (xs (tn (x3 + 1))), .int (xs (tn (x3 + 2)))]) o101 rfl (c_X12_aheadOdds  _ _ _ _ h) tM_L_226 tI_X12_aheadOdds tS_X12_aheadOdds tN_X12 tC_X12_aheadOdds 2 dd_X12_aheadOdds rfl (by decide) (by decide) rfl (Nat.le_of_ble_eq_true rfl) dL_law_1620 rfl (fun r_384 σ_383 h => ?_)
      refine f_icmp_eq C (t := 1733) dL_law_1623 (by decide) rfl (fun hq_385 => ?_) (fun hq_385 => ?_)
      · replace h := Eq.mp (if_pos hq_385) h
        exact s_L_1733 C _ K hK _ h
      · replace h := Eq.mp (if_neg hq_385) h
        refine f_iconst C (v := 0) dL_law_1626 kc0 rfl ?_
        exact h.elim
    replace h := Eq.mp (if_neg hq_386) h
    by_cases hq_393 : sw_3 = 50
    · replace h := Eq.mp (if_pos hq_393) h
      refine f_tableIn C (off := 1595) (t := 1628) dL_law_33 (by rw [hq_393]; decide) (by rw [hq_393]; decide) (by rw [hq_393]; rfl) (by decide) ?_
      refine f_aload_n C (j := 1) dL_law_1628 rfl rfl rfl ?_
      refine f_aload_n C (j := 0) dL_law_1629 rfl rfl rfl ?_
      refine f_iload_n C (j := 3) dL_law_1630 rfl rfl rfl ?_
      refine f_iconst C (v := 1) dL_law_1631 kc1 rfl ?_
      refine f_iadd C dL_law_1632 rfl ?_
      obtain ⟨hi_387, h⟩ := h
      refine f_sld C (j := tn (x3 + 1)) hi_387 rfl dL_law_1633 rfl ?_
      refine f_callVi C (a := 1) (ci := 11) (As := fun B => [.int (xs (tn (x3 + 1)))]) o1 rfl (c_X11_live  _ _ _ h) tM_L_227 tI_X11_live tS_X11_live tN_X11 tC_X11_live 1 dd_X11_live rfl (by decide) (by decide) rfl (Nat.le_of_ble_eq_true rfl) dL_law_1634 rfl (fun r_389 σ_388 h => ?_)
      refine f_aload_n C (j := 2) dL_law_1637 rfl rfl rfl ?_
      refine f_aload_n C (j := 0) dL_law_1638 rfl rfl rfl ?_
      refine f_iload_n C (j := 3) dL_law_1639 rfl rfl rfl ?_
      refine f_iconst C (v := 1) dL_law_1640 kc1 rfl ?_
      refine f_iadd C dL_law_1641 rfl ?_
      refine f_sld C (j := tn (x3 + 1)) hi_387 rfl dL_law_1642 rfl ?_
      refine f_callVi C (a := 101) (ci := 12) (As := fun B => [.int (xs (tn (x3 + 1)))]) o101 rfl (c_X12_live  _ _ _ h) tM_L_230 tI_X12_live tS_X12_live tN_X12 tC_X12_live 1 dd_X12_live rfl (by decide) (by decide) rfl (Nat.le_of_ble_eq_true rfl) dL_law_1643 rfl (fun r_391 σ_390 h => ?_)
      refine f_icmp_eq C (t := 1733) dL_law_1646 (by decide) rfl (fun hq_392 => ?_) (fun hq_392 => ?_)
      · replace h := Eq.mp (if_pos hq_392) h
        exact s_L_1733 C _ K hK _ h
      · replace h := Eq.mp (if_neg hq_392) h
        refine f_iconst C (v := 0) dL_law_1649 kc0 rfl ?_
        exact h.elim
    replace h := Eq.mp (if_neg hq_393) h
    by_cases hq_400 : sw_3 = 51
    · replace h := Eq.mp (if_pos hq_400) h
      refine f_tableIn C (off := 1618) (t := 1651) dL_law_33 (by rw [hq_400]; decide) (by rw [hq_400]; decide) (by rw [hq_400]; rfl) (by decide) ?_
      refine f_aload_n C (j := 1) dL_law_1651 rfl rfl rfl ?_
      refine f_aload_n C (j := 0) dL_law_1652 rfl rfl rfl ?_
      refine f_iload_n C (j := 3) dL_law_1653 rfl rfl rfl ?_
      refine f_iconst C (v := 1) dL_law_1654 kc1 rfl ?_
      refine f_iadd C dL_law_1655 rfl ?_
      obtain ⟨hi_394, h⟩ := h
      refine f_sld C (j := tn (x3 + 1)) hi_394 rfl dL_law_1656 rfl ?_
      refine f_callVi C (a := 1) (ci := 11) (As := fun B => [.int (xs (tn (x3 + 1)))]) o1 rfl (c_X11_lived  _ _ _ h) tM_L_231 tI_X11_lived tS_X11_lived tN_X11 tC_X11_lived 1 dd_X11_lived rfl (by decide) (by decide) rfl (Nat.le_of_ble_eq_true rfl) dL_law_1657 rfl (fun r_396 σ_395 h => ?_)
      refine f_aload_n C (j := 2) dL_law_1660 rfl rfl rfl ?_
      refine f_aload_n C (j := 0) dL_law_1661 rfl rfl rfl ?_
      refine f_iload_n C (j := 3) dL_law_1662 rfl rfl rfl ?_
      refine f_iconst C (v := 1) dL_law_1663 kc1 rfl ?_
      refine f_iadd C dL_law_1664 rfl ?_
      refine f_sld C (j := tn (x3 + 1)) hi_394 rfl dL_law_1665 rfl ?_
      refine f_callVi C (a := 101) (ci := 12) (As := fun B => [.int (xs (tn (x3 + 1)))]) o101 rfl (c_X12_lived  _ _ _ h) tM_L_234 tI_X12_lived tS_X12_lived tN_X12 tC_X12_lived 1 dd_X12_lived rfl (by decide) (by decide) rfl (Nat.le_of_ble_eq_true rfl) dL_law_1666 rfl (fun r_398 σ_397 h => ?_)
      refine f_icmp_eq C (t := 1733) dL_law_1669 (by decide) rfl (fun hq_399 => ?_) (fun hq_399 => ?_)
      · replace h := Eq.mp (if_pos hq_399) h
        exact s_L_1733 C _ K hK _ h
      · replace h := Eq.mp (if_neg hq_399) h
        refine f_iconst C (v := 0) dL_law_1672 kc0 rfl ?_
        exact h.elim
    replace h := Eq.mp (if_neg hq_400) h
    by_cases hq_408 : sw_3 = 52
    · replace h := Eq.mp (if_pos hq_408) h
      refine f_tableIn C (off := 1641) (t := 1674) dL_law_33 (by rw [hq_408]; decide) (by rw [hq_408]; decide) (by rw [hq_408]; rfl) (by decide) ?_
      refine f_aload_n C (j := 1) dL_law_1674 rfl rfl rfl ?_
      refine f_aload_n C (j := 0) dL_law_1675 rfl rfl rfl ?_
      refine f_iload_n C (j := 3) dL_law_1676 rfl rfl rfl ?_
      refine f_iconst C (v := 1) dL_law_1677 kc1 rfl ?_
      refine f_iadd C dL_law_1678 rfl ?_
      obtain ⟨hi_401, h⟩ := h
      refine f_sld C (j := tn (x3 + 1)) hi_401 rfl dL_law_1679 rfl ?_
      refine f_aload_n C (j := 0) dL_law_1680 rfl rfl rfl ?_
      refine f_iload_n C (j := 3) dL_law_1681 rfl rfl rfl ?_
      refine f_iconst C (v := 2) dL_law_1682 kc2 rfl ?_
      refine f_iadd C dL_law_1683 rfl ?_
      obtain ⟨hi_402, h⟩ := h
      refine f_sld C (j := tn (x3 + 2)) hi_402 rfl dL_law_1684 rfl ?_
      refine f_callVi C (a := 1) (ci := 11) (As := fun B => [.int (xs (tn (x3 + 1))), .int (xs (tn (x3 + 2)))]) o1 rfl (c_X11_mean  _ _ _ _ h) tM_L_235 tI_X11_mean tS_X11_mean tN_X11 tC_X11_mean 2 dd_X11_mean rfl (by decide) (by decide) rfl (Nat.le_of_ble_eq_true rfl) dL_law_1685 rfl (fun r_404 σ_403 h => ?_)
      refine f_aload_n C (j := 2) dL_law_1688 rfl rfl rfl ?_
      refine f_aload_n C (j := 0) dL_law_1689 rfl rfl rfl ?_
      refine f_iload_n C (j := 3) dL_law_1690 rfl rfl rfl ?_
      refine f_iconst C (v := 1) dL_law_1691 kc1 rfl ?_
      refine f_iadd C dL_law_1692 rfl ?_
      refine f_sld C (j := tn (x3 + 1)) hi_401 rfl dL_law_1693 rfl ?_
      refine f_aload_n C (j := 0) dL_law_1694 rfl rfl rfl ?_
      refine f_iload_n C (j := 3) dL_law_1695 rfl rfl rfl ?_
      refine f_iconst C (v := 2) dL_law_1696 kc2 rfl ?_
      refine f_iadd C dL_law_1697 rfl ?_
      refine f_sld C (j := tn (x3 + 2)) hi_402 rfl dL_law_1698 rfl ?_
      refine f_callVi C (a := 101) (ci := 12) (As := fun B => [.int (xs (tn (x3 + 1))), .int (xs (tn (x3 + 2)))]) o101 rfl (c_X12_mean  _ _ _ _ h) tM_L_238 tI_X12_mean tS_X12_mean tN_X12 tC_X12_mean 2 dd_X12_mean rfl (by decide) (by decide) rfl (Nat.le_of_ble_eq_true rfl) dL_law_1699 rfl (fun r_406 σ_405 h => ?_)
      refine f_icmp_eq C (t := 1733) dL_law_1702 (by decide) rfl (fun hq_407 => ?_) (fun hq_407 => ?_)
      · replace h := Eq.mp (if_pos hq_407) h
        exact s_L_1733 C _ K hK _ h
      · replace h := Eq.mp (if_neg hq_407) h
        refine f_iconst C (v := 0) dL_law_1705 kc0 rfl ?_
        exact h.elim
    replace h := Eq.mp (if_neg hq_408) h
    by_cases hq_414 : sw_3 = 53
    · replace h := Eq.mp (if_pos hq_414) h
      refine f_tableIn C (off := 1674) (t := 1707) dL_law_33 (by rw [hq_414]; decide) (by rw [hq_414]; decide) (by rw [hq_414]; rfl) (by decide) ?_
      refine f_aload_n C (j := 1) dL_law_1707 rfl rfl rfl ?_
      refine f_callVi C (a := 1) (ci := 11) (As := fun B => []) o1 rfl (c_X11_mark   _ _ h) tM_L_239 tI_X11_mark tS_X11_mark tN_X11 tC_X11_mark 0 dd_X11_mark rfl (by decide) (by decide) rfl (Nat.le_of_ble_eq_true rfl) dL_law_1708 rfl (fun r_410 σ_409 h => ?_)
      refine f_aload_n C (j := 2) dL_law_1711 rfl rfl rfl ?_
      refine f_callVi C (a := 101) (ci := 12) (As := fun B => []) o101 rfl (c_X12_mark   _ _ h) tM_L_242 tI_X12_mark tS_X12_mark tN_X12 tC_X12_mark 0 dd_X12_mark rfl (by decide) (by decide) rfl (Nat.le_of_ble_eq_true rfl) dL_law_1712 rfl (fun r_412 σ_411 h => ?_)
      refine f_icmp_eq C (t := 1733) dL_law_1715 (by decide) rfl (fun hq_413 => ?_) (fun hq_413 => ?_)
      · replace h := Eq.mp (if_pos hq_413) h
        exact s_L_1733 C _ K hK _ h
      · replace h := Eq.mp (if_neg hq_413) h
        refine f_iconst C (v := 0) dL_law_1718 kc0 rfl ?_
        exact h.elim
    replace h := Eq.mp (if_neg hq_414) h
    by_cases hq_420 : sw_3 = 54
    · replace h := Eq.mp (if_pos hq_420) h
      refine f_tableIn C (off := 1687) (t := 1720) dL_law_33 (by rw [hq_420]; decide) (by rw [hq_420]; decide) (by rw [hq_420]; rfl) (by decide) ?_
      refine f_aload_n C (j := 1) dL_law_1720 rfl rfl rfl ?_
      refine f_callVi C (a := 1) (ci := 11) (As := fun B => []) o1 rfl (c_X11_back   _ _ h) tM_L_243 tI_X11_back tS_X11_back tN_X11 tC_X11_back 0 dd_X11_back rfl (by decide) (by decide) rfl (Nat.le_of_ble_eq_true rfl) dL_law_1721 rfl (fun r_416 σ_415 h => ?_)
      refine f_aload_n C (j := 2) dL_law_1724 rfl rfl rfl ?_
      refine f_callVi C (a := 101) (ci := 12) (As := fun B => []) o101 rfl (c_X12_back   _ _ h) tM_L_246 tI_X12_back tS_X12_back tN_X12 tC_X12_back 0 dd_X12_back rfl (by decide) (by decide) rfl (Nat.le_of_ble_eq_true rfl) dL_law_1725 rfl (fun r_418 σ_417 h => ?_)
      refine f_icmp_eq C (t := 1733) dL_law_1728 (by decide) rfl (fun hq_419 => ?_) (fun hq_419 => ?_)
      · replace h := Eq.mp (if_pos hq_419) h
        exact s_L_1733 C _ K hK _ h
      · replace h := Eq.mp (if_neg hq_419) h
        refine f_iconst C (v := 0) dL_law_1731 kc0 rfl ?_
        exact h.elim
    replace h := Eq.mp (if_neg hq_420) h
    refine f_tableOut C (t := 1733) dL_law_33 (tsw_out (lo := 0) (hi := 54) 55 (by decide) (fun k hk => ?_)) (by decide) ?_
    · exact (tsw_cons (lo := 0) (lo2 := 1) (by decide) (toInt_ne (by decide) hq_11) (tsw_cons (lo := 1) (lo2 := 2) (by decide) (toInt_ne (by decide) hq_17) (tsw_cons (lo := 2) (lo2 := 3) (by decide) (toInt_ne (by decide) hq_23) (tsw_cons (lo := 3) (lo2 := 4) (by decide) (toInt_ne (by decide) hq_32) (tsw_cons (lo := 4) (lo2 := 5) (by decide) (toInt_ne (by decide) hq_42) (tsw_cons (lo := 5) (lo2 := 6) (by decide) (toInt_ne (by decide) hq_50) (tsw_cons (lo := 6) (lo2 := 7) (by decide) (toInt_ne (by decide) hq_61) (tsw_cons (lo := 7) (lo2 := 8) (by decide) (toInt_ne (by decide) hq_72) (tsw_cons (lo := 8) (lo2 := 9) (by decide) (toInt_ne (by decide) hq_79) (tsw_cons (lo := 9) (lo2 := 10) (by decide) (toInt_ne (by decide) hq_86) (tsw_cons (lo := 10) (lo2 := 11) (by decide) (toInt_ne (by decide) hq_93) (tsw_cons (lo := 11) (lo2 := 12) (by decide) (toInt_ne (by decide) hq_100) (tsw_cons (lo := 12) (lo2 := 13) (by decide) (toInt_ne (by decide) hq_108) (tsw_cons (lo := 13) (lo2 := 14) (by decide) (toInt_ne (by decide) hq_116) (tsw_cons (lo := 14) (lo2 := 15) (by decide) (toInt_ne (by decide) hq_123) (tsw_cons (lo := 15) (lo2 := 16) (by decide) (toInt_ne (by decide) hq_131) (tsw_cons (lo := 16) (lo2 := 17) (by decide) (toInt_ne (by decide) hq_138) (tsw_cons (lo := 17) (lo2 := 18) (by decide) (toInt_ne (by decide) hq_145) (tsw_cons (lo := 18) (lo2 := 19) (by decide) (toInt_ne (by decide) hq_152) (tsw_cons (lo := 19) (lo2 := 20) (by decide) (toInt_ne (by decide) hq_159) (tsw_cons (lo := 20) (lo2 := 21) (by decide) (toInt_ne (by decide) hq_181) (tsw_cons (lo := 21) (lo2 := 22) (by decide) (toInt_ne (by decide) hq_190) (tsw_cons (lo := 22) (lo2 := 23) (by decide) (toInt_ne (by decide) hq_197) (tsw_cons (lo := 23) (lo2 := 24) (by decide) (toInt_ne (by decide) hq_203) (tsw_cons (lo := 24) (lo2 := 25) (by decide) (toInt_ne (by decide) hq_210) (tsw_cons (lo := 25) (lo2 := 26) (by decide) (toInt_ne (by decide) hq_217) (tsw_cons (lo := 26) (lo2 := 27) (by decide) (toInt_ne (by decide) hq_224) (tsw_cons (lo := 27) (lo2 := 28) (by decide) (toInt_ne (by decide) hq_231) (tsw_cons (lo := 28) (lo2 := 29) (by decide) (toInt_ne (by decide) hq_238) (tsw_cons (lo := 29) (lo2 := 30) (by decide) (toInt_ne (by decide) hq_244) (tsw_cons (lo := 30) (lo2 := 31) (by decide) (toInt_ne (by decide) hq_251) (tsw_cons (lo := 31) (lo2 := 32) (by decide) (toInt_ne (by decide) hq_258) (tsw_cons (lo := 32) (lo2 := 33) (by decide) (toInt_ne (by decide) hq_265) (tsw_cons (lo := 33) (lo2 := 34) (by decide) (toInt_ne (by decide) hq_273) (tsw_cons (lo := 34) (lo2 := 35) (by decide) (toInt_ne (by decide) hq_281) (tsw_cons (lo := 35) (lo2 := 36) (by decide) (toInt_ne (by decide) hq_288) (tsw_cons (lo := 36) (lo2 := 37) (by decide) (toInt_ne (by decide) hq_295) (tsw_cons (lo := 37) (lo2 := 38) (by decide) (toInt_ne (by decide) hq_302) (tsw_cons (lo := 38) (lo2 := 39) (by decide) (toInt_ne (by decide) hq_309) (tsw_cons (lo := 39) (lo2 := 40) (by decide) (toInt_ne (by decide) hq_317) (tsw_cons (lo := 40) (lo2 := 41) (by decide) (toInt_ne (by decide) hq_325) (tsw_cons (lo := 41) (lo2 := 42) (by decide) (toInt_ne (by decide) hq_332) (tsw_cons (lo := 42) (lo2 := 43) (by decide) (toInt_ne (by decide) hq_339) (tsw_cons (lo := 43) (lo2 := 44) (by decide) (toInt_ne (by decide) hq_346) (tsw_cons (lo := 44) (lo2 := 45) (by decide) (toInt_ne (by decide) hq_353) (tsw_cons (lo := 45) (lo2 := 46) (by decide) (toInt_ne (by decide) hq_360) (tsw_cons (lo := 46) (lo2 := 47) (by decide) (toInt_ne (by decide) hq_366) (tsw_cons (lo := 47) (lo2 := 48) (by decide) (toInt_ne (by decide) hq_372) (tsw_cons (lo := 48) (lo2 := 49) (by decide) (toInt_ne (by decide) hq_378) (tsw_cons (lo := 49) (lo2 := 50) (by decide) (toInt_ne (by decide) hq_386) (tsw_cons (lo := 50) (lo2 := 51) (by decide) (toInt_ne (by decide) hq_393) (tsw_cons (lo := 51) (lo2 := 52) (by decide) (toInt_ne (by decide) hq_400) (tsw_cons (lo := 52) (lo2 := 53) (by decide) (toInt_ne (by decide) hq_408) (tsw_cons (lo := 53) (lo2 := 54) (by decide) (toInt_ne (by decide) hq_414) (tsw_cons (lo := 54) (lo2 := 55) (by decide) (toInt_ne (by decide) hq_420) tsw_nil))))))))))))))))))))))))))))))))))))))))))))))))))))))) k hk
    exact s_L_1733 C _ K hK _ h
def w_L (b L : Nat) (xs : Nat → Int32) (σ : Sto) : Prop := Lp (fun (K : Int32 × Sto → Prop) s => w_L_18 b L xs s.1 K s.2) (0, σ)
theorem s_L {B : Nat} {E : Nat → List (Nat × Value) → List Value → Sto → Prop} {b L : Nat} {xs : Nat → Int32} (C : Cy B E RL code 4 ret_law 44 1033 (Zl b L xs)) (σ : Sto) (h : w_L b L xs σ) : E 18 [(0, .ref b), (1, .ref (B + 1)), (2, .ref (B + 101)), (3, .int 0)] [] σ :=
  Lp_sound (fun s : Int32 × Sto => E 18 [(0, .ref b), (1, .ref (B + 1)), (2, .ref (B + 101)), (3, .int s.1)] [] s.2) h (fun K s hK h => s_L_18 C s.1 K (fun x3 σ hk => hK (x3, σ) hk) s.2 h)

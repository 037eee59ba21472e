abbrev LO_sign (Inv : Nat → A_M → Nat → Nat → Prop) : Prop := ∀ a1 : Int32, LawI Inv yX6_sign cX6_sign 3 3 65 yX7_sign cX7_sign 3 1 25 [.int a1]
set_option maxHeartbeats 4000000 in
theorem lc_sign {Y : LX} (C : CL Y) {Inv : Nat → A_M → Nat → Nat → Prop} (hB : InvB Inv) (H : LO_sign Inv) {x3 : Int32} {M : A_M} {cs sl z : Nat} (hz : z < 1536) (h1 : vp_in (x3 + 1) (lL Y)) (h2 : vp_in (x3 + 2) (lL Y)) (hI : Inv z M cs sl) (ih : ∀ M cs sl, Inv (z + 1) M cs sl → JL Y 921 x3 [] M cs sl) : JL Y 184 x3 [] M cs sl := by
  obtain ⟨r, M1, M2, mc, ms, r1, r2, k1, k2, i2⟩ := H (lxs Y (x3 + 1).toNatClampNeg) z M cs sl hz hI
  have hc := hB _ _ _ _ i2
  refine L_x (pc' := 185) C dL_law_184 rfl ?_
  refine L_sld (pc' := 190) (v := 1) C h1 dL_law_185 rfl dL_law_186 rfl dL_law_187 rfl (by decide) dL_law_188 rfl dL_law_189 rfl ?_
  refine L_callV (pc' := 193) (st := []) (st2 := [.int r]) (cs2 := cs + mc) (sl2 := sl + ms) C 6 rfl rfl k1 r1 mw_X6_sign wq_245 rfl dL_law_190 rfl rfl (Nat.le_of_ble_eq_true rfl) (by decide) (by decide) rfl rfl rfl hc.1 hc.2.1 ?_
  refine L_m (pc' := 194) C dL_law_193 rfl ?_
  refine L_sld (pc' := 199) (v := 1) C h1 dL_law_194 rfl dL_law_195 rfl dL_law_196 rfl (by decide) dL_law_197 rfl dL_law_198 rfl ?_
  refine L_callV (pc' := 202) (st := [.int r]) (st2 := [.int r, .int r]) (cs2 := cs + mc) (sl2 := sl + ms) C 7 rfl rfl k2 r2 mw_X7_sign wq_1052 rfl dL_law_199 rfl rfl (Nat.le_of_ble_eq_true rfl) (by decide) (by decide) rfl (Nat.add_zero _) (Nat.add_zero _) hc.1 hc.2.1 ?_
  refine L_icmp_eq (tgt := 921) C dL_law_202 (by decide) ?_
  exact ih M2 _ _ i2
abbrev LO_thing (Inv : Nat → A_M → Nat → Nat → Prop) : Prop := ∀ a1 : Int32, LawI Inv yX6_thing cX6_thing 3 3 65 yX7_thing cX7_thing 3 1 24 [.int a1]
set_option maxHeartbeats 4000000 in
theorem lc_thing {Y : LX} (C : CL Y) {Inv : Nat → A_M → Nat → Nat → Prop} (hB : InvB Inv) (H : LO_thing Inv) {x3 : Int32} {M : A_M} {cs sl z : Nat} (hz : z < 1536) (h1 : vp_in (x3 + 1) (lL Y)) (h2 : vp_in (x3 + 2) (lL Y)) (hI : Inv z M cs sl) (ih : ∀ M cs sl, Inv (z + 1) M cs sl → JL Y 921 x3 [] M cs sl) : JL Y 207 x3 [] M cs sl := by
  obtain ⟨r, M1, M2, mc, ms, r1, r2, k1, k2, i2⟩ := H (lxs Y (x3 + 1).toNatClampNeg) z M cs sl hz hI
  have hc := hB _ _ _ _ i2
  refine L_x (pc' := 208) C dL_law_207 rfl ?_
  refine L_sld (pc' := 213) (v := 1) C h1 dL_law_208 rfl dL_law_209 rfl dL_law_210 rfl (by decide) dL_law_211 rfl dL_law_212 rfl ?_
  refine L_callV (pc' := 216) (st := []) (st2 := [.int r]) (cs2 := cs + mc) (sl2 := sl + ms) C 6 rfl rfl k1 r1 mw_X6_thing wq_263 rfl dL_law_213 rfl rfl (Nat.le_of_ble_eq_true rfl) (by decide) (by decide) rfl rfl rfl hc.1 hc.2.1 ?_
  refine L_m (pc' := 217) C dL_law_216 rfl ?_
  refine L_sld (pc' := 222) (v := 1) C h1 dL_law_217 rfl dL_law_218 rfl dL_law_219 rfl (by decide) dL_law_220 rfl dL_law_221 rfl ?_
  refine L_callV (pc' := 225) (st := [.int r]) (st2 := [.int r, .int r]) (cs2 := cs + mc) (sl2 := sl + ms) C 7 rfl rfl k2 r2 mw_X7_thing wq_1060 rfl dL_law_222 rfl rfl (Nat.le_of_ble_eq_true rfl) (by decide) (by decide) rfl (Nat.add_zero _) (Nat.add_zero _) hc.1 hc.2.1 ?_
  refine L_icmp_eq (tgt := 921) C dL_law_225 (by decide) ?_
  exact ih M2 _ _ i2
abbrev LO_count (Inv : Nat → A_M → Nat → Nat → Prop) : Prop := ∀ a1 a2 : Int32, LawI Inv yX6_count cX6_count 5 1 22 yX7_count cX7_count 5 2 46 [.int a1, .int a2]
set_option maxHeartbeats 4000000 in
theorem lc_count {Y : LX} (C : CL Y) {Inv : Nat → A_M → Nat → Nat → Prop} (hB : InvB Inv) (H : LO_count Inv) {x3 : Int32} {M : A_M} {cs sl z : Nat} (hz : z < 1536) (h1 : vp_in (x3 + 1) (lL Y)) (h2 : vp_in (x3 + 2) (lL Y)) (hI : Inv z M cs sl) (ih : ∀ M cs sl, Inv (z + 1) M cs sl → JL Y 921 x3 [] M cs sl) : JL Y 230 x3 [] M cs sl := by
  obtain ⟨r, M1, M2, mc, ms, r1, r2, k1, k2, i2⟩ := H (lxs Y (x3 + 1).toNatClampNeg) (lxs Y (x3 + 2).toNatClampNeg) z M cs sl hz hI
  have hc := hB _ _ _ _ i2
  refine L_x (pc' := 231) C dL_law_230 rfl ?_
  refine L_sld (pc' := 236) (v := 1) C h1 dL_law_231 rfl dL_law_232 rfl dL_law_233 rfl (by decide) dL_law_234 rfl dL_law_235 rfl ?_
  refine L_sld (pc' := 241) (v := 2) C h2 dL_law_236 rfl dL_law_237 rfl dL_law_238 rfl (by decide) dL_law_239 rfl dL_law_240 rfl ?_
  refine L_callV (pc' := 244) (st := []) (st2 := [.int r]) (cs2 := cs + mc) (sl2 := sl + ms) C 6 rfl rfl k1 r1 mw_X6_count wq_274 rfl dL_law_241 rfl rfl (Nat.le_of_ble_eq_true rfl) (by decide) (by decide) rfl rfl rfl hc.1 hc.2.1 ?_
  refine L_m (pc' := 245) C dL_law_244 rfl ?_
  refine L_sld (pc' := 250) (v := 1) C h1 dL_law_245 rfl dL_law_246 rfl dL_law_247 rfl (by decide) dL_law_248 rfl dL_law_249 rfl ?_
  refine L_sld (pc' := 255) (v := 2) C h2 dL_law_250 rfl dL_law_251 rfl dL_law_252 rfl (by decide) dL_law_253 rfl dL_law_254 rfl ?_
  refine L_callV (pc' := 258) (st := [.int r]) (st2 := [.int r, .int r]) (cs2 := cs + mc) (sl2 := sl + ms) C 7 rfl rfl k2 r2 mw_X7_count wq_1070 rfl dL_law_255 rfl rfl (Nat.le_of_ble_eq_true rfl) (by decide) (by decide) rfl (Nat.add_zero _) (Nat.add_zero _) hc.1 hc.2.1 ?_
  refine L_icmp_eq (tgt := 921) C dL_law_258 (by decide) ?_
  exact ih M2 _ _ i2
abbrev LO_build (Inv : Nat → A_M → Nat → Nat → Prop) : Prop := ∀ a1 a2 : Int32, LawJ Inv yX6_build cX6_build 3 146 3562 yX7_build cX7_build 5 6 172 [.int a1, .int a2]
set_option maxHeartbeats 4000000 in
theorem lc_build {Y : LX} (C : CL Y) {Inv : Nat → A_M → Nat → Nat → Prop} (hB : InvB Inv) (H : LO_build Inv) {x3 : Int32} {M : A_M} {cs sl z : Nat} (hz : z < 1536) (h1 : vp_in (x3 + 1) (lL Y)) (h2 : vp_in (x3 + 2) (lL Y)) (hI : Inv z M cs sl) (ih : ∀ M cs sl, Inv (z + 1) M cs sl → JL Y 921 x3 [] M cs sl) : JL Y 263 x3 [] M cs sl := by
  obtain ⟨r, M1, M2, mc, ms, r1, r2, k1, k2, i2⟩ := H (lxs Y (x3 + 1).toNatClampNeg) (lxs Y (x3 + 2).toNatClampNeg) z M cs sl hz hI
  have hc := hB _ _ _ _ i2
  refine L_x (pc' := 264) C dL_law_263 rfl ?_
  refine L_sld (pc' := 269) (v := 1) C h1 dL_law_264 rfl dL_law_265 rfl dL_law_266 rfl (by decide) dL_law_267 rfl dL_law_268 rfl ?_
  refine L_sld (pc' := 274) (v := 2) C h2 dL_law_269 rfl dL_law_270 rfl dL_law_271 rfl (by decide) dL_law_272 rfl dL_law_273 rfl ?_
  refine L_callV (pc' := 277) (st := []) (st2 := [.long r]) (cs2 := cs + mc) (sl2 := sl + ms) C 6 rfl rfl k1 r1 mw_X6_build wq_282 rfl dL_law_274 rfl rfl (Nat.le_of_ble_eq_true rfl) (by decide) (by decide) rfl rfl rfl hc.1 hc.2.1 ?_
  refine L_m (pc' := 278) C dL_law_277 rfl ?_
  refine L_sld (pc' := 283) (v := 1) C h1 dL_law_278 rfl dL_law_279 rfl dL_law_280 rfl (by decide) dL_law_281 rfl dL_law_282 rfl ?_
  refine L_sld (pc' := 288) (v := 2) C h2 dL_law_283 rfl dL_law_284 rfl dL_law_285 rfl (by decide) dL_law_286 rfl dL_law_287 rfl ?_
  refine L_callV (pc' := 291) (st := [.long r]) (st2 := [.long r, .long r]) (cs2 := cs + mc) (sl2 := sl + ms) C 7 rfl rfl k2 r2 mw_X7_build wq_1105 rfl dL_law_288 rfl rfl (Nat.le_of_ble_eq_true rfl) (by decide) (by decide) rfl (Nat.add_zero _) (Nat.add_zero _) hc.1 hc.2.1 ?_
  refine L_lcmp (pc' := 292) C dL_law_291 rfl ?_
  refine L_if_eq (tgt := 921) C dL_law_292 (by decide) (lg_cmp_self _) ?_
  exact ih M2 _ _ i2
abbrev LO_own (Inv : Nat → A_M → Nat → Nat → Prop) : Prop := LawI Inv yX6_own cX6_own 1 2 45 yX7_own cX7_own 2 1 20 []
set_option maxHeartbeats 4000000 in
theorem lc_own {Y : LX} (C : CL Y) {Inv : Nat → A_M → Nat → Nat → Prop} (hB : InvB Inv) (H : LO_own Inv) {x3 : Int32} {M : A_M} {cs sl z : Nat} (hz : z < 1536) (h1 : vp_in (x3 + 1) (lL Y)) (h2 : vp_in (x3 + 2) (lL Y)) (hI : Inv z M cs sl) (ih : ∀ M cs sl, Inv (z + 1) M cs sl → JL Y 921 x3 [] M cs sl) : JL Y 297 x3 [] M cs sl := by
  obtain ⟨r, M1, M2, mc, ms, r1, r2, k1, k2, i2⟩ := H z M cs sl hz hI
  have hc := hB _ _ _ _ i2
  refine L_x (pc' := 298) C dL_law_297 rfl ?_
  refine L_callV (pc' := 301) (st := []) (st2 := [.int r]) (cs2 := cs + mc) (sl2 := sl + ms) C 6 rfl rfl k1 r1 mw_X6_own wq_554 rfl dL_law_298 rfl rfl (Nat.le_of_ble_eq_true rfl) (by decide) (by decide) rfl rfl rfl hc.1 hc.2.1 ?_
  refine L_m (pc' := 302) C dL_law_301 rfl ?_
  refine L_callV (pc' := 305) (st := [.int r]) (st2 := [.int r, .int r]) (cs2 := cs + mc) (sl2 := sl + ms) C 7 rfl rfl k2 r2 mw_X7_own wq_1225 rfl dL_law_302 rfl rfl (Nat.le_of_ble_eq_true rfl) (by decide) (by decide) rfl (Nat.add_zero _) (Nat.add_zero _) hc.1 hc.2.1 ?_
  refine L_icmp_eq (tgt := 921) C dL_law_305 (by decide) ?_
  exact ih M2 _ _ i2
abbrev LO_add (Inv : Nat → A_M → Nat → Nat → Prop) : Prop := ∀ a1 a2 : Int32, LawI Inv yX6_add cX6_add 3 1 24 yX7_add cX7_add 3 2 46 [.int a1, .int a2]
set_option maxHeartbeats 4000000 in
theorem lc_add {Y : LX} (C : CL Y) {Inv : Nat → A_M → Nat → Nat → Prop} (hB : InvB Inv) (H : LO_add Inv) {x3 : Int32} {M : A_M} {cs sl z : Nat} (hz : z < 1536) (h1 : vp_in (x3 + 1) (lL Y)) (h2 : vp_in (x3 + 2) (lL Y)) (hI : Inv z M cs sl) (ih : ∀ M cs sl, Inv (z + 1) M cs sl → JL Y 921 x3 [] M cs sl) : JL Y 310 x3 [] M cs sl := by
  obtain ⟨r, M1, M2, mc, ms, r1, r2, k1, k2, i2⟩ := H (lxs Y (x3 + 1).toNatClampNeg) (lxs Y (x3 + 2).toNatClampNeg) z M cs sl hz hI
  have hc := hB _ _ _ _ i2
  refine L_x (pc' := 311) C dL_law_310 rfl ?_
  refine L_sld (pc' := 316) (v := 1) C h1 dL_law_311 rfl dL_law_312 rfl dL_law_313 rfl (by decide) dL_law_314 rfl dL_law_315 rfl ?_
  refine L_sld (pc' := 321) (v := 2) C h2 dL_law_316 rfl dL_law_317 rfl dL_law_318 rfl (by decide) dL_law_319 rfl dL_law_320 rfl ?_
  refine L_callV (pc' := 324) (st := []) (st2 := [.int r]) (cs2 := cs + mc) (sl2 := sl + ms) C 6 rfl rfl k1 r1 mw_X6_add wq_558 rfl dL_law_321 rfl rfl (Nat.le_of_ble_eq_true rfl) (by decide) (by decide) rfl rfl rfl hc.1 hc.2.1 ?_
  refine L_m (pc' := 325) C dL_law_324 rfl ?_
  refine L_sld (pc' := 330) (v := 1) C h1 dL_law_325 rfl dL_law_326 rfl dL_law_327 rfl (by decide) dL_law_328 rfl dL_law_329 rfl ?_
  refine L_sld (pc' := 335) (v := 2) C h2 dL_law_330 rfl dL_law_331 rfl dL_law_332 rfl (by decide) dL_law_333 rfl dL_law_334 rfl ?_
  refine L_callV (pc' := 338) (st := [.int r]) (st2 := [.int r, .int r]) (cs2 := cs + mc) (sl2 := sl + ms) C 7 rfl rfl k2 r2 mw_X7_add wq_1229 rfl dL_law_335 rfl rfl (Nat.le_of_ble_eq_true rfl) (by decide) (by decide) rfl (Nat.add_zero _) (Nat.add_zero _) hc.1 hc.2.1 ?_
  refine L_icmp_eq (tgt := 921) C dL_law_338 (by decide) ?_
  exact ih M2 _ _ i2
abbrev LO_holds (Inv : Nat → A_M → Nat → Nat → Prop) : Prop := ∀ a1 a2 : Int32, LawI Inv yX6_holds cX6_holds 6 5 111 yX7_holds cX7_holds 3 3 76 [.int a1, .int a2]
set_option maxHeartbeats 4000000 in
theorem lc_holds {Y : LX} (C : CL Y) {Inv : Nat → A_M → Nat → Nat → Prop} (hB : InvB Inv) (H : LO_holds Inv) {x3 : Int32} {M : A_M} {cs sl z : Nat} (hz : z < 1536) (h1 : vp_in (x3 + 1) (lL Y)) (h2 : vp_in (x3 + 2) (lL Y)) (hI : Inv z M cs sl) (ih : ∀ M cs sl, Inv (z + 1) M cs sl → JL Y 921 x3 [] M cs sl) : JL Y 343 x3 [] M cs sl := by
  obtain ⟨r, M1, M2, mc, ms, r1, r2, k1, k2, i2⟩ := H (lxs Y (x3 + 1).toNatClampNeg) (lxs Y (x3 + 2).toNatClampNeg) z M cs sl hz hI
  have hc := hB _ _ _ _ i2
  refine L_x (pc' := 344) C dL_law_343 rfl ?_
  refine L_sld (pc' := 349) (v := 1) C h1 dL_law_344 rfl dL_law_345 rfl dL_law_346 rfl (by decide) dL_law_347 rfl dL_law_348 rfl ?_
  refine L_sld (pc' := 354) (v := 2) C h2 dL_law_349 rfl dL_law_350 rfl dL_law_351 rfl (by decide) dL_law_352 rfl dL_law_353 rfl ?_
  refine L_callV (pc' := 357) (st := []) (st2 := [.int r]) (cs2 := cs + mc) (sl2 := sl + ms) C 6 rfl rfl k1 r1 mw_X6_holds wq_566 rfl dL_law_354 rfl rfl (Nat.le_of_ble_eq_true rfl) (by decide) (by decide) rfl rfl rfl hc.1 hc.2.1 ?_
  refine L_m (pc' := 358) C dL_law_357 rfl ?_
  refine L_sld (pc' := 363) (v := 1) C h1 dL_law_358 rfl dL_law_359 rfl dL_law_360 rfl (by decide) dL_law_361 rfl dL_law_362 rfl ?_
  refine L_sld (pc' := 368) (v := 2) C h2 dL_law_363 rfl dL_law_364 rfl dL_law_365 rfl (by decide) dL_law_366 rfl dL_law_367 rfl ?_
  refine L_callV (pc' := 371) (st := [.int r]) (st2 := [.int r, .int r]) (cs2 := cs + mc) (sl2 := sl + ms) C 7 rfl rfl k2 r2 mw_X7_holds wq_1233 rfl dL_law_368 rfl rfl (Nat.le_of_ble_eq_true rfl) (by decide) (by decide) rfl (Nat.add_zero _) (Nat.add_zero _) hc.1 hc.2.1 ?_
  refine L_icmp_eq (tgt := 921) C dL_law_371 (by decide) ?_
  exact ih M2 _ _ i2
abbrev LO_broken (Inv : Nat → A_M → Nat → Nat → Prop) : Prop := ∀ a1 : Int32, LawI Inv yX6_broken cX6_broken 2 0 0 yX7_broken cX7_broken 2 0 0 [.int a1]
set_option maxHeartbeats 4000000 in
theorem lc_broken {Y : LX} (C : CL Y) {Inv : Nat → A_M → Nat → Nat → Prop} (hB : InvB Inv) (H : LO_broken Inv) {x3 : Int32} {M : A_M} {cs sl z : Nat} (hz : z < 1536) (h1 : vp_in (x3 + 1) (lL Y)) (h2 : vp_in (x3 + 2) (lL Y)) (hI : Inv z M cs sl) (ih : ∀ M cs sl, Inv (z + 1) M cs sl → JL Y 921 x3 [] M cs sl) : JL Y 376 x3 [] M cs sl := by
  obtain ⟨r, M1, M2, mc, ms, r1, r2, k1, k2, i2⟩ := H (lxs Y (x3 + 1).toNatClampNeg) z M cs sl hz hI
  have hc := hB _ _ _ _ i2
  refine L_x (pc' := 377) C dL_law_376 rfl ?_
  refine L_sld (pc' := 382) (v := 1) C h1 dL_law_377 rfl dL_law_378 rfl dL_law_379 rfl (by decide) dL_law_380 rfl dL_law_381 rfl ?_
  refine L_callV (pc' := 385) (st := []) (st2 := [.int r]) (cs2 := cs + mc) (sl2 := sl + ms) C 6 rfl rfl k1 r1 mw_X6_broken wq_593 rfl dL_law_382 rfl rfl (Nat.le_of_ble_eq_true rfl) (by decide) (by decide) rfl rfl rfl hc.1 hc.2.1 ?_
  refine L_m (pc' := 386) C dL_law_385 rfl ?_
  refine L_sld (pc' := 391) (v := 1) C h1 dL_law_386 rfl dL_law_387 rfl dL_law_388 rfl (by decide) dL_law_389 rfl dL_law_390 rfl ?_
  refine L_callV (pc' := 394) (st := [.int r]) (st2 := [.int r, .int r]) (cs2 := cs + mc) (sl2 := sl + ms) C 7 rfl rfl k2 r2 mw_X7_broken wq_1252 rfl dL_law_391 rfl rfl (Nat.le_of_ble_eq_true rfl) (by decide) (by decide) rfl (Nat.add_zero _) (Nat.add_zero _) hc.1 hc.2.1 ?_
  refine L_icmp_eq (tgt := 921) C dL_law_394 (by decide) ?_
  exact ih M2 _ _ i2
abbrev LO_cost (Inv : Nat → A_M → Nat → Nat → Prop) : Prop := LawJ Inv yX6_cost cX6_cost 1 2 48 yX7_cost cX7_cost 1 3 68 []
set_option maxHeartbeats 4000000 in
theorem lc_cost {Y : LX} (C : CL Y) {Inv : Nat → A_M → Nat → Nat → Prop} (hB : InvB Inv) (H : LO_cost Inv) {x3 : Int32} {M : A_M} {cs sl z : Nat} (hz : z < 1536) (h1 : vp_in (x3 + 1) (lL Y)) (h2 : vp_in (x3 + 2) (lL Y)) (hI : Inv z M cs sl) (ih : ∀ M cs sl, Inv (z + 1) M cs sl → JL Y 921 x3 [] M cs sl) : JL Y 399 x3 [] M cs sl := by
  obtain ⟨r, M1, M2, mc, ms, r1, r2, k1, k2, i2⟩ := H z M cs sl hz hI
  have hc := hB _ _ _ _ i2
  refine L_x (pc' := 400) C dL_law_399 rfl ?_
  refine L_callV (pc' := 403) (st := []) (st2 := [.long r]) (cs2 := cs + mc) (sl2 := sl + ms) C 6 rfl rfl k1 r1 mw_X6_cost wq_597 rfl dL_law_400 rfl rfl (Nat.le_of_ble_eq_true rfl) (by decide) (by decide) rfl rfl rfl hc.1 hc.2.1 ?_
  refine L_m (pc' := 404) C dL_law_403 rfl ?_
  refine L_callV (pc' := 407) (st := [.long r]) (st2 := [.long r, .long r]) (cs2 := cs + mc) (sl2 := sl + ms) C 7 rfl rfl k2 r2 mw_X7_cost wq_1256 rfl dL_law_404 rfl rfl (Nat.le_of_ble_eq_true rfl) (by decide) (by decide) rfl (Nat.add_zero _) (Nat.add_zero _) hc.1 hc.2.1 ?_
  refine L_lcmp (pc' := 408) C dL_law_407 rfl ?_
  refine L_if_eq (tgt := 921) C dL_law_408 (by decide) (lg_cmp_self _) ?_
  exact ih M2 _ _ i2
abbrev LO_mean (Inv : Nat → A_M → Nat → Nat → Prop) : Prop := LawJ Inv yX6_mean cX6_mean 4 2 48 yX7_mean cX7_mean 1 3 68 []
set_option maxHeartbeats 4000000 in
theorem lc_mean {Y : LX} (C : CL Y) {Inv : Nat → A_M → Nat → Nat → Prop} (hB : InvB Inv) (H : LO_mean Inv) {x3 : Int32} {M : A_M} {cs sl z : Nat} (hz : z < 1536) (h1 : vp_in (x3 + 1) (lL Y)) (h2 : vp_in (x3 + 2) (lL Y)) (hI : Inv z M cs sl) (ih : ∀ M cs sl, Inv (z + 1) M cs sl → JL Y 921 x3 [] M cs sl) : JL Y 413 x3 [] M cs sl := by
  obtain ⟨r, M1, M2, mc, ms, r1, r2, k1, k2, i2⟩ := H z M cs sl hz hI
  have hc := hB _ _ _ _ i2
  refine L_x (pc' := 414) C dL_law_413 rfl ?_
  refine L_callV (pc' := 417) (st := []) (st2 := [.long r]) (cs2 := cs + mc) (sl2 := sl + ms) C 6 rfl rfl k1 r1 mw_X6_mean wq_601 rfl dL_law_414 rfl rfl (Nat.le_of_ble_eq_true rfl) (by decide) (by decide) rfl rfl rfl hc.1 hc.2.1 ?_
  refine L_m (pc' := 418) C dL_law_417 rfl ?_
  refine L_callV (pc' := 421) (st := [.long r]) (st2 := [.long r, .long r]) (cs2 := cs + mc) (sl2 := sl + ms) C 7 rfl rfl k2 r2 mw_X7_mean wq_1260 rfl dL_law_418 rfl rfl (Nat.le_of_ble_eq_true rfl) (by decide) (by decide) rfl (Nat.add_zero _) (Nat.add_zero _) hc.1 hc.2.1 ?_
  refine L_lcmp (pc' := 422) C dL_law_421 rfl ?_
  refine L_if_eq (tgt := 921) C dL_law_422 (by decide) (lg_cmp_self _) ?_
  exact ih M2 _ _ i2
abbrev LO_length (Inv : Nat → A_M → Nat → Nat → Prop) : Prop := ∀ a1 : Int32, LawI Inv yX6_length cX6_length 2 1 21 yX7_length cX7_length 2 2 46 [.int a1]
set_option maxHeartbeats 4000000 in
theorem lc_length {Y : LX} (C : CL Y) {Inv : Nat → A_M → Nat → Nat → Prop} (hB : InvB Inv) (H : LO_length Inv) {x3 : Int32} {M : A_M} {cs sl z : Nat} (hz : z < 1536) (h1 : vp_in (x3 + 1) (lL Y)) (h2 : vp_in (x3 + 2) (lL Y)) (hI : Inv z M cs sl) (ih : ∀ M cs sl, Inv (z + 1) M cs sl → JL Y 921 x3 [] M cs sl) : JL Y 427 x3 [] M cs sl := by
  obtain ⟨r, M1, M2, mc, ms, r1, r2, k1, k2, i2⟩ := H (lxs Y (x3 + 1).toNatClampNeg) z M cs sl hz hI
  have hc := hB _ _ _ _ i2
  refine L_x (pc' := 428) C dL_law_427 rfl ?_
  refine L_sld (pc' := 433) (v := 1) C h1 dL_law_428 rfl dL_law_429 rfl dL_law_430 rfl (by decide) dL_law_431 rfl dL_law_432 rfl ?_
  refine L_callV (pc' := 436) (st := []) (st2 := [.int r]) (cs2 := cs + mc) (sl2 := sl + ms) C 6 rfl rfl k1 r1 mw_X6_length wq_611 rfl dL_law_433 rfl rfl (Nat.le_of_ble_eq_true rfl) (by decide) (by decide) rfl rfl rfl hc.1 hc.2.1 ?_
  refine L_m (pc' := 437) C dL_law_436 rfl ?_
  refine L_sld (pc' := 442) (v := 1) C h1 dL_law_437 rfl dL_law_438 rfl dL_law_439 rfl (by decide) dL_law_440 rfl dL_law_441 rfl ?_
  refine L_callV (pc' := 445) (st := [.int r]) (st2 := [.int r, .int r]) (cs2 := cs + mc) (sl2 := sl + ms) C 7 rfl rfl k2 r2 mw_X7_length wq_1274 rfl dL_law_442 rfl rfl (Nat.le_of_ble_eq_true rfl) (by decide) (by decide) rfl (Nat.add_zero _) (Nat.add_zero _) hc.1 hc.2.1 ?_
  refine L_icmp_eq (tgt := 921) C dL_law_445 (by decide) ?_
  exact ih M2 _ _ i2
abbrev LO_word (Inv : Nat → A_M → Nat → Nat → Prop) : Prop := ∀ a1 a2 : Int32, LawI Inv yX6_word cX6_word 3 1 22 yX7_word cX7_word 3 2 46 [.int a1, .int a2]
set_option maxHeartbeats 4000000 in
theorem lc_word {Y : LX} (C : CL Y) {Inv : Nat → A_M → Nat → Nat → Prop} (hB : InvB Inv) (H : LO_word Inv) {x3 : Int32} {M : A_M} {cs sl z : Nat} (hz : z < 1536) (h1 : vp_in (x3 + 1) (lL Y)) (h2 : vp_in (x3 + 2) (lL Y)) (hI : Inv z M cs sl) (ih : ∀ M cs sl, Inv (z + 1) M cs sl → JL Y 921 x3 [] M cs sl) : JL Y 450 x3 [] M cs sl := by
  obtain ⟨r, M1, M2, mc, ms, r1, r2, k1, k2, i2⟩ := H (lxs Y (x3 + 1).toNatClampNeg) (lxs Y (x3 + 2).toNatClampNeg) z M cs sl hz hI
  have hc := hB _ _ _ _ i2
  refine L_x (pc' := 451) C dL_law_450 rfl ?_
  refine L_sld (pc' := 456) (v := 1) C h1 dL_law_451 rfl dL_law_452 rfl dL_law_453 rfl (by decide) dL_law_454 rfl dL_law_455 rfl ?_
  refine L_sld (pc' := 461) (v := 2) C h2 dL_law_456 rfl dL_law_457 rfl dL_law_458 rfl (by decide) dL_law_459 rfl dL_law_460 rfl ?_
  refine L_callV (pc' := 464) (st := []) (st2 := [.int r]) (cs2 := cs + mc) (sl2 := sl + ms) C 6 rfl rfl k1 r1 mw_X6_word wq_615 rfl dL_law_461 rfl rfl (Nat.le_of_ble_eq_true rfl) (by decide) (by decide) rfl rfl rfl hc.1 hc.2.1 ?_
  refine L_m (pc' := 465) C dL_law_464 rfl ?_
  refine L_sld (pc' := 470) (v := 1) C h1 dL_law_465 rfl dL_law_466 rfl dL_law_467 rfl (by decide) dL_law_468 rfl dL_law_469 rfl ?_
  refine L_sld (pc' := 475) (v := 2) C h2 dL_law_470 rfl dL_law_471 rfl dL_law_472 rfl (by decide) dL_law_473 rfl dL_law_474 rfl ?_
  refine L_callV (pc' := 478) (st := [.int r]) (st2 := [.int r, .int r]) (cs2 := cs + mc) (sl2 := sl + ms) C 7 rfl rfl k2 r2 mw_X7_word wq_1278 rfl dL_law_475 rfl rfl (Nat.le_of_ble_eq_true rfl) (by decide) (by decide) rfl (Nat.add_zero _) (Nat.add_zero _) hc.1 hc.2.1 ?_
  refine L_icmp_eq (tgt := 921) C dL_law_478 (by decide) ?_
  exact ih M2 _ _ i2
abbrev LO_room (Inv : Nat → A_M → Nat → Nat → Prop) : Prop := LawJ Inv yX6_room cX6_room 7 1 26 yX7_room cX7_room 7 2 51 []
set_option maxHeartbeats 4000000 in
theorem lc_room {Y : LX} (C : CL Y) {Inv : Nat → A_M → Nat → Nat → Prop} (hB : InvB Inv) (H : LO_room Inv) {x3 : Int32} {M : A_M} {cs sl z : Nat} (hz : z < 1536) (h1 : vp_in (x3 + 1) (lL Y)) (h2 : vp_in (x3 + 2) (lL Y)) (hI : Inv z M cs sl) (ih : ∀ M cs sl, Inv (z + 1) M cs sl → JL Y 921 x3 [] M cs sl) : JL Y 483 x3 [] M cs sl := by
  obtain ⟨r, M1, M2, mc, ms, r1, r2, k1, k2, i2⟩ := H z M cs sl hz hI
  have hc := hB _ _ _ _ i2
  refine L_x (pc' := 484) C dL_law_483 rfl ?_
  refine L_callV (pc' := 487) (st := []) (st2 := [.long r]) (cs2 := cs + mc) (sl2 := sl + ms) C 6 rfl rfl k1 r1 mw_X6_room wq_619 rfl dL_law_484 rfl rfl (Nat.le_of_ble_eq_true rfl) (by decide) (by decide) rfl rfl rfl hc.1 hc.2.1 ?_
  refine L_m (pc' := 488) C dL_law_487 rfl ?_
  refine L_callV (pc' := 491) (st := [.long r]) (st2 := [.long r, .long r]) (cs2 := cs + mc) (sl2 := sl + ms) C 7 rfl rfl k2 r2 mw_X7_room wq_1282 rfl dL_law_488 rfl rfl (Nat.le_of_ble_eq_true rfl) (by decide) (by decide) rfl (Nat.add_zero _) (Nat.add_zero _) hc.1 hc.2.1 ?_
  refine L_lcmp (pc' := 492) C dL_law_491 rfl ?_
  refine L_if_eq (tgt := 921) C dL_law_492 (by decide) (lg_cmp_self _) ?_
  exact ih M2 _ _ i2
abbrev LO_full (Inv : Nat → A_M → Nat → Nat → Prop) : Prop := LawI Inv yX6_full cX6_full 4 5 110 yX7_full cX7_full 4 4 96 []
set_option maxHeartbeats 4000000 in
theorem lc_full {Y : LX} (C : CL Y) {Inv : Nat → A_M → Nat → Nat → Prop} (hB : InvB Inv) (H : LO_full Inv) {x3 : Int32} {M : A_M} {cs sl z : Nat} (hz : z < 1536) (h1 : vp_in (x3 + 1) (lL Y)) (h2 : vp_in (x3 + 2) (lL Y)) (hI : Inv z M cs sl) (ih : ∀ M cs sl, Inv (z + 1) M cs sl → JL Y 921 x3 [] M cs sl) : JL Y 497 x3 [] M cs sl := by
  obtain ⟨r, M1, M2, mc, ms, r1, r2, k1, k2, i2⟩ := H z M cs sl hz hI
  have hc := hB _ _ _ _ i2
  refine L_x (pc' := 498) C dL_law_497 rfl ?_
  refine L_callV (pc' := 501) (st := []) (st2 := [.int r]) (cs2 := cs + mc) (sl2 := sl + ms) C 6 rfl rfl k1 r1 mw_X6_full wq_623 rfl dL_law_498 rfl rfl (Nat.le_of_ble_eq_true rfl) (by decide) (by decide) rfl rfl rfl hc.1 hc.2.1 ?_
  refine L_m (pc' := 502) C dL_law_501 rfl ?_
  refine L_callV (pc' := 505) (st := [.int r]) (st2 := [.int r, .int r]) (cs2 := cs + mc) (sl2 := sl + ms) C 7 rfl rfl k2 r2 mw_X7_full wq_1286 rfl dL_law_502 rfl rfl (Nat.le_of_ble_eq_true rfl) (by decide) (by decide) rfl (Nat.add_zero _) (Nat.add_zero _) hc.1 hc.2.1 ?_
  refine L_icmp_eq (tgt := 921) C dL_law_505 (by decide) ?_
  exact ih M2 _ _ i2
abbrev LO_canon (Inv : Nat → A_M → Nat → Nat → Prop) : Prop := LawI Inv yX6_canon cX6_canon 1 3 77 yX7_canon cX7_canon 6 2 47 []
set_option maxHeartbeats 4000000 in
theorem lc_canon {Y : LX} (C : CL Y) {Inv : Nat → A_M → Nat → Nat → Prop} (hB : InvB Inv) (H : LO_canon Inv) {x3 : Int32} {M : A_M} {cs sl z : Nat} (hz : z < 1536) (h1 : vp_in (x3 + 1) (lL Y)) (h2 : vp_in (x3 + 2) (lL Y)) (hI : Inv z M cs sl) (ih : ∀ M cs sl, Inv (z + 1) M cs sl → JL Y 921 x3 [] M cs sl) : JL Y 510 x3 [] M cs sl := by
  obtain ⟨r, M1, M2, mc, ms, r1, r2, k1, k2, i2⟩ := H z M cs sl hz hI
  have hc := hB _ _ _ _ i2
  refine L_x (pc' := 511) C dL_law_510 rfl ?_
  refine L_callV (pc' := 514) (st := []) (st2 := [.int r]) (cs2 := cs + mc) (sl2 := sl + ms) C 6 rfl rfl k1 r1 mw_X6_canon wq_636 rfl dL_law_511 rfl rfl (Nat.le_of_ble_eq_true rfl) (by decide) (by decide) rfl rfl rfl hc.1 hc.2.1 ?_
  refine L_m (pc' := 515) C dL_law_514 rfl ?_
  refine L_callV (pc' := 518) (st := [.int r]) (st2 := [.int r, .int r]) (cs2 := cs + mc) (sl2 := sl + ms) C 7 rfl rfl k2 r2 mw_X7_canon wq_1309 rfl dL_law_515 rfl rfl (Nat.le_of_ble_eq_true rfl) (by decide) (by decide) rfl (Nat.add_zero _) (Nat.add_zero _) hc.1 hc.2.1 ?_
  refine L_icmp_eq (tgt := 921) C dL_law_518 (by decide) ?_
  exact ih M2 _ _ i2
abbrev LO_node (Inv : Nat → A_M → Nat → Nat → Prop) : Prop := ∀ a1 a2 : Int32, LawJ Inv yX6_node cX6_node 4 4 98 yX7_node cX7_node 3 4 103 [.int a1, .int a2]
set_option maxHeartbeats 4000000 in
theorem lc_node {Y : LX} (C : CL Y) {Inv : Nat → A_M → Nat → Nat → Prop} (hB : InvB Inv) (H : LO_node Inv) {x3 : Int32} {M : A_M} {cs sl z : Nat} (hz : z < 1536) (h1 : vp_in (x3 + 1) (lL Y)) (h2 : vp_in (x3 + 2) (lL Y)) (hI : Inv z M cs sl) (ih : ∀ M cs sl, Inv (z + 1) M cs sl → JL Y 921 x3 [] M cs sl) : JL Y 523 x3 [] M cs sl := by
  obtain ⟨r, M1, M2, mc, ms, r1, r2, k1, k2, i2⟩ := H (lxs Y (x3 + 1).toNatClampNeg) (lxs Y (x3 + 2).toNatClampNeg) z M cs sl hz hI
  have hc := hB _ _ _ _ i2
  refine L_x (pc' := 524) C dL_law_523 rfl ?_
  refine L_sld (pc' := 529) (v := 1) C h1 dL_law_524 rfl dL_law_525 rfl dL_law_526 rfl (by decide) dL_law_527 rfl dL_law_528 rfl ?_
  refine L_sld (pc' := 534) (v := 2) C h2 dL_law_529 rfl dL_law_530 rfl dL_law_531 rfl (by decide) dL_law_532 rfl dL_law_533 rfl ?_
  refine L_callV (pc' := 537) (st := []) (st2 := [.long r]) (cs2 := cs + mc) (sl2 := sl + ms) C 6 rfl rfl k1 r1 mw_X6_node wq_652 rfl dL_law_534 rfl rfl (Nat.le_of_ble_eq_true rfl) (by decide) (by decide) rfl rfl rfl hc.1 hc.2.1 ?_
  refine L_m (pc' := 538) C dL_law_537 rfl ?_
  refine L_sld (pc' := 543) (v := 1) C h1 dL_law_538 rfl dL_law_539 rfl dL_law_540 rfl (by decide) dL_law_541 rfl dL_law_542 rfl ?_
  refine L_sld (pc' := 548) (v := 2) C h2 dL_law_543 rfl dL_law_544 rfl dL_law_545 rfl (by decide) dL_law_546 rfl dL_law_547 rfl ?_
  refine L_callV (pc' := 551) (st := [.long r]) (st2 := [.long r, .long r]) (cs2 := cs + mc) (sl2 := sl + ms) C 7 rfl rfl k2 r2 mw_X7_node wq_1078 rfl dL_law_548 rfl rfl (Nat.le_of_ble_eq_true rfl) (by decide) (by decide) rfl (Nat.add_zero _) (Nat.add_zero _) hc.1 hc.2.1 ?_
  refine L_lcmp (pc' := 552) C dL_law_551 rfl ?_
  refine L_if_eq (tgt := 921) C dL_law_552 (by decide) (lg_cmp_self _) ?_
  exact ih M2 _ _ i2
abbrev LO_write (Inv : Nat → A_M → Nat → Nat → Prop) : Prop := ∀ a1 : Int32, LawI Inv yX6_write cX6_write 2 2 46 yX7_write cX7_write 2 2 46 [.int a1]
set_option maxHeartbeats 4000000 in
theorem lc_write {Y : LX} (C : CL Y) {Inv : Nat → A_M → Nat → Nat → Prop} (hB : InvB Inv) (H : LO_write Inv) {x3 : Int32} {M : A_M} {cs sl z : Nat} (hz : z < 1536) (h1 : vp_in (x3 + 1) (lL Y)) (h2 : vp_in (x3 + 2) (lL Y)) (hI : Inv z M cs sl) (ih : ∀ M cs sl, Inv (z + 1) M cs sl → JL Y 921 x3 [] M cs sl) : JL Y 557 x3 [] M cs sl := by
  obtain ⟨r, M1, M2, mc, ms, r1, r2, k1, k2, i2⟩ := H (lxs Y (x3 + 1).toNatClampNeg) z M cs sl hz hI
  have hc := hB _ _ _ _ i2
  refine L_x (pc' := 558) C dL_law_557 rfl ?_
  refine L_sld (pc' := 563) (v := 1) C h1 dL_law_558 rfl dL_law_559 rfl dL_law_560 rfl (by decide) dL_law_561 rfl dL_law_562 rfl ?_
  refine L_callV (pc' := 566) (st := []) (st2 := [.int r]) (cs2 := cs + mc) (sl2 := sl + ms) C 6 rfl rfl k1 r1 mw_X6_write wq_658 rfl dL_law_563 rfl rfl (Nat.le_of_ble_eq_true rfl) (by decide) (by decide) rfl rfl rfl hc.1 hc.2.1 ?_
  refine L_m (pc' := 567) C dL_law_566 rfl ?_
  refine L_sld (pc' := 572) (v := 1) C h1 dL_law_567 rfl dL_law_568 rfl dL_law_569 rfl (by decide) dL_law_570 rfl dL_law_571 rfl ?_
  refine L_callV (pc' := 575) (st := [.int r]) (st2 := [.int r, .int r]) (cs2 := cs + mc) (sl2 := sl + ms) C 7 rfl rfl k2 r2 mw_X7_write wq_1317 rfl dL_law_572 rfl rfl (Nat.le_of_ble_eq_true rfl) (by decide) (by decide) rfl (Nat.add_zero _) (Nat.add_zero _) hc.1 hc.2.1 ?_
  refine L_icmp_eq (tgt := 921) C dL_law_575 (by decide) ?_
  exact ih M2 _ _ i2
abbrev LO_put (Inv : Nat → A_M → Nat → Nat → Prop) : Prop := ∀ a1 : Int32, LawI Inv yX6_put cX6_put 2 1 21 yX7_put cX7_put 2 2 46 [.int a1]
set_option maxHeartbeats 4000000 in
theorem lc_put {Y : LX} (C : CL Y) {Inv : Nat → A_M → Nat → Nat → Prop} (hB : InvB Inv) (H : LO_put Inv) {x3 : Int32} {M : A_M} {cs sl z : Nat} (hz : z < 1536) (h1 : vp_in (x3 + 1) (lL Y)) (h2 : vp_in (x3 + 2) (lL Y)) (hI : Inv z M cs sl) (ih : ∀ M cs sl, Inv (z + 1) M cs sl → JL Y 921 x3 [] M cs sl) : JL Y 580 x3 [] M cs sl := by
  obtain ⟨r, M1, M2, mc, ms, r1, r2, k1, k2, i2⟩ := H (lxs Y (x3 + 1).toNatClampNeg) z M cs sl hz hI
  have hc := hB _ _ _ _ i2
  refine L_x (pc' := 581) C dL_law_580 rfl ?_
  refine L_sld (pc' := 586) (v := 1) C h1 dL_law_581 rfl dL_law_582 rfl dL_law_583 rfl (by decide) dL_law_584 rfl dL_law_585 rfl ?_
  refine L_callV (pc' := 589) (st := []) (st2 := [.int r]) (cs2 := cs + mc) (sl2 := sl + ms) C 6 rfl rfl k1 r1 mw_X6_put wq_671 rfl dL_law_586 rfl rfl (Nat.le_of_ble_eq_true rfl) (by decide) (by decide) rfl rfl rfl hc.1 hc.2.1 ?_
  refine L_m (pc' := 590) C dL_law_589 rfl ?_
  refine L_sld (pc' := 595) (v := 1) C h1 dL_law_590 rfl dL_law_591 rfl dL_law_592 rfl (by decide) dL_law_593 rfl dL_law_594 rfl ?_
  refine L_callV (pc' := 598) (st := [.int r]) (st2 := [.int r, .int r]) (cs2 := cs + mc) (sl2 := sl + ms) C 7 rfl rfl k2 r2 mw_X7_put wq_1325 rfl dL_law_595 rfl rfl (Nat.le_of_ble_eq_true rfl) (by decide) (by decide) rfl (Nat.add_zero _) (Nat.add_zero _) hc.1 hc.2.1 ?_
  refine L_icmp_eq (tgt := 921) C dL_law_598 (by decide) ?_
  exact ih M2 _ _ i2
abbrev LO_wipe (Inv : Nat → A_M → Nat → Nat → Prop) : Prop := LawI Inv yX6_wipe cX6_wipe 2 0 0 yX7_wipe cX7_wipe 2 0 0 []
set_option maxHeartbeats 4000000 in
theorem lc_wipe {Y : LX} (C : CL Y) {Inv : Nat → A_M → Nat → Nat → Prop} (hB : InvB Inv) (H : LO_wipe Inv) {x3 : Int32} {M : A_M} {cs sl z : Nat} (hz : z < 1536) (h1 : vp_in (x3 + 1) (lL Y)) (h2 : vp_in (x3 + 2) (lL Y)) (hI : Inv z M cs sl) (ih : ∀ M cs sl, Inv (z + 1) M cs sl → JL Y 921 x3 [] M cs sl) : JL Y 603 x3 [] M cs sl := by
  obtain ⟨r, M1, M2, mc, ms, r1, r2, k1, k2, i2⟩ := H z M cs sl hz hI
  have hc := hB _ _ _ _ i2
  refine L_x (pc' := 604) C dL_law_603 rfl ?_
  refine L_callV (pc' := 607) (st := []) (st2 := [.int r]) (cs2 := cs + mc) (sl2 := sl + ms) C 6 rfl rfl k1 r1 mw_X6_wipe wq_676 rfl dL_law_604 rfl rfl (Nat.le_of_ble_eq_true rfl) (by decide) (by decide) rfl rfl rfl hc.1 hc.2.1 ?_
  refine L_m (pc' := 608) C dL_law_607 rfl ?_
  refine L_callV (pc' := 611) (st := [.int r]) (st2 := [.int r, .int r]) (cs2 := cs + mc) (sl2 := sl + ms) C 7 rfl rfl k2 r2 mw_X7_wipe wq_1329 rfl dL_law_608 rfl rfl (Nat.le_of_ble_eq_true rfl) (by decide) (by decide) rfl (Nat.add_zero _) (Nat.add_zero _) hc.1 hc.2.1 ?_
  refine L_icmp_eq (tgt := 921) C dL_law_611 (by decide) ?_
  exact ih M2 _ _ i2
abbrev LO_line (Inv : Nat → A_M → Nat → Nat → Prop) : Prop := ∀ a1 : Int32, LawI Inv yX6_line cX6_line 2 0 0 yX7_line cX7_line 2 1 25 [.int a1]
set_option maxHeartbeats 4000000 in
theorem lc_line {Y : LX} (C : CL Y) {Inv : Nat → A_M → Nat → Nat → Prop} (hB : InvB Inv) (H : LO_line Inv) {x3 : Int32} {M : A_M} {cs sl z : Nat} (hz : z < 1536) (h1 : vp_in (x3 + 1) (lL Y)) (h2 : vp_in (x3 + 2) (lL Y)) (hI : Inv z M cs sl) (ih : ∀ M cs sl, Inv (z + 1) M cs sl → JL Y 921 x3 [] M cs sl) : JL Y 616 x3 [] M cs sl := by
  obtain ⟨r, M1, M2, mc, ms, r1, r2, k1, k2, i2⟩ := H (lxs Y (x3 + 1).toNatClampNeg) z M cs sl hz hI
  have hc := hB _ _ _ _ i2
  refine L_x (pc' := 617) C dL_law_616 rfl ?_
  refine L_sld (pc' := 622) (v := 1) C h1 dL_law_617 rfl dL_law_618 rfl dL_law_619 rfl (by decide) dL_law_620 rfl dL_law_621 rfl ?_
  refine L_callV (pc' := 625) (st := []) (st2 := [.int r]) (cs2 := cs + mc) (sl2 := sl + ms) C 6 rfl rfl k1 r1 mw_X6_line wq_680 rfl dL_law_622 rfl rfl (Nat.le_of_ble_eq_true rfl) (by decide) (by decide) rfl rfl rfl hc.1 hc.2.1 ?_
  refine L_m (pc' := 626) C dL_law_625 rfl ?_
  refine L_sld (pc' := 631) (v := 1) C h1 dL_law_626 rfl dL_law_627 rfl dL_law_628 rfl (by decide) dL_law_629 rfl dL_law_630 rfl ?_
  refine L_callV (pc' := 634) (st := [.int r]) (st2 := [.int r, .int r]) (cs2 := cs + mc) (sl2 := sl + ms) C 7 rfl rfl k2 r2 mw_X7_line wq_1333 rfl dL_law_631 rfl rfl (Nat.le_of_ble_eq_true rfl) (by decide) (by decide) rfl (Nat.add_zero _) (Nat.add_zero _) hc.1 hc.2.1 ?_
  refine L_icmp_eq (tgt := 921) C dL_law_634 (by decide) ?_
  exact ih M2 _ _ i2
abbrev LO_read (Inv : Nat → A_M → Nat → Nat → Prop) : Prop := LawI Inv yX6_read cX6_read 3 5 110 yX7_read cX7_read 3 4 96 []
set_option maxHeartbeats 4000000 in
theorem lc_read {Y : LX} (C : CL Y) {Inv : Nat → A_M → Nat → Nat → Prop} (hB : InvB Inv) (H : LO_read Inv) {x3 : Int32} {M : A_M} {cs sl z : Nat} (hz : z < 1536) (h1 : vp_in (x3 + 1) (lL Y)) (h2 : vp_in (x3 + 2) (lL Y)) (hI : Inv z M cs sl) (ih : ∀ M cs sl, Inv (z + 1) M cs sl → JL Y 921 x3 [] M cs sl) : JL Y 639 x3 [] M cs sl := by
  obtain ⟨r, M1, M2, mc, ms, r1, r2, k1, k2, i2⟩ := H z M cs sl hz hI
  have hc := hB _ _ _ _ i2
  refine L_x (pc' := 640) C dL_law_639 rfl ?_
  refine L_callV (pc' := 643) (st := []) (st2 := [.int r]) (cs2 := cs + mc) (sl2 := sl + ms) C 6 rfl rfl k1 r1 mw_X6_read wq_684 rfl dL_law_640 rfl rfl (Nat.le_of_ble_eq_true rfl) (by decide) (by decide) rfl rfl rfl hc.1 hc.2.1 ?_
  refine L_m (pc' := 644) C dL_law_643 rfl ?_
  refine L_callV (pc' := 647) (st := [.int r]) (st2 := [.int r, .int r]) (cs2 := cs + mc) (sl2 := sl + ms) C 7 rfl rfl k2 r2 mw_X7_read wq_1337 rfl dL_law_644 rfl rfl (Nat.le_of_ble_eq_true rfl) (by decide) (by decide) rfl (Nat.add_zero _) (Nat.add_zero _) hc.1 hc.2.1 ?_
  refine L_icmp_eq (tgt := 921) C dL_law_647 (by decide) ?_
  exact ih M2 _ _ i2
abbrev LO_item (Inv : Nat → A_M → Nat → Nat → Prop) : Prop := ∀ a1 : Int32, LawI Inv yX6_item cX6_item 2 0 0 yX7_item cX7_item 2 1 25 [.int a1]
set_option maxHeartbeats 4000000 in
theorem lc_item {Y : LX} (C : CL Y) {Inv : Nat → A_M → Nat → Nat → Prop} (hB : InvB Inv) (H : LO_item Inv) {x3 : Int32} {M : A_M} {cs sl z : Nat} (hz : z < 1536) (h1 : vp_in (x3 + 1) (lL Y)) (h2 : vp_in (x3 + 2) (lL Y)) (hI : Inv z M cs sl) (ih : ∀ M cs sl, Inv (z + 1) M cs sl → JL Y 921 x3 [] M cs sl) : JL Y 652 x3 [] M cs sl := by
  obtain ⟨r, M1, M2, mc, ms, r1, r2, k1, k2, i2⟩ := H (lxs Y (x3 + 1).toNatClampNeg) z M cs sl hz hI
  have hc := hB _ _ _ _ i2
  refine L_x (pc' := 653) C dL_law_652 rfl ?_
  refine L_sld (pc' := 658) (v := 1) C h1 dL_law_653 rfl dL_law_654 rfl dL_law_655 rfl (by decide) dL_law_656 rfl dL_law_657 rfl ?_
  refine L_callV (pc' := 661) (st := []) (st2 := [.int r]) (cs2 := cs + mc) (sl2 := sl + ms) C 6 rfl rfl k1 r1 mw_X6_item wq_704 rfl dL_law_658 rfl rfl (Nat.le_of_ble_eq_true rfl) (by decide) (by decide) rfl rfl rfl hc.1 hc.2.1 ?_
  refine L_m (pc' := 662) C dL_law_661 rfl ?_
  refine L_sld (pc' := 667) (v := 1) C h1 dL_law_662 rfl dL_law_663 rfl dL_law_664 rfl (by decide) dL_law_665 rfl dL_law_666 rfl ?_
  refine L_callV (pc' := 670) (st := [.int r]) (st2 := [.int r, .int r]) (cs2 := cs + mc) (sl2 := sl + ms) C 7 rfl rfl k2 r2 mw_X7_item wq_1345 rfl dL_law_667 rfl rfl (Nat.le_of_ble_eq_true rfl) (by decide) (by decide) rfl (Nat.add_zero _) (Nat.add_zero _) hc.1 hc.2.1 ?_
  refine L_icmp_eq (tgt := 921) C dL_law_670 (by decide) ?_
  exact ih M2 _ _ i2
abbrev LO_grow (Inv : Nat → A_M → Nat → Nat → Prop) : Prop := LawI Inv yX6_grow cX6_grow 1 101 3022 yX7_grow cX7_grow 2 6 172 []
set_option maxHeartbeats 4000000 in
theorem lc_grow {Y : LX} (C : CL Y) {Inv : Nat → A_M → Nat → Nat → Prop} (hB : InvB Inv) (H : LO_grow Inv) {x3 : Int32} {M : A_M} {cs sl z : Nat} (hz : z < 1536) (h1 : vp_in (x3 + 1) (lL Y)) (h2 : vp_in (x3 + 2) (lL Y)) (hI : Inv z M cs sl) (ih : ∀ M cs sl, Inv (z + 1) M cs sl → JL Y 921 x3 [] M cs sl) : JL Y 675 x3 [] M cs sl := by
  obtain ⟨r, M1, M2, mc, ms, r1, r2, k1, k2, i2⟩ := H z M cs sl hz hI
  have hc := hB _ _ _ _ i2
  refine L_x (pc' := 676) C dL_law_675 rfl ?_
  refine L_callV (pc' := 679) (st := []) (st2 := [.int r]) (cs2 := cs + mc) (sl2 := sl + ms) C 6 rfl rfl k1 r1 mw_X6_grow wq_708 rfl dL_law_676 rfl rfl (Nat.le_of_ble_eq_true rfl) (by decide) (by decide) rfl rfl rfl hc.1 hc.2.1 ?_
  refine L_m (pc' := 680) C dL_law_679 rfl ?_
  refine L_callV (pc' := 683) (st := [.int r]) (st2 := [.int r, .int r]) (cs2 := cs + mc) (sl2 := sl + ms) C 7 rfl rfl k2 r2 mw_X7_grow wq_1349 rfl dL_law_680 rfl rfl (Nat.le_of_ble_eq_true rfl) (by decide) (by decide) rfl (Nat.add_zero _) (Nat.add_zero _) hc.1 hc.2.1 ?_
  refine L_icmp_eq (tgt := 921) C dL_law_683 (by decide) ?_
  exact ih M2 _ _ i2
abbrev LO_send (Inv : Nat → A_M → Nat → Nat → Prop) : Prop := ∀ a1 : Int32, LawI Inv yX6_send cX6_send 2 101 3022 yX7_send cX7_send 2 6 172 [.int a1]
set_option maxHeartbeats 4000000 in
theorem lc_send {Y : LX} (C : CL Y) {Inv : Nat → A_M → Nat → Nat → Prop} (hB : InvB Inv) (H : LO_send Inv) {x3 : Int32} {M : A_M} {cs sl z : Nat} (hz : z < 1536) (h1 : vp_in (x3 + 1) (lL Y)) (h2 : vp_in (x3 + 2) (lL Y)) (hI : Inv z M cs sl) (ih : ∀ M cs sl, Inv (z + 1) M cs sl → JL Y 921 x3 [] M cs sl) : JL Y 688 x3 [] M cs sl := by
  obtain ⟨r, M1, M2, mc, ms, r1, r2, k1, k2, i2⟩ := H (lxs Y (x3 + 1).toNatClampNeg) z M cs sl hz hI
  have hc := hB _ _ _ _ i2
  refine L_x (pc' := 689) C dL_law_688 rfl ?_
  refine L_sld (pc' := 694) (v := 1) C h1 dL_law_689 rfl dL_law_690 rfl dL_law_691 rfl (by decide) dL_law_692 rfl dL_law_693 rfl ?_
  refine L_callV (pc' := 697) (st := []) (st2 := [.int r]) (cs2 := cs + mc) (sl2 := sl + ms) C 6 rfl rfl k1 r1 mw_X6_send wq_713 rfl dL_law_694 rfl rfl (Nat.le_of_ble_eq_true rfl) (by decide) (by decide) rfl rfl rfl hc.1 hc.2.1 ?_
  refine L_m (pc' := 698) C dL_law_697 rfl ?_
  refine L_sld (pc' := 703) (v := 1) C h1 dL_law_698 rfl dL_law_699 rfl dL_law_700 rfl (by decide) dL_law_701 rfl dL_law_702 rfl ?_
  refine L_callV (pc' := 706) (st := [.int r]) (st2 := [.int r, .int r]) (cs2 := cs + mc) (sl2 := sl + ms) C 7 rfl rfl k2 r2 mw_X7_send wq_1353 rfl dL_law_703 rfl rfl (Nat.le_of_ble_eq_true rfl) (by decide) (by decide) rfl (Nat.add_zero _) (Nat.add_zero _) hc.1 hc.2.1 ?_
  refine L_icmp_eq (tgt := 921) C dL_law_706 (by decide) ?_
  exact ih M2 _ _ i2
abbrev LO_hear (Inv : Nat → A_M → Nat → Nat → Prop) : Prop := LawI Inv yX6_hear cX6_hear 3 101 3022 yX7_hear cX7_hear 5 6 172 []
set_option maxHeartbeats 4000000 in
theorem lc_hear {Y : LX} (C : CL Y) {Inv : Nat → A_M → Nat → Nat → Prop} (hB : InvB Inv) (H : LO_hear Inv) {x3 : Int32} {M : A_M} {cs sl z : Nat} (hz : z < 1536) (h1 : vp_in (x3 + 1) (lL Y)) (h2 : vp_in (x3 + 2) (lL Y)) (hI : Inv z M cs sl) (ih : ∀ M cs sl, Inv (z + 1) M cs sl → JL Y 921 x3 [] M cs sl) : JL Y 711 x3 [] M cs sl := by
  obtain ⟨r, M1, M2, mc, ms, r1, r2, k1, k2, i2⟩ := H z M cs sl hz hI
  have hc := hB _ _ _ _ i2
  refine L_x (pc' := 712) C dL_law_711 rfl ?_
  refine L_callV (pc' := 715) (st := []) (st2 := [.int r]) (cs2 := cs + mc) (sl2 := sl + ms) C 6 rfl rfl k1 r1 mw_X6_hear wq_721 rfl dL_law_712 rfl rfl (Nat.le_of_ble_eq_true rfl) (by decide) (by decide) rfl rfl rfl hc.1 hc.2.1 ?_
  refine L_m (pc' := 716) C dL_law_715 rfl ?_
  refine L_callV (pc' := 719) (st := [.int r]) (st2 := [.int r, .int r]) (cs2 := cs + mc) (sl2 := sl + ms) C 7 rfl rfl k2 r2 mw_X7_hear wq_1357 rfl dL_law_716 rfl rfl (Nat.le_of_ble_eq_true rfl) (by decide) (by decide) rfl (Nat.add_zero _) (Nat.add_zero _) hc.1 hc.2.1 ?_
  refine L_icmp_eq (tgt := 921) C dL_law_719 (by decide) ?_
  exact ih M2 _ _ i2
abbrev LO_grown (Inv : Nat → A_M → Nat → Nat → Prop) : Prop := ∀ a1 : Int32, LawI Inv yX6_grown cX6_grown 2 2 40 yX7_grown cX7_grown 2 2 46 [.int a1]
set_option maxHeartbeats 4000000 in
theorem lc_grown {Y : LX} (C : CL Y) {Inv : Nat → A_M → Nat → Nat → Prop} (hB : InvB Inv) (H : LO_grown Inv) {x3 : Int32} {M : A_M} {cs sl z : Nat} (hz : z < 1536) (h1 : vp_in (x3 + 1) (lL Y)) (h2 : vp_in (x3 + 2) (lL Y)) (hI : Inv z M cs sl) (ih : ∀ M cs sl, Inv (z + 1) M cs sl → JL Y 921 x3 [] M cs sl) : JL Y 724 x3 [] M cs sl := by
  obtain ⟨r, M1, M2, mc, ms, r1, r2, k1, k2, i2⟩ := H (lxs Y (x3 + 1).toNatClampNeg) z M cs sl hz hI
  have hc := hB _ _ _ _ i2
  refine L_x (pc' := 725) C dL_law_724 rfl ?_
  refine L_sld (pc' := 730) (v := 1) C h1 dL_law_725 rfl dL_law_726 rfl dL_law_727 rfl (by decide) dL_law_728 rfl dL_law_729 rfl ?_
  refine L_callV (pc' := 733) (st := []) (st2 := [.int r]) (cs2 := cs + mc) (sl2 := sl + ms) C 6 rfl rfl k1 r1 mw_X6_grown wq_725 rfl dL_law_730 rfl rfl (Nat.le_of_ble_eq_true rfl) (by decide) (by decide) rfl rfl rfl hc.1 hc.2.1 ?_
  refine L_m (pc' := 734) C dL_law_733 rfl ?_
  refine L_sld (pc' := 739) (v := 1) C h1 dL_law_734 rfl dL_law_735 rfl dL_law_736 rfl (by decide) dL_law_737 rfl dL_law_738 rfl ?_
  refine L_callV (pc' := 742) (st := [.int r]) (st2 := [.int r, .int r]) (cs2 := cs + mc) (sl2 := sl + ms) C 7 rfl rfl k2 r2 mw_X7_grown wq_1361 rfl dL_law_739 rfl rfl (Nat.le_of_ble_eq_true rfl) (by decide) (by decide) rfl (Nat.add_zero _) (Nat.add_zero _) hc.1 hc.2.1 ?_
  refine L_icmp_eq (tgt := 921) C dL_law_742 (by decide) ?_
  exact ih M2 _ _ i2
abbrev LO_step (Inv : Nat → A_M → Nat → Nat → Prop) : Prop := LawI Inv yX6_step cX6_step 1 5 110 yX7_step cX7_step 3 4 96 []
set_option maxHeartbeats 4000000 in
theorem lc_step {Y : LX} (C : CL Y) {Inv : Nat → A_M → Nat → Nat → Prop} (hB : InvB Inv) (H : LO_step Inv) {x3 : Int32} {M : A_M} {cs sl z : Nat} (hz : z < 1536) (h1 : vp_in (x3 + 1) (lL Y)) (h2 : vp_in (x3 + 2) (lL Y)) (hI : Inv z M cs sl) (ih : ∀ M cs sl, Inv (z + 1) M cs sl → JL Y 921 x3 [] M cs sl) : JL Y 747 x3 [] M cs sl := by
  obtain ⟨r, M1, M2, mc, ms, r1, r2, k1, k2, i2⟩ := H z M cs sl hz hI
  have hc := hB _ _ _ _ i2
  refine L_x (pc' := 748) C dL_law_747 rfl ?_
  refine L_callV (pc' := 751) (st := []) (st2 := [.int r]) (cs2 := cs + mc) (sl2 := sl + ms) C 6 rfl rfl k1 r1 mw_X6_step wq_729 rfl dL_law_748 rfl rfl (Nat.le_of_ble_eq_true rfl) (by decide) (by decide) rfl rfl rfl hc.1 hc.2.1 ?_
  refine L_m (pc' := 752) C dL_law_751 rfl ?_
  refine L_callV (pc' := 755) (st := [.int r]) (st2 := [.int r, .int r]) (cs2 := cs + mc) (sl2 := sl + ms) C 7 rfl rfl k2 r2 mw_X7_step wq_1365 rfl dL_law_752 rfl rfl (Nat.le_of_ble_eq_true rfl) (by decide) (by decide) rfl (Nat.add_zero _) (Nat.add_zero _) hc.1 hc.2.1 ?_
  refine L_icmp_eq (tgt := 921) C dL_law_755 (by decide) ?_
  exact ih M2 _ _ i2
abbrev LO_stepSign (Inv : Nat → A_M → Nat → Nat → Prop) : Prop := ∀ a1 : Int32, LawI Inv yX6_stepSign cX6_stepSign 2 1 23 yX7_stepSign cX7_stepSign 2 1 25 [.int a1]
set_option maxHeartbeats 4000000 in
theorem lc_stepSign {Y : LX} (C : CL Y) {Inv : Nat → A_M → Nat → Nat → Prop} (hB : InvB Inv) (H : LO_stepSign Inv) {x3 : Int32} {M : A_M} {cs sl z : Nat} (hz : z < 1536) (h1 : vp_in (x3 + 1) (lL Y)) (h2 : vp_in (x3 + 2) (lL Y)) (hI : Inv z M cs sl) (ih : ∀ M cs sl, Inv (z + 1) M cs sl → JL Y 921 x3 [] M cs sl) : JL Y 760 x3 [] M cs sl := by
  obtain ⟨r, M1, M2, mc, ms, r1, r2, k1, k2, i2⟩ := H (lxs Y (x3 + 1).toNatClampNeg) z M cs sl hz hI
  have hc := hB _ _ _ _ i2
  refine L_x (pc' := 761) C dL_law_760 rfl ?_
  refine L_sld (pc' := 766) (v := 1) C h1 dL_law_761 rfl dL_law_762 rfl dL_law_763 rfl (by decide) dL_law_764 rfl dL_law_765 rfl ?_
  refine L_callV (pc' := 769) (st := []) (st2 := [.int r]) (cs2 := cs + mc) (sl2 := sl + ms) C 6 rfl rfl k1 r1 mw_X6_stepSign wq_820 rfl dL_law_766 rfl rfl (Nat.le_of_ble_eq_true rfl) (by decide) (by decide) rfl rfl rfl hc.1 hc.2.1 ?_
  refine L_m (pc' := 770) C dL_law_769 rfl ?_
  refine L_sld (pc' := 775) (v := 1) C h1 dL_law_770 rfl dL_law_771 rfl dL_law_772 rfl (by decide) dL_law_773 rfl dL_law_774 rfl ?_
  refine L_callV (pc' := 778) (st := [.int r]) (st2 := [.int r, .int r]) (cs2 := cs + mc) (sl2 := sl + ms) C 7 rfl rfl k2 r2 mw_X7_stepSign wq_1389 rfl dL_law_775 rfl rfl (Nat.le_of_ble_eq_true rfl) (by decide) (by decide) rfl (Nat.add_zero _) (Nat.add_zero _) hc.1 hc.2.1 ?_
  refine L_icmp_eq (tgt := 921) C dL_law_778 (by decide) ?_
  exact ih M2 _ _ i2
abbrev LO_keep (Inv : Nat → A_M → Nat → Nat → Prop) : Prop := ∀ a1 : Int32, LawI Inv yX6_keep cX6_keep 2 2 51 yX7_keep cX7_keep 3 1 25 [.int a1]
set_option maxHeartbeats 4000000 in
theorem lc_keep {Y : LX} (C : CL Y) {Inv : Nat → A_M → Nat → Nat → Prop} (hB : InvB Inv) (H : LO_keep Inv) {x3 : Int32} {M : A_M} {cs sl z : Nat} (hz : z < 1536) (h1 : vp_in (x3 + 1) (lL Y)) (h2 : vp_in (x3 + 2) (lL Y)) (hI : Inv z M cs sl) (ih : ∀ M cs sl, Inv (z + 1) M cs sl → JL Y 921 x3 [] M cs sl) : JL Y 783 x3 [] M cs sl := by
  obtain ⟨r, M1, M2, mc, ms, r1, r2, k1, k2, i2⟩ := H (lxs Y (x3 + 1).toNatClampNeg) z M cs sl hz hI
  have hc := hB _ _ _ _ i2
  refine L_x (pc' := 784) C dL_law_783 rfl ?_
  refine L_sld (pc' := 789) (v := 1) C h1 dL_law_784 rfl dL_law_785 rfl dL_law_786 rfl (by decide) dL_law_787 rfl dL_law_788 rfl ?_
  refine L_callV (pc' := 792) (st := []) (st2 := [.int r]) (cs2 := cs + mc) (sl2 := sl + ms) C 6 rfl rfl k1 r1 mw_X6_keep wq_828 rfl dL_law_789 rfl rfl (Nat.le_of_ble_eq_true rfl) (by decide) (by decide) rfl rfl rfl hc.1 hc.2.1 ?_
  refine L_m (pc' := 793) C dL_law_792 rfl ?_
  refine L_sld (pc' := 798) (v := 1) C h1 dL_law_793 rfl dL_law_794 rfl dL_law_795 rfl (by decide) dL_law_796 rfl dL_law_797 rfl ?_
  refine L_callV (pc' := 801) (st := [.int r]) (st2 := [.int r, .int r]) (cs2 := cs + mc) (sl2 := sl + ms) C 7 rfl rfl k2 r2 mw_X7_keep wq_1393 rfl dL_law_798 rfl rfl (Nat.le_of_ble_eq_true rfl) (by decide) (by decide) rfl (Nat.add_zero _) (Nat.add_zero _) hc.1 hc.2.1 ?_
  refine L_icmp_eq (tgt := 921) C dL_law_801 (by decide) ?_
  exact ih M2 _ _ i2
abbrev LO_back (Inv : Nat → A_M → Nat → Nat → Prop) : Prop := ∀ a1 : Int32, LawI Inv yX6_back cX6_back 2 3 72 yX7_back cX7_back 3 1 25 [.int a1]
set_option maxHeartbeats 4000000 in
theorem lc_back {Y : LX} (C : CL Y) {Inv : Nat → A_M → Nat → Nat → Prop} (hB : InvB Inv) (H : LO_back Inv) {x3 : Int32} {M : A_M} {cs sl z : Nat} (hz : z < 1536) (h1 : vp_in (x3 + 1) (lL Y)) (h2 : vp_in (x3 + 2) (lL Y)) (hI : Inv z M cs sl) (ih : ∀ M cs sl, Inv (z + 1) M cs sl → JL Y 921 x3 [] M cs sl) : JL Y 806 x3 [] M cs sl := by
  obtain ⟨r, M1, M2, mc, ms, r1, r2, k1, k2, i2⟩ := H (lxs Y (x3 + 1).toNatClampNeg) z M cs sl hz hI
  have hc := hB _ _ _ _ i2
  refine L_x (pc' := 807) C dL_law_806 rfl ?_
  refine L_sld (pc' := 812) (v := 1) C h1 dL_law_807 rfl dL_law_808 rfl dL_law_809 rfl (by decide) dL_law_810 rfl dL_law_811 rfl ?_
  refine L_callV (pc' := 815) (st := []) (st2 := [.int r]) (cs2 := cs + mc) (sl2 := sl + ms) C 6 rfl rfl k1 r1 mw_X6_back wq_835 rfl dL_law_812 rfl rfl (Nat.le_of_ble_eq_true rfl) (by decide) (by decide) rfl rfl rfl hc.1 hc.2.1 ?_
  refine L_m (pc' := 816) C dL_law_815 rfl ?_
  refine L_sld (pc' := 821) (v := 1) C h1 dL_law_816 rfl dL_law_817 rfl dL_law_818 rfl (by decide) dL_law_819 rfl dL_law_820 rfl ?_
  refine L_callV (pc' := 824) (st := [.int r]) (st2 := [.int r, .int r]) (cs2 := cs + mc) (sl2 := sl + ms) C 7 rfl rfl k2 r2 mw_X7_back wq_1398 rfl dL_law_821 rfl rfl (Nat.le_of_ble_eq_true rfl) (by decide) (by decide) rfl (Nat.add_zero _) (Nat.add_zero _) hc.1 hc.2.1 ?_
  refine L_icmp_eq (tgt := 921) C dL_law_824 (by decide) ?_
  exact ih M2 _ _ i2
abbrev LO_differs (Inv : Nat → A_M → Nat → Nat → Prop) : Prop := ∀ a1 : Int32, LawI Inv yX6_differs cX6_differs 4 2 41 yX7_differs cX7_differs 3 1 25 [.int a1]
set_option maxHeartbeats 4000000 in
theorem lc_differs {Y : LX} (C : CL Y) {Inv : Nat → A_M → Nat → Nat → Prop} (hB : InvB Inv) (H : LO_differs Inv) {x3 : Int32} {M : A_M} {cs sl z : Nat} (hz : z < 1536) (h1 : vp_in (x3 + 1) (lL Y)) (h2 : vp_in (x3 + 2) (lL Y)) (hI : Inv z M cs sl) (ih : ∀ M cs sl, Inv (z + 1) M cs sl → JL Y 921 x3 [] M cs sl) : JL Y 829 x3 [] M cs sl := by
  obtain ⟨r, M1, M2, mc, ms, r1, r2, k1, k2, i2⟩ := H (lxs Y (x3 + 1).toNatClampNeg) z M cs sl hz hI
  have hc := hB _ _ _ _ i2
  refine L_x (pc' := 830) C dL_law_829 rfl ?_
  refine L_sld (pc' := 835) (v := 1) C h1 dL_law_830 rfl dL_law_831 rfl dL_law_832 rfl (by decide) dL_law_833 rfl dL_law_834 rfl ?_
  refine L_callV (pc' := 838) (st := []) (st2 := [.int r]) (cs2 := cs + mc) (sl2 := sl + ms) C 6 rfl rfl k1 r1 mw_X6_differs wq_843 rfl dL_law_835 rfl rfl (Nat.le_of_ble_eq_true rfl) (by decide) (by decide) rfl rfl rfl hc.1 hc.2.1 ?_
  refine L_m (pc' := 839) C dL_law_838 rfl ?_
  refine L_sld (pc' := 844) (v := 1) C h1 dL_law_839 rfl dL_law_840 rfl dL_law_841 rfl (by decide) dL_law_842 rfl dL_law_843 rfl ?_
  refine L_callV (pc' := 847) (st := [.int r]) (st2 := [.int r, .int r]) (cs2 := cs + mc) (sl2 := sl + ms) C 7 rfl rfl k2 r2 mw_X7_differs wq_1402 rfl dL_law_844 rfl rfl (Nat.le_of_ble_eq_true rfl) (by decide) (by decide) rfl (Nat.add_zero _) (Nat.add_zero _) hc.1 hc.2.1 ?_
  refine L_icmp_eq (tgt := 921) C dL_law_847 (by decide) ?_
  exact ih M2 _ _ i2
abbrev LO_told (Inv : Nat → A_M → Nat → Nat → Prop) : Prop := ∀ a1 : Int32, LawI Inv yX6_told cX6_told 2 5 110 yX7_told cX7_told 4 4 96 [.int a1]
set_option maxHeartbeats 4000000 in
theorem lc_told {Y : LX} (C : CL Y) {Inv : Nat → A_M → Nat → Nat → Prop} (hB : InvB Inv) (H : LO_told Inv) {x3 : Int32} {M : A_M} {cs sl z : Nat} (hz : z < 1536) (h1 : vp_in (x3 + 1) (lL Y)) (h2 : vp_in (x3 + 2) (lL Y)) (hI : Inv z M cs sl) (ih : ∀ M cs sl, Inv (z + 1) M cs sl → JL Y 921 x3 [] M cs sl) : JL Y 852 x3 [] M cs sl := by
  obtain ⟨r, M1, M2, mc, ms, r1, r2, k1, k2, i2⟩ := H (lxs Y (x3 + 1).toNatClampNeg) z M cs sl hz hI
  have hc := hB _ _ _ _ i2
  refine L_x (pc' := 853) C dL_law_852 rfl ?_
  refine L_sld (pc' := 858) (v := 1) C h1 dL_law_853 rfl dL_law_854 rfl dL_law_855 rfl (by decide) dL_law_856 rfl dL_law_857 rfl ?_
  refine L_callV (pc' := 861) (st := []) (st2 := [.int r]) (cs2 := cs + mc) (sl2 := sl + ms) C 6 rfl rfl k1 r1 mw_X6_told wq_847 rfl dL_law_858 rfl rfl (Nat.le_of_ble_eq_true rfl) (by decide) (by decide) rfl rfl rfl hc.1 hc.2.1 ?_
  refine L_m (pc' := 862) C dL_law_861 rfl ?_
  refine L_sld (pc' := 867) (v := 1) C h1 dL_law_862 rfl dL_law_863 rfl dL_law_864 rfl (by decide) dL_law_865 rfl dL_law_866 rfl ?_
  refine L_callV (pc' := 870) (st := [.int r]) (st2 := [.int r, .int r]) (cs2 := cs + mc) (sl2 := sl + ms) C 7 rfl rfl k2 r2 mw_X7_told wq_1406 rfl dL_law_867 rfl rfl (Nat.le_of_ble_eq_true rfl) (by decide) (by decide) rfl (Nat.add_zero _) (Nat.add_zero _) hc.1 hc.2.1 ?_
  refine L_icmp_eq (tgt := 921) C dL_law_870 (by decide) ?_
  exact ih M2 _ _ i2
abbrev LO_price (Inv : Nat → A_M → Nat → Nat → Prop) : Prop := ∀ a1 : Int32, LawI Inv yX6_price cX6_price 2 1 21 yX7_price cX7_price 2 2 46 [.int a1]
set_option maxHeartbeats 4000000 in
theorem lc_price {Y : LX} (C : CL Y) {Inv : Nat → A_M → Nat → Nat → Prop} (hB : InvB Inv) (H : LO_price Inv) {x3 : Int32} {M : A_M} {cs sl z : Nat} (hz : z < 1536) (h1 : vp_in (x3 + 1) (lL Y)) (h2 : vp_in (x3 + 2) (lL Y)) (hI : Inv z M cs sl) (ih : ∀ M cs sl, Inv (z + 1) M cs sl → JL Y 921 x3 [] M cs sl) : JL Y 875 x3 [] M cs sl := by
  obtain ⟨r, M1, M2, mc, ms, r1, r2, k1, k2, i2⟩ := H (lxs Y (x3 + 1).toNatClampNeg) z M cs sl hz hI
  have hc := hB _ _ _ _ i2
  refine L_x (pc' := 876) C dL_law_875 rfl ?_
  refine L_sld (pc' := 881) (v := 1) C h1 dL_law_876 rfl dL_law_877 rfl dL_law_878 rfl (by decide) dL_law_879 rfl dL_law_880 rfl ?_
  refine L_callV (pc' := 884) (st := []) (st2 := [.int r]) (cs2 := cs + mc) (sl2 := sl + ms) C 6 rfl rfl k1 r1 mw_X6_price wq_864 rfl dL_law_881 rfl rfl (Nat.le_of_ble_eq_true rfl) (by decide) (by decide) rfl rfl rfl hc.1 hc.2.1 ?_
  refine L_m (pc' := 885) C dL_law_884 rfl ?_
  refine L_sld (pc' := 890) (v := 1) C h1 dL_law_885 rfl dL_law_886 rfl dL_law_887 rfl (by decide) dL_law_888 rfl dL_law_889 rfl ?_
  refine L_callV (pc' := 893) (st := [.int r]) (st2 := [.int r, .int r]) (cs2 := cs + mc) (sl2 := sl + ms) C 7 rfl rfl k2 r2 mw_X7_price wq_1410 rfl dL_law_890 rfl rfl (Nat.le_of_ble_eq_true rfl) (by decide) (by decide) rfl (Nat.add_zero _) (Nat.add_zero _) hc.1 hc.2.1 ?_
  refine L_icmp_eq (tgt := 921) C dL_law_893 (by decide) ?_
  exact ih M2 _ _ i2
abbrev LO_rank (Inv : Nat → A_M → Nat → Nat → Prop) : Prop := ∀ a1 : Int32, LawI Inv yX6_rank cX6_rank 2 1 24 yX7_rank cX7_rank 2 1 25 [.int a1]
set_option maxHeartbeats 4000000 in
theorem lc_rank {Y : LX} (C : CL Y) {Inv : Nat → A_M → Nat → Nat → Prop} (hB : InvB Inv) (H : LO_rank Inv) {x3 : Int32} {M : A_M} {cs sl z : Nat} (hz : z < 1536) (h1 : vp_in (x3 + 1) (lL Y)) (h2 : vp_in (x3 + 2) (lL Y)) (hI : Inv z M cs sl) (ih : ∀ M cs sl, Inv (z + 1) M cs sl → JL Y 921 x3 [] M cs sl) : JL Y 898 x3 [] M cs sl := by
  obtain ⟨r, M1, M2, mc, ms, r1, r2, k1, k2, i2⟩ := H (lxs Y (x3 + 1).toNatClampNeg) z M cs sl hz hI
  have hc := hB _ _ _ _ i2
  refine L_x (pc' := 899) C dL_law_898 rfl ?_
  refine L_sld (pc' := 904) (v := 1) C h1 dL_law_899 rfl dL_law_900 rfl dL_law_901 rfl (by decide) dL_law_902 rfl dL_law_903 rfl ?_
  refine L_callV (pc' := 907) (st := []) (st2 := [.int r]) (cs2 := cs + mc) (sl2 := sl + ms) C 6 rfl rfl k1 r1 mw_X6_rank wq_868 rfl dL_law_904 rfl rfl (Nat.le_of_ble_eq_true rfl) (by decide) (by decide) rfl rfl rfl hc.1 hc.2.1 ?_
  refine L_m (pc' := 908) C dL_law_907 rfl ?_
  refine L_sld (pc' := 913) (v := 1) C h1 dL_law_908 rfl dL_law_909 rfl dL_law_910 rfl (by decide) dL_law_911 rfl dL_law_912 rfl ?_
  refine L_callV (pc' := 916) (st := [.int r]) (st2 := [.int r, .int r]) (cs2 := cs + mc) (sl2 := sl + ms) C 7 rfl rfl k2 r2 mw_X7_rank wq_1414 rfl dL_law_913 rfl rfl (Nat.le_of_ble_eq_true rfl) (by decide) (by decide) rfl (Nat.add_zero _) (Nat.add_zero _) hc.1 hc.2.1 ?_
  refine L_icmp_eq (tgt := 921) C dL_law_916 (by decide) ?_
  exact ih M2 _ _ i2

/-- the six ints of a call lie in the script -/
def lIn (x : Int32) (Ln : Nat) : Prop := vp_in x Ln ∧ vp_in (x + 1) Ln ∧ vp_in (x + 2) Ln ∧ vp_in (x + 3) Ln ∧ vp_in (x + 4) Ln ∧ vp_in (x + 5) Ln
set_option maxHeartbeats 4000000 in
set_option maxRecDepth 100000 in
theorem lk_0 {l : Launch} {GX GM : gG} {b Ln : Nat} {sc : Nat → Int32} {X : gX} {VX VM : gV} (hGX : gIsX GX) (hGM : gIsM GM) (C : lC GX GM b Ln sc X) {Rel Rel2 : gV → gV → Prop} (hp : ∀ (VX VM : gV) (a0 : Int32), Rel VX VM → gEq Rel2 (fX7_house VX a0) (fX8_house VM a0)) (hR : Rel VX VM) {x3 : Int32} (hin : lIn x3 Ln) (kk : ∀ VX VM, Rel2 VX VM → lSm l GX GM X VX VM 1535 [(0, .ref b), (1, .ref (GX.1 0)), (2, .ref (GM.1 0)), (3, .int x3)] []) : lSm l GX GM X VX VM 212 [(0, .ref b), (1, .ref (GX.1 0)), (2, .ref (GM.1 0)), (3, .int x3)] [] := by
  obtain ⟨r, VX1, VM1, hx, hm, hR1⟩ := hp VX VM (sc (x3 + 1).toNatClampNeg) hR
  refine l_aload_n (q := 213) C 1 dL_law_212 rfl rfl rfl ?_
  refine l_aload_n (q := 214) C 0 dL_law_213 rfl rfl rfl ?_
  refine l_iload_n (q := 215) C 3 dL_law_214 rfl rfl rfl ?_
  refine l_iconst (q := 216) (v := 1) C dL_law_215 rfl (by decide) ?_
  refine l_iadd (q := 217) C dL_law_216 rfl ?_
  refine l_sld (q := 218) C (hin.2.1) dL_law_217 rfl ?_
  refine l_callX (q := 221) (As := [.int (sc (x3 + 1).toNatClampNeg)]) (st := []) C hx (uX7_house l GX hGX VX (sc (x3 + 1).toNatClampNeg)) yvX7_house mlL_13 (s70 hGX) rfl rfl rfl rfl rfl rfl ⟨Nat.le_of_ble_eq_true rfl, Nat.le_of_ble_eq_true rfl⟩ (Nat.le_of_ble_eq_true rfl) dL_law_218 rfl ?_
  refine l_aload_n (q := 222) C 2 dL_law_221 rfl rfl rfl ?_
  refine l_aload_n (q := 223) C 0 dL_law_222 rfl rfl rfl ?_
  refine l_iload_n (q := 224) C 3 dL_law_223 rfl rfl rfl ?_
  refine l_iconst (q := 225) (v := 1) C dL_law_224 rfl (by decide) ?_
  refine l_iadd (q := 226) C dL_law_225 rfl ?_
  refine l_sld (q := 227) C (hin.2.1) dL_law_226 rfl ?_
  refine l_callM (q := 230) (As := [.int (sc (x3 + 1).toNatClampNeg)]) (st := [.int r]) C hm (uX8_house l GM hGM VM (sc (x3 + 1).toNatClampNeg)) yvX8_house mlL_17 (s80 hGM) rfl rfl rfl rfl rfl rfl ⟨Nat.le_of_ble_eq_true rfl, Nat.le_of_ble_eq_true rfl⟩ (Nat.le_of_ble_eq_true rfl) dL_law_227 rfl ?_
  refine l_eq (q := 1535) C dL_law_230 (by decide) ?_
  exact kk VX1 VM1 hR1
set_option maxHeartbeats 4000000 in
set_option maxRecDepth 100000 in
theorem lk_1 {l : Launch} {GX GM : gG} {b Ln : Nat} {sc : Nat → Int32} {X : gX} {VX VM : gV} (hGX : gIsX GX) (hGM : gIsM GM) (C : lC GX GM b Ln sc X) {Rel Rel2 : gV → gV → Prop} (hp : ∀ (VX VM : gV) (a0 : Int32) (a1 : Int32), Rel VX VM → gEq Rel2 (fX7_ofHouse VX a0 a1) (fX8_ofHouse VM a0 a1)) (hR : Rel VX VM) {x3 : Int32} (hin : lIn x3 Ln) (kk : ∀ VX VM, Rel2 VX VM → lSm l GX GM X VX VM 1535 [(0, .ref b), (1, .ref (GX.1 0)), (2, .ref (GM.1 0)), (3, .int x3)] []) : lSm l GX GM X VX VM 235 [(0, .ref b), (1, .ref (GX.1 0)), (2, .ref (GM.1 0)), (3, .int x3)] [] := by
  obtain ⟨r, VX1, VM1, hx, hm, hR1⟩ := hp VX VM (sc (x3 + 1).toNatClampNeg) (sc (x3 + 2).toNatClampNeg) hR
  refine l_aload_n (q := 236) C 1 dL_law_235 rfl rfl rfl ?_
  refine l_aload_n (q := 237) C 0 dL_law_236 rfl rfl rfl ?_
  refine l_iload_n (q := 238) C 3 dL_law_237 rfl rfl rfl ?_
  refine l_iconst (q := 239) (v := 1) C dL_law_238 rfl (by decide) ?_
  refine l_iadd (q := 240) C dL_law_239 rfl ?_
  refine l_sld (q := 241) C (hin.2.1) dL_law_240 rfl ?_
  refine l_aload_n (q := 242) C 0 dL_law_241 rfl rfl rfl ?_
  refine l_iload_n (q := 243) C 3 dL_law_242 rfl rfl rfl ?_
  refine l_iconst (q := 244) (v := 2) C dL_law_243 rfl (by decide) ?_
  refine l_iadd (q := 245) C dL_law_244 rfl ?_
  refine l_sld (q := 246) C (hin.2.2.1) dL_law_245 rfl ?_
  refine l_callX (q := 249) (As := [.int (sc (x3 + 1).toNatClampNeg), .int (sc (x3 + 2).toNatClampNeg)]) (st := []) C hx (uX7_ofHouse l GX hGX VX (sc (x3 + 1).toNatClampNeg) (sc (x3 + 2).toNatClampNeg)) yvX7_ofHouse mlL_18 (s70 hGX) rfl rfl rfl rfl rfl rfl ⟨Nat.le_of_ble_eq_true rfl, Nat.le_of_ble_eq_true rfl⟩ (Nat.le_of_ble_eq_true rfl) dL_law_246 rfl ?_
  refine l_aload_n (q := 250) C 2 dL_law_249 rfl rfl rfl ?_
  refine l_aload_n (q := 251) C 0 dL_law_250 rfl rfl rfl ?_
  refine l_iload_n (q := 252) C 3 dL_law_251 rfl rfl rfl ?_
  refine l_iconst (q := 253) (v := 1) C dL_law_252 rfl (by decide) ?_
  refine l_iadd (q := 254) C dL_law_253 rfl ?_
  refine l_sld (q := 255) C (hin.2.1) dL_law_254 rfl ?_
  refine l_aload_n (q := 256) C 0 dL_law_255 rfl rfl rfl ?_
  refine l_iload_n (q := 257) C 3 dL_law_256 rfl rfl rfl ?_
  refine l_iconst (q := 258) (v := 2) C dL_law_257 rfl (by decide) ?_
  refine l_iadd (q := 259) C dL_law_258 rfl ?_
  refine l_sld (q := 260) C (hin.2.2.1) dL_law_259 rfl ?_
  refine l_callM (q := 263) (As := [.int (sc (x3 + 1).toNatClampNeg), .int (sc (x3 + 2).toNatClampNeg)]) (st := [.int r]) C hm (uX8_ofHouse l GM hGM VM (sc (x3 + 1).toNatClampNeg) (sc (x3 + 2).toNatClampNeg)) yvX8_ofHouse mlL_22 (s80 hGM) rfl rfl rfl rfl rfl rfl ⟨Nat.le_of_ble_eq_true rfl, Nat.le_of_ble_eq_true rfl⟩ (Nat.le_of_ble_eq_true rfl) dL_law_260 rfl ?_
  refine l_eq (q := 1535) C dL_law_263 (by decide) ?_
  exact kk VX1 VM1 hR1
set_option maxHeartbeats 4000000 in
set_option maxRecDepth 100000 in
theorem lk_2 {l : Launch} {GX GM : gG} {b Ln : Nat} {sc : Nat → Int32} {X : gX} {VX VM : gV} (hGX : gIsX GX) (hGM : gIsM GM) (C : lC GX GM b Ln sc X) {Rel Rel2 : gV → gV → Prop} (hp : ∀ (VX VM : gV) (a0 : Int32) (a1 : Int32) (a2 : Int32), Rel VX VM → gEq Rel2 (fX7_change VX a0 a1 a2) (fX8_change VM a0 a1 a2)) (hR : Rel VX VM) {x3 : Int32} (hin : lIn x3 Ln) (kk : ∀ VX VM, Rel2 VX VM → lSm l GX GM X VX VM 1535 [(0, .ref b), (1, .ref (GX.1 0)), (2, .ref (GM.1 0)), (3, .int x3)] []) : lSm l GX GM X VX VM 268 [(0, .ref b), (1, .ref (GX.1 0)), (2, .ref (GM.1 0)), (3, .int x3)] [] := by
  obtain ⟨r, VX1, VM1, hx, hm, hR1⟩ := hp VX VM (sc (x3 + 1).toNatClampNeg) (sc (x3 + 2).toNatClampNeg) (sc (x3 + 3).toNatClampNeg) hR
  refine l_aload_n (q := 269) C 1 dL_law_268 rfl rfl rfl ?_
  refine l_aload_n (q := 270) C 0 dL_law_269 rfl rfl rfl ?_
  refine l_iload_n (q := 271) C 3 dL_law_270 rfl rfl rfl ?_
  refine l_iconst (q := 272) (v := 1) C dL_law_271 rfl (by decide) ?_
  refine l_iadd (q := 273) C dL_law_272 rfl ?_
  refine l_sld (q := 274) C (hin.2.1) dL_law_273 rfl ?_
  refine l_aload_n (q := 275) C 0 dL_law_274 rfl rfl rfl ?_
  refine l_iload_n (q := 276) C 3 dL_law_275 rfl rfl rfl ?_
  refine l_iconst (q := 277) (v := 2) C dL_law_276 rfl (by decide) ?_
  refine l_iadd (q := 278) C dL_law_277 rfl ?_
  refine l_sld (q := 279) C (hin.2.2.1) dL_law_278 rfl ?_
  refine l_aload_n (q := 280) C 0 dL_law_279 rfl rfl rfl ?_
  refine l_iload_n (q := 281) C 3 dL_law_280 rfl rfl rfl ?_
  refine l_iconst (q := 282) (v := 3) C dL_law_281 rfl (by decide) ?_
  refine l_iadd (q := 283) C dL_law_282 rfl ?_
  refine l_sld (q := 284) C (hin.2.2.2.1) dL_law_283 rfl ?_
  refine l_callX (q := 287) (As := [.int (sc (x3 + 1).toNatClampNeg), .int (sc (x3 + 2).toNatClampNeg), .int (sc (x3 + 3).toNatClampNeg)]) (st := []) C hx (uX7_change l GX hGX VX (sc (x3 + 1).toNatClampNeg) (sc (x3 + 2).toNatClampNeg) (sc (x3 + 3).toNatClampNeg)) yvX7_change mlL_23 (s70 hGX) rfl rfl rfl rfl rfl rfl ⟨Nat.le_of_ble_eq_true rfl, Nat.le_of_ble_eq_true rfl⟩ (Nat.le_of_ble_eq_true rfl) dL_law_284 rfl ?_
  refine l_aload_n (q := 288) C 2 dL_law_287 rfl rfl rfl ?_
  refine l_aload_n (q := 289) C 0 dL_law_288 rfl rfl rfl ?_
  refine l_iload_n (q := 290) C 3 dL_law_289 rfl rfl rfl ?_
  refine l_iconst (q := 291) (v := 1) C dL_law_290 rfl (by decide) ?_
  refine l_iadd (q := 292) C dL_law_291 rfl ?_
  refine l_sld (q := 293) C (hin.2.1) dL_law_292 rfl ?_
  refine l_aload_n (q := 294) C 0 dL_law_293 rfl rfl rfl ?_
  refine l_iload_n (q := 295) C 3 dL_law_294 rfl rfl rfl ?_
  refine l_iconst (q := 296) (v := 2) C dL_law_295 rfl (by decide) ?_
  refine l_iadd (q := 297) C dL_law_296 rfl ?_
  refine l_sld (q := 298) C (hin.2.2.1) dL_law_297 rfl ?_
  refine l_aload_n (q := 299) C 0 dL_law_298 rfl rfl rfl ?_
  refine l_iload_n (q := 300) C 3 dL_law_299 rfl rfl rfl ?_
  refine l_iconst (q := 301) (v := 3) C dL_law_300 rfl (by decide) ?_
  refine l_iadd (q := 302) C dL_law_301 rfl ?_
  refine l_sld (q := 303) C (hin.2.2.2.1) dL_law_302 rfl ?_
  refine l_callM (q := 306) (As := [.int (sc (x3 + 1).toNatClampNeg), .int (sc (x3 + 2).toNatClampNeg), .int (sc (x3 + 3).toNatClampNeg)]) (st := [.int r]) C hm (uX8_change l GM hGM VM (sc (x3 + 1).toNatClampNeg) (sc (x3 + 2).toNatClampNeg) (sc (x3 + 3).toNatClampNeg)) yvX8_change mlL_27 (s80 hGM) rfl rfl rfl rfl rfl rfl ⟨Nat.le_of_ble_eq_true rfl, Nat.le_of_ble_eq_true rfl⟩ (Nat.le_of_ble_eq_true rfl) dL_law_303 rfl ?_
  refine l_eq (q := 1535) C dL_law_306 (by decide) ?_
  exact kk VX1 VM1 hR1
set_option maxHeartbeats 4000000 in
set_option maxRecDepth 100000 in
theorem lk_3 {l : Launch} {GX GM : gG} {b Ln : Nat} {sc : Nat → Int32} {X : gX} {VX VM : gV} (hGX : gIsX GX) (hGM : gIsM GM) (C : lC GX GM b Ln sc X) {Rel Rel2 : gV → gV → Prop} (hp : ∀ (VX VM : gV) (a0 : Int32) (a1 : Int32), Rel VX VM → gEq Rel2 (fX7_cake VX a0 a1) (fX8_cake VM a0 a1)) (hR : Rel VX VM) {x3 : Int32} (hin : lIn x3 Ln) (kk : ∀ VX VM, Rel2 VX VM → lSm l GX GM X VX VM 1535 [(0, .ref b), (1, .ref (GX.1 0)), (2, .ref (GM.1 0)), (3, .int x3)] []) : lSm l GX GM X VX VM 311 [(0, .ref b), (1, .ref (GX.1 0)), (2, .ref (GM.1 0)), (3, .int x3)] [] := by
  obtain ⟨r, VX1, VM1, hx, hm, hR1⟩ := hp VX VM (sc (x3 + 1).toNatClampNeg) (sc (x3 + 2).toNatClampNeg) hR
  refine l_aload_n (q := 312) C 1 dL_law_311 rfl rfl rfl ?_
  refine l_aload_n (q := 313) C 0 dL_law_312 rfl rfl rfl ?_
  refine l_iload_n (q := 314) C 3 dL_law_313 rfl rfl rfl ?_
  refine l_iconst (q := 315) (v := 1) C dL_law_314 rfl (by decide) ?_
  refine l_iadd (q := 316) C dL_law_315 rfl ?_
  refine l_sld (q := 317) C (hin.2.1) dL_law_316 rfl ?_
  refine l_aload_n (q := 318) C 0 dL_law_317 rfl rfl rfl ?_
  refine l_iload_n (q := 319) C 3 dL_law_318 rfl rfl rfl ?_
  refine l_iconst (q := 320) (v := 2) C dL_law_319 rfl (by decide) ?_
  refine l_iadd (q := 321) C dL_law_320 rfl ?_
  refine l_sld (q := 322) C (hin.2.2.1) dL_law_321 rfl ?_
  refine l_callX (q := 325) (As := [.int (sc (x3 + 1).toNatClampNeg), .int (sc (x3 + 2).toNatClampNeg)]) (st := []) C hx (uX7_cake l GX hGX VX (sc (x3 + 1).toNatClampNeg) (sc (x3 + 2).toNatClampNeg)) yvX7_cake mlL_28 (s70 hGX) rfl rfl rfl rfl rfl rfl ⟨Nat.le_of_ble_eq_true rfl, Nat.le_of_ble_eq_true rfl⟩ (Nat.le_of_ble_eq_true rfl) dL_law_322 rfl ?_
  refine l_aload_n (q := 326) C 2 dL_law_325 rfl rfl rfl ?_
  refine l_aload_n (q := 327) C 0 dL_law_326 rfl rfl rfl ?_
  refine l_iload_n (q := 328) C 3 dL_law_327 rfl rfl rfl ?_
  refine l_iconst (q := 329) (v := 1) C dL_law_328 rfl (by decide) ?_
  refine l_iadd (q := 330) C dL_law_329 rfl ?_
  refine l_sld (q := 331) C (hin.2.1) dL_law_330 rfl ?_
  refine l_aload_n (q := 332) C 0 dL_law_331 rfl rfl rfl ?_
  refine l_iload_n (q := 333) C 3 dL_law_332 rfl rfl rfl ?_
  refine l_iconst (q := 334) (v := 2) C dL_law_333 rfl (by decide) ?_
  refine l_iadd (q := 335) C dL_law_334 rfl ?_
  refine l_sld (q := 336) C (hin.2.2.1) dL_law_335 rfl ?_
  refine l_callM (q := 339) (As := [.int (sc (x3 + 1).toNatClampNeg), .int (sc (x3 + 2).toNatClampNeg)]) (st := [.int r]) C hm (uX8_cake l GM hGM VM (sc (x3 + 1).toNatClampNeg) (sc (x3 + 2).toNatClampNeg)) yvX8_cake mlL_31 (s80 hGM) rfl rfl rfl rfl rfl rfl ⟨Nat.le_of_ble_eq_true rfl, Nat.le_of_ble_eq_true rfl⟩ (Nat.le_of_ble_eq_true rfl) dL_law_336 rfl ?_
  refine l_eq (q := 1535) C dL_law_339 (by decide) ?_
  exact kk VX1 VM1 hR1
set_option maxHeartbeats 4000000 in
set_option maxRecDepth 100000 in
theorem lk_4 {l : Launch} {GX GM : gG} {b Ln : Nat} {sc : Nat → Int32} {X : gX} {VX VM : gV} (hGX : gIsX GX) (hGM : gIsM GM) (C : lC GX GM b Ln sc X) {Rel Rel2 : gV → gV → Prop} (hp : ∀ (VX VM : gV) (a0 : Int32) (a1 : Int32), Rel VX VM → gEq Rel2 (fX7_ofCake VX a0 a1) (fX8_ofCake VM a0 a1)) (hR : Rel VX VM) {x3 : Int32} (hin : lIn x3 Ln) (kk : ∀ VX VM, Rel2 VX VM → lSm l GX GM X VX VM 1535 [(0, .ref b), (1, .ref (GX.1 0)), (2, .ref (GM.1 0)), (3, .int x3)] []) : lSm l GX GM X VX VM 344 [(0, .ref b), (1, .ref (GX.1 0)), (2, .ref (GM.1 0)), (3, .int x3)] [] := by
  obtain ⟨r, VX1, VM1, hx, hm, hR1⟩ := hp VX VM (sc (x3 + 1).toNatClampNeg) (sc (x3 + 2).toNatClampNeg) hR
  refine l_aload_n (q := 345) C 1 dL_law_344 rfl rfl rfl ?_
  refine l_aload_n (q := 346) C 0 dL_law_345 rfl rfl rfl ?_
  refine l_iload_n (q := 347) C 3 dL_law_346 rfl rfl rfl ?_
  refine l_iconst (q := 348) (v := 1) C dL_law_347 rfl (by decide) ?_
  refine l_iadd (q := 349) C dL_law_348 rfl ?_
  refine l_sld (q := 350) C (hin.2.1) dL_law_349 rfl ?_
  refine l_aload_n (q := 351) C 0 dL_law_350 rfl rfl rfl ?_
  refine l_iload_n (q := 352) C 3 dL_law_351 rfl rfl rfl ?_
  refine l_iconst (q := 353) (v := 2) C dL_law_352 rfl (by decide) ?_
  refine l_iadd (q := 354) C dL_law_353 rfl ?_
  refine l_sld (q := 355) C (hin.2.2.1) dL_law_354 rfl ?_
  refine l_callX (q := 358) (As := [.int (sc (x3 + 1).toNatClampNeg), .int (sc (x3 + 2).toNatClampNeg)]) (st := []) C hx (uX7_ofCake l GX hGX VX (sc (x3 + 1).toNatClampNeg) (sc (x3 + 2).toNatClampNeg)) yvX7_ofCake mlL_32 (s70 hGX) rfl rfl rfl rfl rfl rfl ⟨Nat.le_of_ble_eq_true rfl, Nat.le_of_ble_eq_true rfl⟩ (Nat.le_of_ble_eq_true rfl) dL_law_355 rfl ?_
  refine l_aload_n (q := 359) C 2 dL_law_358 rfl rfl rfl ?_
  refine l_aload_n (q := 360) C 0 dL_law_359 rfl rfl rfl ?_
  refine l_iload_n (q := 361) C 3 dL_law_360 rfl rfl rfl ?_
  refine l_iconst (q := 362) (v := 1) C dL_law_361 rfl (by decide) ?_
  refine l_iadd (q := 363) C dL_law_362 rfl ?_
  refine l_sld (q := 364) C (hin.2.1) dL_law_363 rfl ?_
  refine l_aload_n (q := 365) C 0 dL_law_364 rfl rfl rfl ?_
  refine l_iload_n (q := 366) C 3 dL_law_365 rfl rfl rfl ?_
  refine l_iconst (q := 367) (v := 2) C dL_law_366 rfl (by decide) ?_
  refine l_iadd (q := 368) C dL_law_367 rfl ?_
  refine l_sld (q := 369) C (hin.2.2.1) dL_law_368 rfl ?_
  refine l_callM (q := 372) (As := [.int (sc (x3 + 1).toNatClampNeg), .int (sc (x3 + 2).toNatClampNeg)]) (st := [.int r]) C hm (uX8_ofCake l GM hGM VM (sc (x3 + 1).toNatClampNeg) (sc (x3 + 2).toNatClampNeg)) yvX8_ofCake mlL_35 (s80 hGM) rfl rfl rfl rfl rfl rfl ⟨Nat.le_of_ble_eq_true rfl, Nat.le_of_ble_eq_true rfl⟩ (Nat.le_of_ble_eq_true rfl) dL_law_369 rfl ?_
  refine l_eq (q := 1535) C dL_law_372 (by decide) ?_
  exact kk VX1 VM1 hR1
set_option maxHeartbeats 4000000 in
set_option maxRecDepth 100000 in
theorem lk_5 {l : Launch} {GX GM : gG} {b Ln : Nat} {sc : Nat → Int32} {X : gX} {VX VM : gV} (hGX : gIsX GX) (hGM : gIsM GM) (C : lC GX GM b Ln sc X) {Rel Rel2 : gV → gV → Prop} (hp : ∀ (VX VM : gV) (a0 : Int32) (a1 : Int32), Rel VX VM → gEq Rel2 (fX7_layer VX a0 a1) (fX8_layer VM a0 a1)) (hR : Rel VX VM) {x3 : Int32} (hin : lIn x3 Ln) (kk : ∀ VX VM, Rel2 VX VM → lSm l GX GM X VX VM 1535 [(0, .ref b), (1, .ref (GX.1 0)), (2, .ref (GM.1 0)), (3, .int x3)] []) : lSm l GX GM X VX VM 377 [(0, .ref b), (1, .ref (GX.1 0)), (2, .ref (GM.1 0)), (3, .int x3)] [] := by
  obtain ⟨r, VX1, VM1, hx, hm, hR1⟩ := hp VX VM (sc (x3 + 1).toNatClampNeg) (sc (x3 + 2).toNatClampNeg) hR
  refine l_aload_n (q := 378) C 1 dL_law_377 rfl rfl rfl ?_
  refine l_aload_n (q := 379) C 0 dL_law_378 rfl rfl rfl ?_
  refine l_iload_n (q := 380) C 3 dL_law_379 rfl rfl rfl ?_
  refine l_iconst (q := 381) (v := 1) C dL_law_380 rfl (by decide) ?_
  refine l_iadd (q := 382) C dL_law_381 rfl ?_
  refine l_sld (q := 383) C (hin.2.1) dL_law_382 rfl ?_
  refine l_aload_n (q := 384) C 0 dL_law_383 rfl rfl rfl ?_
  refine l_iload_n (q := 385) C 3 dL_law_384 rfl rfl rfl ?_
  refine l_iconst (q := 386) (v := 2) C dL_law_385 rfl (by decide) ?_
  refine l_iadd (q := 387) C dL_law_386 rfl ?_
  refine l_sld (q := 388) C (hin.2.2.1) dL_law_387 rfl ?_
  refine l_callX (q := 391) (As := [.int (sc (x3 + 1).toNatClampNeg), .int (sc (x3 + 2).toNatClampNeg)]) (st := []) C hx (uX7_layer l GX hGX VX (sc (x3 + 1).toNatClampNeg) (sc (x3 + 2).toNatClampNeg)) yvX7_layer mlL_36 (s70 hGX) rfl rfl rfl rfl rfl rfl ⟨Nat.le_of_ble_eq_true rfl, Nat.le_of_ble_eq_true rfl⟩ (Nat.le_of_ble_eq_true rfl) dL_law_388 rfl ?_
  refine l_aload_n (q := 392) C 2 dL_law_391 rfl rfl rfl ?_
  refine l_aload_n (q := 393) C 0 dL_law_392 rfl rfl rfl ?_
  refine l_iload_n (q := 394) C 3 dL_law_393 rfl rfl rfl ?_
  refine l_iconst (q := 395) (v := 1) C dL_law_394 rfl (by decide) ?_
  refine l_iadd (q := 396) C dL_law_395 rfl ?_
  refine l_sld (q := 397) C (hin.2.1) dL_law_396 rfl ?_
  refine l_aload_n (q := 398) C 0 dL_law_397 rfl rfl rfl ?_
  refine l_iload_n (q := 399) C 3 dL_law_398 rfl rfl rfl ?_
  refine l_iconst (q := 400) (v := 2) C dL_law_399 rfl (by decide) ?_
  refine l_iadd (q := 401) C dL_law_400 rfl ?_
  refine l_sld (q := 402) C (hin.2.2.1) dL_law_401 rfl ?_
  refine l_callM (q := 405) (As := [.int (sc (x3 + 1).toNatClampNeg), .int (sc (x3 + 2).toNatClampNeg)]) (st := [.int r]) C hm (uX8_layer l GM hGM VM (sc (x3 + 1).toNatClampNeg) (sc (x3 + 2).toNatClampNeg)) yvX8_layer mlL_39 (s80 hGM) rfl rfl rfl rfl rfl rfl ⟨Nat.le_of_ble_eq_true rfl, Nat.le_of_ble_eq_true rfl⟩ (Nat.le_of_ble_eq_true rfl) dL_law_402 rfl ?_
  refine l_eq (q := 1535) C dL_law_405 (by decide) ?_
  exact kk VX1 VM1 hR1
set_option maxHeartbeats 4000000 in
set_option maxRecDepth 100000 in
theorem lk_6 {l : Launch} {GX GM : gG} {b Ln : Nat} {sc : Nat → Int32} {X : gX} {VX VM : gV} (hGX : gIsX GX) (hGM : gIsM GM) (C : lC GX GM b Ln sc X) {Rel Rel2 : gV → gV → Prop} (hp : ∀ (VX VM : gV) (a0 : Int32) (a1 : Int32), Rel VX VM → gEq Rel2 (fX7_named VX a0 a1) (fX8_named VM a0 a1)) (hR : Rel VX VM) {x3 : Int32} (hin : lIn x3 Ln) (kk : ∀ VX VM, Rel2 VX VM → lSm l GX GM X VX VM 1535 [(0, .ref b), (1, .ref (GX.1 0)), (2, .ref (GM.1 0)), (3, .int x3)] []) : lSm l GX GM X VX VM 410 [(0, .ref b), (1, .ref (GX.1 0)), (2, .ref (GM.1 0)), (3, .int x3)] [] := by
  obtain ⟨r, VX1, VM1, hx, hm, hR1⟩ := hp VX VM (sc (x3 + 1).toNatClampNeg) (sc (x3 + 2).toNatClampNeg) hR
  refine l_aload_n (q := 411) C 1 dL_law_410 rfl rfl rfl ?_
  refine l_aload_n (q := 412) C 0 dL_law_411 rfl rfl rfl ?_
  refine l_iload_n (q := 413) C 3 dL_law_412 rfl rfl rfl ?_
  refine l_iconst (q := 414) (v := 1) C dL_law_413 rfl (by decide) ?_
  refine l_iadd (q := 415) C dL_law_414 rfl ?_
  refine l_sld (q := 416) C (hin.2.1) dL_law_415 rfl ?_
  refine l_aload_n (q := 417) C 0 dL_law_416 rfl rfl rfl ?_
  refine l_iload_n (q := 418) C 3 dL_law_417 rfl rfl rfl ?_
  refine l_iconst (q := 419) (v := 2) C dL_law_418 rfl (by decide) ?_
  refine l_iadd (q := 420) C dL_law_419 rfl ?_
  refine l_sld (q := 421) C (hin.2.2.1) dL_law_420 rfl ?_
  refine l_callX (q := 424) (As := [.int (sc (x3 + 1).toNatClampNeg), .int (sc (x3 + 2).toNatClampNeg)]) (st := []) C hx (uX7_named l GX hGX VX (sc (x3 + 1).toNatClampNeg) (sc (x3 + 2).toNatClampNeg)) yvX7_named mlL_40 (s70 hGX) rfl rfl rfl rfl rfl rfl ⟨Nat.le_of_ble_eq_true rfl, Nat.le_of_ble_eq_true rfl⟩ (Nat.le_of_ble_eq_true rfl) dL_law_421 rfl ?_
  refine l_aload_n (q := 425) C 2 dL_law_424 rfl rfl rfl ?_
  refine l_aload_n (q := 426) C 0 dL_law_425 rfl rfl rfl ?_
  refine l_iload_n (q := 427) C 3 dL_law_426 rfl rfl rfl ?_
  refine l_iconst (q := 428) (v := 1) C dL_law_427 rfl (by decide) ?_
  refine l_iadd (q := 429) C dL_law_428 rfl ?_
  refine l_sld (q := 430) C (hin.2.1) dL_law_429 rfl ?_
  refine l_aload_n (q := 431) C 0 dL_law_430 rfl rfl rfl ?_
  refine l_iload_n (q := 432) C 3 dL_law_431 rfl rfl rfl ?_
  refine l_iconst (q := 433) (v := 2) C dL_law_432 rfl (by decide) ?_
  refine l_iadd (q := 434) C dL_law_433 rfl ?_
  refine l_sld (q := 435) C (hin.2.2.1) dL_law_434 rfl ?_
  refine l_callM (q := 438) (As := [.int (sc (x3 + 1).toNatClampNeg), .int (sc (x3 + 2).toNatClampNeg)]) (st := [.int r]) C hm (uX8_named l GM hGM VM (sc (x3 + 1).toNatClampNeg) (sc (x3 + 2).toNatClampNeg)) yvX8_named mlL_43 (s80 hGM) rfl rfl rfl rfl rfl rfl ⟨Nat.le_of_ble_eq_true rfl, Nat.le_of_ble_eq_true rfl⟩ (Nat.le_of_ble_eq_true rfl) dL_law_435 rfl ?_
  refine l_eq (q := 1535) C dL_law_438 (by decide) ?_
  exact kk VX1 VM1 hR1
set_option maxHeartbeats 4000000 in
set_option maxRecDepth 100000 in
theorem lk_7 {l : Launch} {GX GM : gG} {b Ln : Nat} {sc : Nat → Int32} {X : gX} {VX VM : gV} (hGX : gIsX GX) (hGM : gIsM GM) (C : lC GX GM b Ln sc X) {Rel Rel2 : gV → gV → Prop} (hp : ∀ (VX VM : gV) (a0 : Int32) (a1 : Int32) (a2 : Int32), Rel VX VM → gEq Rel2 (fX7_shift VX a0 a1 a2) (fX8_shift VM a0 a1 a2)) (hR : Rel VX VM) {x3 : Int32} (hin : lIn x3 Ln) (kk : ∀ VX VM, Rel2 VX VM → lSm l GX GM X VX VM 1535 [(0, .ref b), (1, .ref (GX.1 0)), (2, .ref (GM.1 0)), (3, .int x3)] []) : lSm l GX GM X VX VM 443 [(0, .ref b), (1, .ref (GX.1 0)), (2, .ref (GM.1 0)), (3, .int x3)] [] := by
  obtain ⟨r, VX1, VM1, hx, hm, hR1⟩ := hp VX VM (sc (x3 + 1).toNatClampNeg) (sc (x3 + 2).toNatClampNeg) (sc (x3 + 3).toNatClampNeg) hR
  refine l_aload_n (q := 444) C 1 dL_law_443 rfl rfl rfl ?_
  refine l_aload_n (q := 445) C 0 dL_law_444 rfl rfl rfl ?_
  refine l_iload_n (q := 446) C 3 dL_law_445 rfl rfl rfl ?_
  refine l_iconst (q := 447) (v := 1) C dL_law_446 rfl (by decide) ?_
  refine l_iadd (q := 448) C dL_law_447 rfl ?_
  refine l_sld (q := 449) C (hin.2.1) dL_law_448 rfl ?_
  refine l_aload_n (q := 450) C 0 dL_law_449 rfl rfl rfl ?_
  refine l_iload_n (q := 451) C 3 dL_law_450 rfl rfl rfl ?_
  refine l_iconst (q := 452) (v := 2) C dL_law_451 rfl (by decide) ?_
  refine l_iadd (q := 453) C dL_law_452 rfl ?_
  refine l_sld (q := 454) C (hin.2.2.1) dL_law_453 rfl ?_
  refine l_aload_n (q := 455) C 0 dL_law_454 rfl rfl rfl ?_
  refine l_iload_n (q := 456) C 3 dL_law_455 rfl rfl rfl ?_
  refine l_iconst (q := 457) (v := 3) C dL_law_456 rfl (by decide) ?_
  refine l_iadd (q := 458) C dL_law_457 rfl ?_
  refine l_sld (q := 459) C (hin.2.2.2.1) dL_law_458 rfl ?_
  refine l_callX (q := 462) (As := [.int (sc (x3 + 1).toNatClampNeg), .int (sc (x3 + 2).toNatClampNeg), .int (sc (x3 + 3).toNatClampNeg)]) (st := []) C hx (uX7_shift l GX hGX VX (sc (x3 + 1).toNatClampNeg) (sc (x3 + 2).toNatClampNeg) (sc (x3 + 3).toNatClampNeg)) yvX7_shift mlL_44 (s70 hGX) rfl rfl rfl rfl rfl rfl ⟨Nat.le_of_ble_eq_true rfl, Nat.le_of_ble_eq_true rfl⟩ (Nat.le_of_ble_eq_true rfl) dL_law_459 rfl ?_
  refine l_aload_n (q := 463) C 2 dL_law_462 rfl rfl rfl ?_
  refine l_aload_n (q := 464) C 0 dL_law_463 rfl rfl rfl ?_
  refine l_iload_n (q := 465) C 3 dL_law_464 rfl rfl rfl ?_
  refine l_iconst (q := 466) (v := 1) C dL_law_465 rfl (by decide) ?_
  refine l_iadd (q := 467) C dL_law_466 rfl ?_
  refine l_sld (q := 468) C (hin.2.1) dL_law_467 rfl ?_
  refine l_aload_n (q := 469) C 0 dL_law_468 rfl rfl rfl ?_
  refine l_iload_n (q := 470) C 3 dL_law_469 rfl rfl rfl ?_
  refine l_iconst (q := 471) (v := 2) C dL_law_470 rfl (by decide) ?_
  refine l_iadd (q := 472) C dL_law_471 rfl ?_
  refine l_sld (q := 473) C (hin.2.2.1) dL_law_472 rfl ?_
  refine l_aload_n (q := 474) C 0 dL_law_473 rfl rfl rfl ?_
  refine l_iload_n (q := 475) C 3 dL_law_474 rfl rfl rfl ?_
  refine l_iconst (q := 476) (v := 3) C dL_law_475 rfl (by decide) ?_
  refine l_iadd (q := 477) C dL_law_476 rfl ?_
  refine l_sld (q := 478) C (hin.2.2.2.1) dL_law_477 rfl ?_
  refine l_callM (q := 481) (As := [.int (sc (x3 + 1).toNatClampNeg), .int (sc (x3 + 2).toNatClampNeg), .int (sc (x3 + 3).toNatClampNeg)]) (st := [.int r]) C hm (uX8_shift l GM hGM VM (sc (x3 + 1).toNatClampNeg) (sc (x3 + 2).toNatClampNeg) (sc (x3 + 3).toNatClampNeg)) yvX8_shift mlL_47 (s80 hGM) rfl rfl rfl rfl rfl rfl ⟨Nat.le_of_ble_eq_true rfl, Nat.le_of_ble_eq_true rfl⟩ (Nat.le_of_ble_eq_true rfl) dL_law_478 rfl ?_
  refine l_eq (q := 1535) C dL_law_481 (by decide) ?_
  exact kk VX1 VM1 hR1
set_option maxHeartbeats 4000000 in
set_option maxRecDepth 100000 in
theorem lk_8 {l : Launch} {GX GM : gG} {b Ln : Nat} {sc : Nat → Int32} {X : gX} {VX VM : gV} (hGX : gIsX GX) (hGM : gIsM GM) (C : lC GX GM b Ln sc X) {Rel Rel2 : gV → gV → Prop} (hp : ∀ (VX VM : gV) (a0 : Int32) (a1 : Int32), Rel VX VM → gEq Rel2 (fX7_press VX a0 a1) (fX8_press VM a0 a1)) (hR : Rel VX VM) {x3 : Int32} (hin : lIn x3 Ln) (kk : ∀ VX VM, Rel2 VX VM → lSm l GX GM X VX VM 1535 [(0, .ref b), (1, .ref (GX.1 0)), (2, .ref (GM.1 0)), (3, .int x3)] []) : lSm l GX GM X VX VM 486 [(0, .ref b), (1, .ref (GX.1 0)), (2, .ref (GM.1 0)), (3, .int x3)] [] := by
  obtain ⟨r, VX1, VM1, hx, hm, hR1⟩ := hp VX VM (sc (x3 + 1).toNatClampNeg) (sc (x3 + 2).toNatClampNeg) hR
  refine l_aload_n (q := 487) C 1 dL_law_486 rfl rfl rfl ?_
  refine l_aload_n (q := 488) C 0 dL_law_487 rfl rfl rfl ?_
  refine l_iload_n (q := 489) C 3 dL_law_488 rfl rfl rfl ?_
  refine l_iconst (q := 490) (v := 1) C dL_law_489 rfl (by decide) ?_
  refine l_iadd (q := 491) C dL_law_490 rfl ?_
  refine l_sld (q := 492) C (hin.2.1) dL_law_491 rfl ?_
  refine l_aload_n (q := 493) C 0 dL_law_492 rfl rfl rfl ?_
  refine l_iload_n (q := 494) C 3 dL_law_493 rfl rfl rfl ?_
  refine l_iconst (q := 495) (v := 2) C dL_law_494 rfl (by decide) ?_
  refine l_iadd (q := 496) C dL_law_495 rfl ?_
  refine l_sld (q := 497) C (hin.2.2.1) dL_law_496 rfl ?_
  refine l_callX (q := 500) (As := [.int (sc (x3 + 1).toNatClampNeg), .int (sc (x3 + 2).toNatClampNeg)]) (st := []) C hx (uX7_press l GX hGX VX (sc (x3 + 1).toNatClampNeg) (sc (x3 + 2).toNatClampNeg)) yvX7_press mlL_48 (s70 hGX) rfl rfl rfl rfl rfl rfl ⟨Nat.le_of_ble_eq_true rfl, Nat.le_of_ble_eq_true rfl⟩ (Nat.le_of_ble_eq_true rfl) dL_law_497 rfl ?_
  refine l_aload_n (q := 501) C 2 dL_law_500 rfl rfl rfl ?_
  refine l_aload_n (q := 502) C 0 dL_law_501 rfl rfl rfl ?_
  refine l_iload_n (q := 503) C 3 dL_law_502 rfl rfl rfl ?_
  refine l_iconst (q := 504) (v := 1) C dL_law_503 rfl (by decide) ?_
  refine l_iadd (q := 505) C dL_law_504 rfl ?_
  refine l_sld (q := 506) C (hin.2.1) dL_law_505 rfl ?_
  refine l_aload_n (q := 507) C 0 dL_law_506 rfl rfl rfl ?_
  refine l_iload_n (q := 508) C 3 dL_law_507 rfl rfl rfl ?_
  refine l_iconst (q := 509) (v := 2) C dL_law_508 rfl (by decide) ?_
  refine l_iadd (q := 510) C dL_law_509 rfl ?_
  refine l_sld (q := 511) C (hin.2.2.1) dL_law_510 rfl ?_
  refine l_callM (q := 514) (As := [.int (sc (x3 + 1).toNatClampNeg), .int (sc (x3 + 2).toNatClampNeg)]) (st := [.int r]) C hm (uX8_press l GM hGM VM (sc (x3 + 1).toNatClampNeg) (sc (x3 + 2).toNatClampNeg)) yvX8_press mlL_51 (s80 hGM) rfl rfl rfl rfl rfl rfl ⟨Nat.le_of_ble_eq_true rfl, Nat.le_of_ble_eq_true rfl⟩ (Nat.le_of_ble_eq_true rfl) dL_law_511 rfl ?_
  refine l_eq (q := 1535) C dL_law_514 (by decide) ?_
  exact kk VX1 VM1 hR1
set_option maxHeartbeats 4000000 in
set_option maxRecDepth 100000 in
theorem lk_9 {l : Launch} {GX GM : gG} {b Ln : Nat} {sc : Nat → Int32} {X : gX} {VX VM : gV} (hGX : gIsX GX) (hGM : gIsM GM) (C : lC GX GM b Ln sc X) {Rel Rel2 : gV → gV → Prop} (hp : ∀ (VX VM : gV) (a0 : Int32) (a1 : Int32), Rel VX VM → gEq Rel2 (fX7_become VX a0 a1) (fX8_become VM a0 a1)) (hR : Rel VX VM) {x3 : Int32} (hin : lIn x3 Ln) (kk : ∀ VX VM, Rel2 VX VM → lSm l GX GM X VX VM 1535 [(0, .ref b), (1, .ref (GX.1 0)), (2, .ref (GM.1 0)), (3, .int x3)] []) : lSm l GX GM X VX VM 519 [(0, .ref b), (1, .ref (GX.1 0)), (2, .ref (GM.1 0)), (3, .int x3)] [] := by
  obtain ⟨r, VX1, VM1, hx, hm, hR1⟩ := hp VX VM (sc (x3 + 1).toNatClampNeg) (sc (x3 + 2).toNatClampNeg) hR
  refine l_aload_n (q := 520) C 1 dL_law_519 rfl rfl rfl ?_
  refine l_aload_n (q := 521) C 0 dL_law_520 rfl rfl rfl ?_
  refine l_iload_n (q := 522) C 3 dL_law_521 rfl rfl rfl ?_
  refine l_iconst (q := 523) (v := 1) C dL_law_522 rfl (by decide) ?_
  refine l_iadd (q := 524) C dL_law_523 rfl ?_
  refine l_sld (q := 525) C (hin.2.1) dL_law_524 rfl ?_
  refine l_aload_n (q := 526) C 0 dL_law_525 rfl rfl rfl ?_
  refine l_iload_n (q := 527) C 3 dL_law_526 rfl rfl rfl ?_
  refine l_iconst (q := 528) (v := 2) C dL_law_527 rfl (by decide) ?_
  refine l_iadd (q := 529) C dL_law_528 rfl ?_
  refine l_sld (q := 530) C (hin.2.2.1) dL_law_529 rfl ?_
  refine l_callX (q := 533) (As := [.int (sc (x3 + 1).toNatClampNeg), .int (sc (x3 + 2).toNatClampNeg)]) (st := []) C hx (uX7_become l GX hGX VX (sc (x3 + 1).toNatClampNeg) (sc (x3 + 2).toNatClampNeg)) yvX7_become mlL_52 (s70 hGX) rfl rfl rfl rfl rfl rfl ⟨Nat.le_of_ble_eq_true rfl, Nat.le_of_ble_eq_true rfl⟩ (Nat.le_of_ble_eq_true rfl) dL_law_530 rfl ?_
  refine l_aload_n (q := 534) C 2 dL_law_533 rfl rfl rfl ?_
  refine l_aload_n (q := 535) C 0 dL_law_534 rfl rfl rfl ?_
  refine l_iload_n (q := 536) C 3 dL_law_535 rfl rfl rfl ?_
  refine l_iconst (q := 537) (v := 1) C dL_law_536 rfl (by decide) ?_
  refine l_iadd (q := 538) C dL_law_537 rfl ?_
  refine l_sld (q := 539) C (hin.2.1) dL_law_538 rfl ?_
  refine l_aload_n (q := 540) C 0 dL_law_539 rfl rfl rfl ?_
  refine l_iload_n (q := 541) C 3 dL_law_540 rfl rfl rfl ?_
  refine l_iconst (q := 542) (v := 2) C dL_law_541 rfl (by decide) ?_
  refine l_iadd (q := 543) C dL_law_542 rfl ?_
  refine l_sld (q := 544) C (hin.2.2.1) dL_law_543 rfl ?_
  refine l_callM (q := 547) (As := [.int (sc (x3 + 1).toNatClampNeg), .int (sc (x3 + 2).toNatClampNeg)]) (st := [.int r]) C hm (uX8_become l GM hGM VM (sc (x3 + 1).toNatClampNeg) (sc (x3 + 2).toNatClampNeg)) yvX8_become mlL_55 (s80 hGM) rfl rfl rfl rfl rfl rfl ⟨Nat.le_of_ble_eq_true rfl, Nat.le_of_ble_eq_true rfl⟩ (Nat.le_of_ble_eq_true rfl) dL_law_544 rfl ?_
  refine l_eq (q := 1535) C dL_law_547 (by decide) ?_
  exact kk VX1 VM1 hR1
set_option maxHeartbeats 4000000 in
set_option maxRecDepth 100000 in
theorem lk_10 {l : Launch} {GX GM : gG} {b Ln : Nat} {sc : Nat → Int32} {X : gX} {VX VM : gV} (hGX : gIsX GX) (hGM : gIsM GM) (C : lC GX GM b Ln sc X) {Rel Rel2 : gV → gV → Prop} (hp : ∀ (VX VM : gV) (a0 : Int32) (a1 : Int32), Rel VX VM → gEq Rel2 (fX7_as VX a0 a1) (fX8_as VM a0 a1)) (hR : Rel VX VM) {x3 : Int32} (hin : lIn x3 Ln) (kk : ∀ VX VM, Rel2 VX VM → lSm l GX GM X VX VM 1535 [(0, .ref b), (1, .ref (GX.1 0)), (2, .ref (GM.1 0)), (3, .int x3)] []) : lSm l GX GM X VX VM 552 [(0, .ref b), (1, .ref (GX.1 0)), (2, .ref (GM.1 0)), (3, .int x3)] [] := by
  obtain ⟨r, VX1, VM1, hx, hm, hR1⟩ := hp VX VM (sc (x3 + 1).toNatClampNeg) (sc (x3 + 2).toNatClampNeg) hR
  refine l_aload_n (q := 553) C 1 dL_law_552 rfl rfl rfl ?_
  refine l_aload_n (q := 554) C 0 dL_law_553 rfl rfl rfl ?_
  refine l_iload_n (q := 555) C 3 dL_law_554 rfl rfl rfl ?_
  refine l_iconst (q := 556) (v := 1) C dL_law_555 rfl (by decide) ?_
  refine l_iadd (q := 557) C dL_law_556 rfl ?_
  refine l_sld (q := 558) C (hin.2.1) dL_law_557 rfl ?_
  refine l_aload_n (q := 559) C 0 dL_law_558 rfl rfl rfl ?_
  refine l_iload_n (q := 560) C 3 dL_law_559 rfl rfl rfl ?_
  refine l_iconst (q := 561) (v := 2) C dL_law_560 rfl (by decide) ?_
  refine l_iadd (q := 562) C dL_law_561 rfl ?_
  refine l_sld (q := 563) C (hin.2.2.1) dL_law_562 rfl ?_
  refine l_callX (q := 566) (As := [.int (sc (x3 + 1).toNatClampNeg), .int (sc (x3 + 2).toNatClampNeg)]) (st := []) C hx (uX7_as l GX hGX VX (sc (x3 + 1).toNatClampNeg) (sc (x3 + 2).toNatClampNeg)) yvX7_as mlL_56 (s70 hGX) rfl rfl rfl rfl rfl rfl ⟨Nat.le_of_ble_eq_true rfl, Nat.le_of_ble_eq_true rfl⟩ (Nat.le_of_ble_eq_true rfl) dL_law_563 rfl ?_
  refine l_aload_n (q := 567) C 2 dL_law_566 rfl rfl rfl ?_
  refine l_aload_n (q := 568) C 0 dL_law_567 rfl rfl rfl ?_
  refine l_iload_n (q := 569) C 3 dL_law_568 rfl rfl rfl ?_
  refine l_iconst (q := 570) (v := 1) C dL_law_569 rfl (by decide) ?_
  refine l_iadd (q := 571) C dL_law_570 rfl ?_
  refine l_sld (q := 572) C (hin.2.1) dL_law_571 rfl ?_
  refine l_aload_n (q := 573) C 0 dL_law_572 rfl rfl rfl ?_
  refine l_iload_n (q := 574) C 3 dL_law_573 rfl rfl rfl ?_
  refine l_iconst (q := 575) (v := 2) C dL_law_574 rfl (by decide) ?_
  refine l_iadd (q := 576) C dL_law_575 rfl ?_
  refine l_sld (q := 577) C (hin.2.2.1) dL_law_576 rfl ?_
  refine l_callM (q := 580) (As := [.int (sc (x3 + 1).toNatClampNeg), .int (sc (x3 + 2).toNatClampNeg)]) (st := [.int r]) C hm (uX8_as l GM hGM VM (sc (x3 + 1).toNatClampNeg) (sc (x3 + 2).toNatClampNeg)) yvX8_as mlL_59 (s80 hGM) rfl rfl rfl rfl rfl rfl ⟨Nat.le_of_ble_eq_true rfl, Nat.le_of_ble_eq_true rfl⟩ (Nat.le_of_ble_eq_true rfl) dL_law_577 rfl ?_
  refine l_eq (q := 1535) C dL_law_580 (by decide) ?_
  exact kk VX1 VM1 hR1
set_option maxHeartbeats 4000000 in
set_option maxRecDepth 100000 in
theorem lk_11 {l : Launch} {GX GM : gG} {b Ln : Nat} {sc : Nat → Int32} {X : gX} {VX VM : gV} (hGX : gIsX GX) (hGM : gIsM GM) (C : lC GX GM b Ln sc X) {Rel Rel2 : gV → gV → Prop} (hp : ∀ (VX VM : gV) (a0 : Int64) (a1 : Int32), Rel VX VM → gEq Rel2 (fX7_feed VX a0 a1) (fX8_feed VM a0 a1)) (hR : Rel VX VM) {x3 : Int32} (hin : lIn x3 Ln) (kk : ∀ VX VM, Rel2 VX VM → lSm l GX GM X VX VM 1535 [(0, .ref b), (1, .ref (GX.1 0)), (2, .ref (GM.1 0)), (3, .int x3)] []) : lSm l GX GM X VX VM 585 [(0, .ref b), (1, .ref (GX.1 0)), (2, .ref (GM.1 0)), (3, .int x3)] [] := by
  obtain ⟨r, VX1, VM1, hx, hm, hR1⟩ := hp VX VM ((((sc (x3 + 1).toNatClampNeg)).toInt64 <<< ((32 : Int32).toInt64 &&& 63)) ||| (((sc (x3 + 2).toNatClampNeg)).toInt64 &&& 4294967295)) (sc (x3 + 3).toNatClampNeg) hR
  refine l_aload_n (q := 586) C 1 dL_law_585 rfl rfl rfl ?_
  refine l_aload_n (q := 587) C 0 dL_law_586 rfl rfl rfl ?_
  refine l_iload_n (q := 588) C 3 dL_law_587 rfl rfl rfl ?_
  refine l_iconst (q := 589) (v := 1) C dL_law_588 rfl (by decide) ?_
  refine l_iadd (q := 590) C dL_law_589 rfl ?_
  refine l_sld (q := 591) C (hin.2.1) dL_law_590 rfl ?_
  refine l_i2l (q := 592) C dL_law_591 rfl ?_
  refine l_bipush (q := 594) (v := 32) C dL_law_592 rfl (by decide) ?_
  refine l_lshl (q := 595) C dL_law_594 rfl ?_
  refine l_aload_n (q := 596) C 0 dL_law_595 rfl rfl rfl ?_
  refine l_iload_n (q := 597) C 3 dL_law_596 rfl rfl rfl ?_
  refine l_iconst (q := 598) (v := 2) C dL_law_597 rfl (by decide) ?_
  refine l_iadd (q := 599) C dL_law_598 rfl ?_
  refine l_sld (q := 600) C (hin.2.2.1) dL_law_599 rfl ?_
  refine l_i2l (q := 601) C dL_law_600 rfl ?_
  refine l_ldc2 (q := 604) (v := 4294967295) C dL_law_601 rfl kL_60 ?_
  refine l_land (q := 605) C dL_law_604 rfl ?_
  refine l_lor (q := 606) C dL_law_605 rfl ?_
  refine l_aload_n (q := 607) C 0 dL_law_606 rfl rfl rfl ?_
  refine l_iload_n (q := 608) C 3 dL_law_607 rfl rfl rfl ?_
  refine l_iconst (q := 609) (v := 3) C dL_law_608 rfl (by decide) ?_
  refine l_iadd (q := 610) C dL_law_609 rfl ?_
  refine l_sld (q := 611) C (hin.2.2.2.1) dL_law_610 rfl ?_
  refine l_callX (q := 614) (As := [.long ((((sc (x3 + 1).toNatClampNeg)).toInt64 <<< ((32 : Int32).toInt64 &&& 63)) ||| (((sc (x3 + 2).toNatClampNeg)).toInt64 &&& 4294967295)), .int (sc (x3 + 3).toNatClampNeg)]) (st := []) C hx (uX7_feed l GX hGX VX ((((sc (x3 + 1).toNatClampNeg)).toInt64 <<< ((32 : Int32).toInt64 &&& 63)) ||| (((sc (x3 + 2).toNatClampNeg)).toInt64 &&& 4294967295)) (sc (x3 + 3).toNatClampNeg)) yvX7_feed mlL_62 (s70 hGX) rfl rfl rfl rfl rfl rfl ⟨Nat.le_of_ble_eq_true rfl, Nat.le_of_ble_eq_true rfl⟩ (Nat.le_of_ble_eq_true rfl) dL_law_611 rfl ?_
  refine l_aload_n (q := 615) C 2 dL_law_614 rfl rfl rfl ?_
  refine l_aload_n (q := 616) C 0 dL_law_615 rfl rfl rfl ?_
  refine l_iload_n (q := 617) C 3 dL_law_616 rfl rfl rfl ?_
  refine l_iconst (q := 618) (v := 1) C dL_law_617 rfl (by decide) ?_
  refine l_iadd (q := 619) C dL_law_618 rfl ?_
  refine l_sld (q := 620) C (hin.2.1) dL_law_619 rfl ?_
  refine l_i2l (q := 621) C dL_law_620 rfl ?_
  refine l_bipush (q := 623) (v := 32) C dL_law_621 rfl (by decide) ?_
  refine l_lshl (q := 624) C dL_law_623 rfl ?_
  refine l_aload_n (q := 625) C 0 dL_law_624 rfl rfl rfl ?_
  refine l_iload_n (q := 626) C 3 dL_law_625 rfl rfl rfl ?_
  refine l_iconst (q := 627) (v := 2) C dL_law_626 rfl (by decide) ?_
  refine l_iadd (q := 628) C dL_law_627 rfl ?_
  refine l_sld (q := 629) C (hin.2.2.1) dL_law_628 rfl ?_
  refine l_i2l (q := 630) C dL_law_629 rfl ?_
  refine l_ldc2 (q := 633) (v := 4294967295) C dL_law_630 rfl kL_60 ?_
  refine l_land (q := 634) C dL_law_633 rfl ?_
  refine l_lor (q := 635) C dL_law_634 rfl ?_
  refine l_aload_n (q := 636) C 0 dL_law_635 rfl rfl rfl ?_
  refine l_iload_n (q := 637) C 3 dL_law_636 rfl rfl rfl ?_
  refine l_iconst (q := 638) (v := 3) C dL_law_637 rfl (by decide) ?_
  refine l_iadd (q := 639) C dL_law_638 rfl ?_
  refine l_sld (q := 640) C (hin.2.2.2.1) dL_law_639 rfl ?_
  refine l_callM (q := 643) (As := [.long ((((sc (x3 + 1).toNatClampNeg)).toInt64 <<< ((32 : Int32).toInt64 &&& 63)) ||| (((sc (x3 + 2).toNatClampNeg)).toInt64 &&& 4294967295)), .int (sc (x3 + 3).toNatClampNeg)]) (st := [.int r]) C hm (uX8_feed l GM hGM VM ((((sc (x3 + 1).toNatClampNeg)).toInt64 <<< ((32 : Int32).toInt64 &&& 63)) ||| (((sc (x3 + 2).toNatClampNeg)).toInt64 &&& 4294967295)) (sc (x3 + 3).toNatClampNeg)) yvX8_feed mlL_66 (s80 hGM) rfl rfl rfl rfl rfl rfl ⟨Nat.le_of_ble_eq_true rfl, Nat.le_of_ble_eq_true rfl⟩ (Nat.le_of_ble_eq_true rfl) dL_law_640 rfl ?_
  refine l_eq (q := 1535) C dL_law_643 (by decide) ?_
  exact kk VX1 VM1 hR1
set_option maxHeartbeats 4000000 in
set_option maxRecDepth 100000 in
theorem lk_12 {l : Launch} {GX GM : gG} {b Ln : Nat} {sc : Nat → Int32} {X : gX} {VX VM : gV} (hGX : gIsX GX) (hGM : gIsM GM) (C : lC GX GM b Ln sc X) {Rel Rel2 : gV → gV → Prop} (hp : ∀ (VX VM : gV) (a0 : Int32), Rel VX VM → gEq Rel2 (fX7_text VX a0) (fX8_text VM a0)) (hR : Rel VX VM) {x3 : Int32} (hin : lIn x3 Ln) (kk : ∀ VX VM, Rel2 VX VM → lSm l GX GM X VX VM 1535 [(0, .ref b), (1, .ref (GX.1 0)), (2, .ref (GM.1 0)), (3, .int x3)] []) : lSm l GX GM X VX VM 648 [(0, .ref b), (1, .ref (GX.1 0)), (2, .ref (GM.1 0)), (3, .int x3)] [] := by
  obtain ⟨r, VX1, VM1, hx, hm, hR1⟩ := hp VX VM (sc (x3 + 1).toNatClampNeg) hR
  refine l_aload_n (q := 649) C 1 dL_law_648 rfl rfl rfl ?_
  refine l_aload_n (q := 650) C 0 dL_law_649 rfl rfl rfl ?_
  refine l_iload_n (q := 651) C 3 dL_law_650 rfl rfl rfl ?_
  refine l_iconst (q := 652) (v := 1) C dL_law_651 rfl (by decide) ?_
  refine l_iadd (q := 653) C dL_law_652 rfl ?_
  refine l_sld (q := 654) C (hin.2.1) dL_law_653 rfl ?_
  refine l_callX (q := 657) (As := [.int (sc (x3 + 1).toNatClampNeg)]) (st := []) C hx (uX7_text l GX hGX VX (sc (x3 + 1).toNatClampNeg)) yvX7_text mlL_67 (s70 hGX) rfl rfl rfl rfl rfl rfl ⟨Nat.le_of_ble_eq_true rfl, Nat.le_of_ble_eq_true rfl⟩ (Nat.le_of_ble_eq_true rfl) dL_law_654 rfl ?_
  refine l_aload_n (q := 658) C 2 dL_law_657 rfl rfl rfl ?_
  refine l_aload_n (q := 659) C 0 dL_law_658 rfl rfl rfl ?_
  refine l_iload_n (q := 660) C 3 dL_law_659 rfl rfl rfl ?_
  refine l_iconst (q := 661) (v := 1) C dL_law_660 rfl (by decide) ?_
  refine l_iadd (q := 662) C dL_law_661 rfl ?_
  refine l_sld (q := 663) C (hin.2.1) dL_law_662 rfl ?_
  refine l_callM (q := 666) (As := [.int (sc (x3 + 1).toNatClampNeg)]) (st := [.int r]) C hm (uX8_text l GM hGM VM (sc (x3 + 1).toNatClampNeg)) yvX8_text mlL_70 (s80 hGM) rfl rfl rfl rfl rfl rfl ⟨Nat.le_of_ble_eq_true rfl, Nat.le_of_ble_eq_true rfl⟩ (Nat.le_of_ble_eq_true rfl) dL_law_663 rfl ?_
  refine l_eq (q := 1535) C dL_law_666 (by decide) ?_
  exact kk VX1 VM1 hR1
set_option maxHeartbeats 4000000 in
set_option maxRecDepth 100000 in
theorem lk_13 {l : Launch} {GX GM : gG} {b Ln : Nat} {sc : Nat → Int32} {X : gX} {VX VM : gV} (hGX : gIsX GX) (hGM : gIsM GM) (C : lC GX GM b Ln sc X) {Rel Rel2 : gV → gV → Prop} (hp : ∀ (VX VM : gV) (a0 : Int32) (a1 : Int32) (a2 : Int32) (a3 : Int32), Rel VX VM → gEq Rel2 (fX7_law VX a0 a1 a2 a3) (fX8_law VM a0 a1 a2 a3)) (hR : Rel VX VM) {x3 : Int32} (hin : lIn x3 Ln) (kk : ∀ VX VM, Rel2 VX VM → lSm l GX GM X VX VM 1535 [(0, .ref b), (1, .ref (GX.1 0)), (2, .ref (GM.1 0)), (3, .int x3)] []) : lSm l GX GM X VX VM 671 [(0, .ref b), (1, .ref (GX.1 0)), (2, .ref (GM.1 0)), (3, .int x3)] [] := by
  obtain ⟨r, VX1, VM1, hx, hm, hR1⟩ := hp VX VM (sc (x3 + 1).toNatClampNeg) (sc (x3 + 2).toNatClampNeg) (sc (x3 + 3).toNatClampNeg) (sc (x3 + 4).toNatClampNeg) hR
  refine l_aload_n (q := 672) C 1 dL_law_671 rfl rfl rfl ?_
  refine l_aload_n (q := 673) C 0 dL_law_672 rfl rfl rfl ?_
  refine l_iload_n (q := 674) C 3 dL_law_673 rfl rfl rfl ?_
  refine l_iconst (q := 675) (v := 1) C dL_law_674 rfl (by decide) ?_
  refine l_iadd (q := 676) C dL_law_675 rfl ?_
  refine l_sld (q := 677) C (hin.2.1) dL_law_676 rfl ?_
  refine l_aload_n (q := 678) C 0 dL_law_677 rfl rfl rfl ?_
  refine l_iload_n (q := 679) C 3 dL_law_678 rfl rfl rfl ?_
  refine l_iconst (q := 680) (v := 2) C dL_law_679 rfl (by decide) ?_
  refine l_iadd (q := 681) C dL_law_680 rfl ?_
  refine l_sld (q := 682) C (hin.2.2.1) dL_law_681 rfl ?_
  refine l_aload_n (q := 683) C 0 dL_law_682 rfl rfl rfl ?_
  refine l_iload_n (q := 684) C 3 dL_law_683 rfl rfl rfl ?_
  refine l_iconst (q := 685) (v := 3) C dL_law_684 rfl (by decide) ?_
  refine l_iadd (q := 686) C dL_law_685 rfl ?_
  refine l_sld (q := 687) C (hin.2.2.2.1) dL_law_686 rfl ?_
  refine l_aload_n (q := 688) C 0 dL_law_687 rfl rfl rfl ?_
  refine l_iload_n (q := 689) C 3 dL_law_688 rfl rfl rfl ?_
  refine l_iconst (q := 690) (v := 4) C dL_law_689 rfl (by decide) ?_
  refine l_iadd (q := 691) C dL_law_690 rfl ?_
  refine l_sld (q := 692) C (hin.2.2.2.2.1) dL_law_691 rfl ?_
  refine l_callX (q := 695) (As := [.int (sc (x3 + 1).toNatClampNeg), .int (sc (x3 + 2).toNatClampNeg), .int (sc (x3 + 3).toNatClampNeg), .int (sc (x3 + 4).toNatClampNeg)]) (st := []) C hx (uX7_law l GX hGX VX (sc (x3 + 1).toNatClampNeg) (sc (x3 + 2).toNatClampNeg) (sc (x3 + 3).toNatClampNeg) (sc (x3 + 4).toNatClampNeg)) yvX7_law mlL_71 (s70 hGX) rfl rfl rfl rfl rfl rfl ⟨Nat.le_of_ble_eq_true rfl, Nat.le_of_ble_eq_true rfl⟩ (Nat.le_of_ble_eq_true rfl) dL_law_692 rfl ?_
  refine l_aload_n (q := 696) C 2 dL_law_695 rfl rfl rfl ?_
  refine l_aload_n (q := 697) C 0 dL_law_696 rfl rfl rfl ?_
  refine l_iload_n (q := 698) C 3 dL_law_697 rfl rfl rfl ?_
  refine l_iconst (q := 699) (v := 1) C dL_law_698 rfl (by decide) ?_
  refine l_iadd (q := 700) C dL_law_699 rfl ?_
  refine l_sld (q := 701) C (hin.2.1) dL_law_700 rfl ?_
  refine l_aload_n (q := 702) C 0 dL_law_701 rfl rfl rfl ?_
  refine l_iload_n (q := 703) C 3 dL_law_702 rfl rfl rfl ?_
  refine l_iconst (q := 704) (v := 2) C dL_law_703 rfl (by decide) ?_
  refine l_iadd (q := 705) C dL_law_704 rfl ?_
  refine l_sld (q := 706) C (hin.2.2.1) dL_law_705 rfl ?_
  refine l_aload_n (q := 707) C 0 dL_law_706 rfl rfl rfl ?_
  refine l_iload_n (q := 708) C 3 dL_law_707 rfl rfl rfl ?_
  refine l_iconst (q := 709) (v := 3) C dL_law_708 rfl (by decide) ?_
  refine l_iadd (q := 710) C dL_law_709 rfl ?_
  refine l_sld (q := 711) C (hin.2.2.2.1) dL_law_710 rfl ?_
  refine l_aload_n (q := 712) C 0 dL_law_711 rfl rfl rfl ?_
  refine l_iload_n (q := 713) C 3 dL_law_712 rfl rfl rfl ?_
  refine l_iconst (q := 714) (v := 4) C dL_law_713 rfl (by decide) ?_
  refine l_iadd (q := 715) C dL_law_714 rfl ?_
  refine l_sld (q := 716) C (hin.2.2.2.2.1) dL_law_715 rfl ?_
  refine l_callM (q := 719) (As := [.int (sc (x3 + 1).toNatClampNeg), .int (sc (x3 + 2).toNatClampNeg), .int (sc (x3 + 3).toNatClampNeg), .int (sc (x3 + 4).toNatClampNeg)]) (st := [.int r]) C hm (uX8_law l GM hGM VM (sc (x3 + 1).toNatClampNeg) (sc (x3 + 2).toNatClampNeg) (sc (x3 + 3).toNatClampNeg) (sc (x3 + 4).toNatClampNeg)) yvX8_law mlL_75 (s80 hGM) rfl rfl rfl rfl rfl rfl ⟨Nat.le_of_ble_eq_true rfl, Nat.le_of_ble_eq_true rfl⟩ (Nat.le_of_ble_eq_true rfl) dL_law_716 rfl ?_
  refine l_eq (q := 1535) C dL_law_719 (by decide) ?_
  exact kk VX1 VM1 hR1
set_option maxHeartbeats 4000000 in
set_option maxRecDepth 100000 in
theorem lk_14 {l : Launch} {GX GM : gG} {b Ln : Nat} {sc : Nat → Int32} {X : gX} {VX VM : gV} (hGX : gIsX GX) (hGM : gIsM GM) (C : lC GX GM b Ln sc X) {Rel Rel2 : gV → gV → Prop} (hp : ∀ (VX VM : gV) (a0 : Int32), Rel VX VM → gEq Rel2 (fX7_days VX a0) (fX8_days VM a0)) (hR : Rel VX VM) {x3 : Int32} (hin : lIn x3 Ln) (kk : ∀ VX VM, Rel2 VX VM → lSm l GX GM X VX VM 1535 [(0, .ref b), (1, .ref (GX.1 0)), (2, .ref (GM.1 0)), (3, .int x3)] []) : lSm l GX GM X VX VM 724 [(0, .ref b), (1, .ref (GX.1 0)), (2, .ref (GM.1 0)), (3, .int x3)] [] := by
  obtain ⟨r, VX1, VM1, hx, hm, hR1⟩ := hp VX VM (sc (x3 + 1).toNatClampNeg) hR
  refine l_aload_n (q := 725) C 1 dL_law_724 rfl rfl rfl ?_
  refine l_aload_n (q := 726) C 0 dL_law_725 rfl rfl rfl ?_
  refine l_iload_n (q := 727) C 3 dL_law_726 rfl rfl rfl ?_
  refine l_iconst (q := 728) (v := 1) C dL_law_727 rfl (by decide) ?_
  refine l_iadd (q := 729) C dL_law_728 rfl ?_
  refine l_sld (q := 730) C (hin.2.1) dL_law_729 rfl ?_
  refine l_callX (q := 733) (As := [.int (sc (x3 + 1).toNatClampNeg)]) (st := []) C hx (uX7_days l GX hGX VX (sc (x3 + 1).toNatClampNeg)) yvX7_days mlL_76 (s70 hGX) rfl rfl rfl rfl rfl rfl ⟨Nat.le_of_ble_eq_true rfl, Nat.le_of_ble_eq_true rfl⟩ (Nat.le_of_ble_eq_true rfl) dL_law_730 rfl ?_
  refine l_aload_n (q := 734) C 2 dL_law_733 rfl rfl rfl ?_
  refine l_aload_n (q := 735) C 0 dL_law_734 rfl rfl rfl ?_
  refine l_iload_n (q := 736) C 3 dL_law_735 rfl rfl rfl ?_
  refine l_iconst (q := 737) (v := 1) C dL_law_736 rfl (by decide) ?_
  refine l_iadd (q := 738) C dL_law_737 rfl ?_
  refine l_sld (q := 739) C (hin.2.1) dL_law_738 rfl ?_
  refine l_callM (q := 742) (As := [.int (sc (x3 + 1).toNatClampNeg)]) (st := [.int r]) C hm (uX8_days l GM hGM VM (sc (x3 + 1).toNatClampNeg)) yvX8_days mlL_79 (s80 hGM) rfl rfl rfl rfl rfl rfl ⟨Nat.le_of_ble_eq_true rfl, Nat.le_of_ble_eq_true rfl⟩ (Nat.le_of_ble_eq_true rfl) dL_law_739 rfl ?_
  refine l_eq (q := 1535) C dL_law_742 (by decide) ?_
  exact kk VX1 VM1 hR1
set_option maxHeartbeats 4000000 in
set_option maxRecDepth 100000 in
theorem lk_15 {l : Launch} {GX GM : gG} {b Ln : Nat} {sc : Nat → Int32} {X : gX} {VX VM : gV} (hGX : gIsX GX) (hGM : gIsM GM) (C : lC GX GM b Ln sc X) {Rel Rel2 : gV → gV → Prop} (hp : ∀ (VX VM : gV) (a0 : Int32), Rel VX VM → gEq Rel2 (fX7_loose VX a0) (fX8_loose VM a0)) (hR : Rel VX VM) {x3 : Int32} (hin : lIn x3 Ln) (kk : ∀ VX VM, Rel2 VX VM → lSm l GX GM X VX VM 1535 [(0, .ref b), (1, .ref (GX.1 0)), (2, .ref (GM.1 0)), (3, .int x3)] []) : lSm l GX GM X VX VM 747 [(0, .ref b), (1, .ref (GX.1 0)), (2, .ref (GM.1 0)), (3, .int x3)] [] := by
  obtain ⟨r, VX1, VM1, hx, hm, hR1⟩ := hp VX VM (sc (x3 + 1).toNatClampNeg) hR
  refine l_aload_n (q := 748) C 1 dL_law_747 rfl rfl rfl ?_
  refine l_aload_n (q := 749) C 0 dL_law_748 rfl rfl rfl ?_
  refine l_iload_n (q := 750) C 3 dL_law_749 rfl rfl rfl ?_
  refine l_iconst (q := 751) (v := 1) C dL_law_750 rfl (by decide) ?_
  refine l_iadd (q := 752) C dL_law_751 rfl ?_
  refine l_sld (q := 753) C (hin.2.1) dL_law_752 rfl ?_
  refine l_callX (q := 756) (As := [.int (sc (x3 + 1).toNatClampNeg)]) (st := []) C hx (uX7_loose l GX hGX VX (sc (x3 + 1).toNatClampNeg)) yvX7_loose mlL_80 (s70 hGX) rfl rfl rfl rfl rfl rfl ⟨Nat.le_of_ble_eq_true rfl, Nat.le_of_ble_eq_true rfl⟩ (Nat.le_of_ble_eq_true rfl) dL_law_753 rfl ?_
  refine l_aload_n (q := 757) C 2 dL_law_756 rfl rfl rfl ?_
  refine l_aload_n (q := 758) C 0 dL_law_757 rfl rfl rfl ?_
  refine l_iload_n (q := 759) C 3 dL_law_758 rfl rfl rfl ?_
  refine l_iconst (q := 760) (v := 1) C dL_law_759 rfl (by decide) ?_
  refine l_iadd (q := 761) C dL_law_760 rfl ?_
  refine l_sld (q := 762) C (hin.2.1) dL_law_761 rfl ?_
  refine l_callM (q := 765) (As := [.int (sc (x3 + 1).toNatClampNeg)]) (st := [.int r]) C hm (uX8_loose l GM hGM VM (sc (x3 + 1).toNatClampNeg)) yvX8_loose mlL_83 (s80 hGM) rfl rfl rfl rfl rfl rfl ⟨Nat.le_of_ble_eq_true rfl, Nat.le_of_ble_eq_true rfl⟩ (Nat.le_of_ble_eq_true rfl) dL_law_762 rfl ?_
  refine l_eq (q := 1535) C dL_law_765 (by decide) ?_
  exact kk VX1 VM1 hR1
set_option maxHeartbeats 4000000 in
set_option maxRecDepth 100000 in
theorem lk_16 {l : Launch} {GX GM : gG} {b Ln : Nat} {sc : Nat → Int32} {X : gX} {VX VM : gV} (hGX : gIsX GX) (hGM : gIsM GM) (C : lC GX GM b Ln sc X) {Rel Rel2 : gV → gV → Prop} (hp : ∀ (VX VM : gV) (a0 : Int32), Rel VX VM → gEq Rel2 (fX7_where VX a0) (fX8_where VM a0)) (hR : Rel VX VM) {x3 : Int32} (hin : lIn x3 Ln) (kk : ∀ VX VM, Rel2 VX VM → lSm l GX GM X VX VM 1535 [(0, .ref b), (1, .ref (GX.1 0)), (2, .ref (GM.1 0)), (3, .int x3)] []) : lSm l GX GM X VX VM 770 [(0, .ref b), (1, .ref (GX.1 0)), (2, .ref (GM.1 0)), (3, .int x3)] [] := by
  obtain ⟨r, VX1, VM1, hx, hm, hR1⟩ := hp VX VM (sc (x3 + 1).toNatClampNeg) hR
  refine l_aload_n (q := 771) C 1 dL_law_770 rfl rfl rfl ?_
  refine l_aload_n (q := 772) C 0 dL_law_771 rfl rfl rfl ?_
  refine l_iload_n (q := 773) C 3 dL_law_772 rfl rfl rfl ?_
  refine l_iconst (q := 774) (v := 1) C dL_law_773 rfl (by decide) ?_
  refine l_iadd (q := 775) C dL_law_774 rfl ?_
  refine l_sld (q := 776) C (hin.2.1) dL_law_775 rfl ?_
  refine l_callX (q := 779) (As := [.int (sc (x3 + 1).toNatClampNeg)]) (st := []) C hx (uX7_where l GX hGX VX (sc (x3 + 1).toNatClampNeg)) yvX7_where mlL_84 (s70 hGX) rfl rfl rfl rfl rfl rfl ⟨Nat.le_of_ble_eq_true rfl, Nat.le_of_ble_eq_true rfl⟩ (Nat.le_of_ble_eq_true rfl) dL_law_776 rfl ?_
  refine l_aload_n (q := 780) C 2 dL_law_779 rfl rfl rfl ?_
  refine l_aload_n (q := 781) C 0 dL_law_780 rfl rfl rfl ?_
  refine l_iload_n (q := 782) C 3 dL_law_781 rfl rfl rfl ?_
  refine l_iconst (q := 783) (v := 1) C dL_law_782 rfl (by decide) ?_
  refine l_iadd (q := 784) C dL_law_783 rfl ?_
  refine l_sld (q := 785) C (hin.2.1) dL_law_784 rfl ?_
  refine l_callM (q := 788) (As := [.int (sc (x3 + 1).toNatClampNeg)]) (st := [.int r]) C hm (uX8_where l GM hGM VM (sc (x3 + 1).toNatClampNeg)) yvX8_where mlL_87 (s80 hGM) rfl rfl rfl rfl rfl rfl ⟨Nat.le_of_ble_eq_true rfl, Nat.le_of_ble_eq_true rfl⟩ (Nat.le_of_ble_eq_true rfl) dL_law_785 rfl ?_
  refine l_eq (q := 1535) C dL_law_788 (by decide) ?_
  exact kk VX1 VM1 hR1
set_option maxHeartbeats 4000000 in
set_option maxRecDepth 100000 in
theorem lk_17 {l : Launch} {GX GM : gG} {b Ln : Nat} {sc : Nat → Int32} {X : gX} {VX VM : gV} (hGX : gIsX GX) (hGM : gIsM GM) (C : lC GX GM b Ln sc X) {Rel Rel2 : gV → gV → Prop} (hp : ∀ (VX VM : gV), Rel VX VM → gEq Rel2 (fX7_twice VX) (fX8_twice VM)) (hR : Rel VX VM) {x3 : Int32} (hin : lIn x3 Ln) (kk : ∀ VX VM, Rel2 VX VM → lSm l GX GM X VX VM 1535 [(0, .ref b), (1, .ref (GX.1 0)), (2, .ref (GM.1 0)), (3, .int x3)] []) : lSm l GX GM X VX VM 793 [(0, .ref b), (1, .ref (GX.1 0)), (2, .ref (GM.1 0)), (3, .int x3)] [] := by
  obtain ⟨r, VX1, VM1, hx, hm, hR1⟩ := hp VX VM hR
  refine l_aload_n (q := 794) C 1 dL_law_793 rfl rfl rfl ?_
  refine l_callX (q := 797) (As := []) (st := []) C hx (uX7_twice l GX hGX VX) yvX7_twice mlL_88 (s70 hGX) rfl rfl rfl rfl rfl rfl ⟨Nat.le_of_ble_eq_true rfl, Nat.le_of_ble_eq_true rfl⟩ (Nat.le_of_ble_eq_true rfl) dL_law_794 rfl ?_
  refine l_aload_n (q := 798) C 2 dL_law_797 rfl rfl rfl ?_
  refine l_callM (q := 801) (As := []) (st := [.int r]) C hm (uX8_twice l GM hGM VM) yvX8_twice mlL_92 (s80 hGM) rfl rfl rfl rfl rfl rfl ⟨Nat.le_of_ble_eq_true rfl, Nat.le_of_ble_eq_true rfl⟩ (Nat.le_of_ble_eq_true rfl) dL_law_798 rfl ?_
  refine l_eq (q := 1535) C dL_law_801 (by decide) ?_
  exact kk VX1 VM1 hR1
set_option maxHeartbeats 4000000 in
set_option maxRecDepth 100000 in
theorem lk_18 {l : Launch} {GX GM : gG} {b Ln : Nat} {sc : Nat → Int32} {X : gX} {VX VM : gV} (hGX : gIsX GX) (hGM : gIsM GM) (C : lC GX GM b Ln sc X) {Rel Rel2 : gV → gV → Prop} (hp : ∀ (VX VM : gV) (a0 : Int32) (a1 : Int32) (a2 : Int32), Rel VX VM → gEq Rel2 (fX7_then VX a0 a1 a2) (fX8_then VM a0 a1 a2)) (hR : Rel VX VM) {x3 : Int32} (hin : lIn x3 Ln) (kk : ∀ VX VM, Rel2 VX VM → lSm l GX GM X VX VM 1535 [(0, .ref b), (1, .ref (GX.1 0)), (2, .ref (GM.1 0)), (3, .int x3)] []) : lSm l GX GM X VX VM 806 [(0, .ref b), (1, .ref (GX.1 0)), (2, .ref (GM.1 0)), (3, .int x3)] [] := by
  obtain ⟨r, VX1, VM1, hx, hm, hR1⟩ := hp VX VM (sc (x3 + 1).toNatClampNeg) (sc (x3 + 2).toNatClampNeg) (sc (x3 + 3).toNatClampNeg) hR
  refine l_aload_n (q := 807) C 1 dL_law_806 rfl rfl rfl ?_
  refine l_aload_n (q := 808) C 0 dL_law_807 rfl rfl rfl ?_
  refine l_iload_n (q := 809) C 3 dL_law_808 rfl rfl rfl ?_
  refine l_iconst (q := 810) (v := 1) C dL_law_809 rfl (by decide) ?_
  refine l_iadd (q := 811) C dL_law_810 rfl ?_
  refine l_sld (q := 812) C (hin.2.1) dL_law_811 rfl ?_
  refine l_aload_n (q := 813) C 0 dL_law_812 rfl rfl rfl ?_
  refine l_iload_n (q := 814) C 3 dL_law_813 rfl rfl rfl ?_
  refine l_iconst (q := 815) (v := 2) C dL_law_814 rfl (by decide) ?_
  refine l_iadd (q := 816) C dL_law_815 rfl ?_
  refine l_sld (q := 817) C (hin.2.2.1) dL_law_816 rfl ?_
  refine l_aload_n (q := 818) C 0 dL_law_817 rfl rfl rfl ?_
  refine l_iload_n (q := 819) C 3 dL_law_818 rfl rfl rfl ?_
  refine l_iconst (q := 820) (v := 3) C dL_law_819 rfl (by decide) ?_
  refine l_iadd (q := 821) C dL_law_820 rfl ?_
  refine l_sld (q := 822) C (hin.2.2.2.1) dL_law_821 rfl ?_
  refine l_callX (q := 825) (As := [.int (sc (x3 + 1).toNatClampNeg), .int (sc (x3 + 2).toNatClampNeg), .int (sc (x3 + 3).toNatClampNeg)]) (st := []) C hx (uX7_then l GX hGX VX (sc (x3 + 1).toNatClampNeg) (sc (x3 + 2).toNatClampNeg) (sc (x3 + 3).toNatClampNeg)) yvX7_then mlL_93 (s70 hGX) rfl rfl rfl rfl rfl rfl ⟨Nat.le_of_ble_eq_true rfl, Nat.le_of_ble_eq_true rfl⟩ (Nat.le_of_ble_eq_true rfl) dL_law_822 rfl ?_
  refine l_aload_n (q := 826) C 2 dL_law_825 rfl rfl rfl ?_
  refine l_aload_n (q := 827) C 0 dL_law_826 rfl rfl rfl ?_
  refine l_iload_n (q := 828) C 3 dL_law_827 rfl rfl rfl ?_
  refine l_iconst (q := 829) (v := 1) C dL_law_828 rfl (by decide) ?_
  refine l_iadd (q := 830) C dL_law_829 rfl ?_
  refine l_sld (q := 831) C (hin.2.1) dL_law_830 rfl ?_
  refine l_aload_n (q := 832) C 0 dL_law_831 rfl rfl rfl ?_
  refine l_iload_n (q := 833) C 3 dL_law_832 rfl rfl rfl ?_
  refine l_iconst (q := 834) (v := 2) C dL_law_833 rfl (by decide) ?_
  refine l_iadd (q := 835) C dL_law_834 rfl ?_
  refine l_sld (q := 836) C (hin.2.2.1) dL_law_835 rfl ?_
  refine l_aload_n (q := 837) C 0 dL_law_836 rfl rfl rfl ?_
  refine l_iload_n (q := 838) C 3 dL_law_837 rfl rfl rfl ?_
  refine l_iconst (q := 839) (v := 3) C dL_law_838 rfl (by decide) ?_
  refine l_iadd (q := 840) C dL_law_839 rfl ?_
  refine l_sld (q := 841) C (hin.2.2.2.1) dL_law_840 rfl ?_
  refine l_callM (q := 844) (As := [.int (sc (x3 + 1).toNatClampNeg), .int (sc (x3 + 2).toNatClampNeg), .int (sc (x3 + 3).toNatClampNeg)]) (st := [.int r]) C hm (uX8_then l GM hGM VM (sc (x3 + 1).toNatClampNeg) (sc (x3 + 2).toNatClampNeg) (sc (x3 + 3).toNatClampNeg)) yvX8_then mlL_96 (s80 hGM) rfl rfl rfl rfl rfl rfl ⟨Nat.le_of_ble_eq_true rfl, Nat.le_of_ble_eq_true rfl⟩ (Nat.le_of_ble_eq_true rfl) dL_law_841 rfl ?_
  refine l_eq (q := 1535) C dL_law_844 (by decide) ?_
  exact kk VX1 VM1 hR1
set_option maxHeartbeats 4000000 in
set_option maxRecDepth 100000 in
theorem lk_19 {l : Launch} {GX GM : gG} {b Ln : Nat} {sc : Nat → Int32} {X : gX} {VX VM : gV} (hGX : gIsX GX) (hGM : gIsM GM) (C : lC GX GM b Ln sc X) {Rel Rel2 : gV → gV → Prop} (hp : ∀ (VX VM : gV) (a0 : Int32) (a1 : Int32), Rel VX VM → gEq Rel2 (fX7_comes VX a0 a1) (fX8_comes VM a0 a1)) (hR : Rel VX VM) {x3 : Int32} (hin : lIn x3 Ln) (kk : ∀ VX VM, Rel2 VX VM → lSm l GX GM X VX VM 1535 [(0, .ref b), (1, .ref (GX.1 0)), (2, .ref (GM.1 0)), (3, .int x3)] []) : lSm l GX GM X VX VM 849 [(0, .ref b), (1, .ref (GX.1 0)), (2, .ref (GM.1 0)), (3, .int x3)] [] := by
  obtain ⟨r, VX1, VM1, hx, hm, hR1⟩ := hp VX VM (sc (x3 + 1).toNatClampNeg) (sc (x3 + 2).toNatClampNeg) hR
  refine l_aload_n (q := 850) C 1 dL_law_849 rfl rfl rfl ?_
  refine l_aload_n (q := 851) C 0 dL_law_850 rfl rfl rfl ?_
  refine l_iload_n (q := 852) C 3 dL_law_851 rfl rfl rfl ?_
  refine l_iconst (q := 853) (v := 1) C dL_law_852 rfl (by decide) ?_
  refine l_iadd (q := 854) C dL_law_853 rfl ?_
  refine l_sld (q := 855) C (hin.2.1) dL_law_854 rfl ?_
  refine l_aload_n (q := 856) C 0 dL_law_855 rfl rfl rfl ?_
  refine l_iload_n (q := 857) C 3 dL_law_856 rfl rfl rfl ?_
  refine l_iconst (q := 858) (v := 2) C dL_law_857 rfl (by decide) ?_
  refine l_iadd (q := 859) C dL_law_858 rfl ?_
  refine l_sld (q := 860) C (hin.2.2.1) dL_law_859 rfl ?_
  refine l_callX (q := 863) (As := [.int (sc (x3 + 1).toNatClampNeg), .int (sc (x3 + 2).toNatClampNeg)]) (st := []) C hx (uX7_comes l GX hGX VX (sc (x3 + 1).toNatClampNeg) (sc (x3 + 2).toNatClampNeg)) yvX7_comes mlL_97 (s70 hGX) rfl rfl rfl rfl rfl rfl ⟨Nat.le_of_ble_eq_true rfl, Nat.le_of_ble_eq_true rfl⟩ (Nat.le_of_ble_eq_true rfl) dL_law_860 rfl ?_
  refine l_aload_n (q := 864) C 2 dL_law_863 rfl rfl rfl ?_
  refine l_aload_n (q := 865) C 0 dL_law_864 rfl rfl rfl ?_
  refine l_iload_n (q := 866) C 3 dL_law_865 rfl rfl rfl ?_
  refine l_iconst (q := 867) (v := 1) C dL_law_866 rfl (by decide) ?_
  refine l_iadd (q := 868) C dL_law_867 rfl ?_
  refine l_sld (q := 869) C (hin.2.1) dL_law_868 rfl ?_
  refine l_aload_n (q := 870) C 0 dL_law_869 rfl rfl rfl ?_
  refine l_iload_n (q := 871) C 3 dL_law_870 rfl rfl rfl ?_
  refine l_iconst (q := 872) (v := 2) C dL_law_871 rfl (by decide) ?_
  refine l_iadd (q := 873) C dL_law_872 rfl ?_
  refine l_sld (q := 874) C (hin.2.2.1) dL_law_873 rfl ?_
  refine l_callM (q := 877) (As := [.int (sc (x3 + 1).toNatClampNeg), .int (sc (x3 + 2).toNatClampNeg)]) (st := [.int r]) C hm (uX8_comes l GM hGM VM (sc (x3 + 1).toNatClampNeg) (sc (x3 + 2).toNatClampNeg)) yvX8_comes mlL_100 (s80 hGM) rfl rfl rfl rfl rfl rfl ⟨Nat.le_of_ble_eq_true rfl, Nat.le_of_ble_eq_true rfl⟩ (Nat.le_of_ble_eq_true rfl) dL_law_874 rfl ?_
  refine l_eq (q := 1535) C dL_law_877 (by decide) ?_
  exact kk VX1 VM1 hR1
set_option maxHeartbeats 4000000 in
set_option maxRecDepth 100000 in
theorem lk_20 {l : Launch} {GX GM : gG} {b Ln : Nat} {sc : Nat → Int32} {X : gX} {VX VM : gV} (hGX : gIsX GX) (hGM : gIsM GM) (C : lC GX GM b Ln sc X) {Rel Rel2 : gV → gV → Prop} (hp : ∀ (VX VM : gV) (a0 : Int32), Rel VX VM → gEq Rel2 (fX7_clash VX a0) (fX8_clash VM a0)) (hR : Rel VX VM) {x3 : Int32} (hin : lIn x3 Ln) (kk : ∀ VX VM, Rel2 VX VM → lSm l GX GM X VX VM 1535 [(0, .ref b), (1, .ref (GX.1 0)), (2, .ref (GM.1 0)), (3, .int x3)] []) : lSm l GX GM X VX VM 882 [(0, .ref b), (1, .ref (GX.1 0)), (2, .ref (GM.1 0)), (3, .int x3)] [] := by
  obtain ⟨r, VX1, VM1, hx, hm, hR1⟩ := hp VX VM (sc (x3 + 1).toNatClampNeg) hR
  refine l_aload_n (q := 883) C 1 dL_law_882 rfl rfl rfl ?_
  refine l_aload_n (q := 884) C 0 dL_law_883 rfl rfl rfl ?_
  refine l_iload_n (q := 885) C 3 dL_law_884 rfl rfl rfl ?_
  refine l_iconst (q := 886) (v := 1) C dL_law_885 rfl (by decide) ?_
  refine l_iadd (q := 887) C dL_law_886 rfl ?_
  refine l_sld (q := 888) C (hin.2.1) dL_law_887 rfl ?_
  refine l_callX (q := 891) (As := [.int (sc (x3 + 1).toNatClampNeg)]) (st := []) C hx (uX7_clash l GX hGX VX (sc (x3 + 1).toNatClampNeg)) yvX7_clash mlL_101 (s70 hGX) rfl rfl rfl rfl rfl rfl ⟨Nat.le_of_ble_eq_true rfl, Nat.le_of_ble_eq_true rfl⟩ (Nat.le_of_ble_eq_true rfl) dL_law_888 rfl ?_
  refine l_aload_n (q := 892) C 2 dL_law_891 rfl rfl rfl ?_
  refine l_aload_n (q := 893) C 0 dL_law_892 rfl rfl rfl ?_
  refine l_iload_n (q := 894) C 3 dL_law_893 rfl rfl rfl ?_
  refine l_iconst (q := 895) (v := 1) C dL_law_894 rfl (by decide) ?_
  refine l_iadd (q := 896) C dL_law_895 rfl ?_
  refine l_sld (q := 897) C (hin.2.1) dL_law_896 rfl ?_
  refine l_callM (q := 900) (As := [.int (sc (x3 + 1).toNatClampNeg)]) (st := [.int r]) C hm (uX8_clash l GM hGM VM (sc (x3 + 1).toNatClampNeg)) yvX8_clash mlL_104 (s80 hGM) rfl rfl rfl rfl rfl rfl ⟨Nat.le_of_ble_eq_true rfl, Nat.le_of_ble_eq_true rfl⟩ (Nat.le_of_ble_eq_true rfl) dL_law_897 rfl ?_
  refine l_eq (q := 1535) C dL_law_900 (by decide) ?_
  exact kk VX1 VM1 hR1
set_option maxHeartbeats 4000000 in
set_option maxRecDepth 100000 in
theorem lk_21 {l : Launch} {GX GM : gG} {b Ln : Nat} {sc : Nat → Int32} {X : gX} {VX VM : gV} (hGX : gIsX GX) (hGM : gIsM GM) (C : lC GX GM b Ln sc X) {Rel Rel2 : gV → gV → Prop} (hp : ∀ (VX VM : gV) (a0 : Int32) (a1 : Int32), Rel VX VM → gEq Rel2 (fX7_spares VX a0 a1) (fX8_spares VM a0 a1)) (hR : Rel VX VM) {x3 : Int32} (hin : lIn x3 Ln) (kk : ∀ VX VM, Rel2 VX VM → lSm l GX GM X VX VM 1535 [(0, .ref b), (1, .ref (GX.1 0)), (2, .ref (GM.1 0)), (3, .int x3)] []) : lSm l GX GM X VX VM 905 [(0, .ref b), (1, .ref (GX.1 0)), (2, .ref (GM.1 0)), (3, .int x3)] [] := by
  obtain ⟨r, VX1, VM1, hx, hm, hR1⟩ := hp VX VM (sc (x3 + 1).toNatClampNeg) (sc (x3 + 2).toNatClampNeg) hR
  refine l_aload_n (q := 906) C 1 dL_law_905 rfl rfl rfl ?_
  refine l_aload_n (q := 907) C 0 dL_law_906 rfl rfl rfl ?_
  refine l_iload_n (q := 908) C 3 dL_law_907 rfl rfl rfl ?_
  refine l_iconst (q := 909) (v := 1) C dL_law_908 rfl (by decide) ?_
  refine l_iadd (q := 910) C dL_law_909 rfl ?_
  refine l_sld (q := 911) C (hin.2.1) dL_law_910 rfl ?_
  refine l_aload_n (q := 912) C 0 dL_law_911 rfl rfl rfl ?_
  refine l_iload_n (q := 913) C 3 dL_law_912 rfl rfl rfl ?_
  refine l_iconst (q := 914) (v := 2) C dL_law_913 rfl (by decide) ?_
  refine l_iadd (q := 915) C dL_law_914 rfl ?_
  refine l_sld (q := 916) C (hin.2.2.1) dL_law_915 rfl ?_
  refine l_callX (q := 919) (As := [.int (sc (x3 + 1).toNatClampNeg), .int (sc (x3 + 2).toNatClampNeg)]) (st := []) C hx (uX7_spares l GX hGX VX (sc (x3 + 1).toNatClampNeg) (sc (x3 + 2).toNatClampNeg)) yvX7_spares mlL_105 (s70 hGX) rfl rfl rfl rfl rfl rfl ⟨Nat.le_of_ble_eq_true rfl, Nat.le_of_ble_eq_true rfl⟩ (Nat.le_of_ble_eq_true rfl) dL_law_916 rfl ?_
  refine l_aload_n (q := 920) C 2 dL_law_919 rfl rfl rfl ?_
  refine l_aload_n (q := 921) C 0 dL_law_920 rfl rfl rfl ?_
  refine l_iload_n (q := 922) C 3 dL_law_921 rfl rfl rfl ?_
  refine l_iconst (q := 923) (v := 1) C dL_law_922 rfl (by decide) ?_
  refine l_iadd (q := 924) C dL_law_923 rfl ?_
  refine l_sld (q := 925) C (hin.2.1) dL_law_924 rfl ?_
  refine l_aload_n (q := 926) C 0 dL_law_925 rfl rfl rfl ?_
  refine l_iload_n (q := 927) C 3 dL_law_926 rfl rfl rfl ?_
  refine l_iconst (q := 928) (v := 2) C dL_law_927 rfl (by decide) ?_
  refine l_iadd (q := 929) C dL_law_928 rfl ?_
  refine l_sld (q := 930) C (hin.2.2.1) dL_law_929 rfl ?_
  refine l_callM (q := 933) (As := [.int (sc (x3 + 1).toNatClampNeg), .int (sc (x3 + 2).toNatClampNeg)]) (st := [.int r]) C hm (uX8_spares l GM hGM VM (sc (x3 + 1).toNatClampNeg) (sc (x3 + 2).toNatClampNeg)) yvX8_spares mlL_108 (s80 hGM) rfl rfl rfl rfl rfl rfl ⟨Nat.le_of_ble_eq_true rfl, Nat.le_of_ble_eq_true rfl⟩ (Nat.le_of_ble_eq_true rfl) dL_law_930 rfl ?_
  refine l_eq (q := 1535) C dL_law_933 (by decide) ?_
  exact kk VX1 VM1 hR1
set_option maxHeartbeats 4000000 in
set_option maxRecDepth 100000 in
theorem lk_22 {l : Launch} {GX GM : gG} {b Ln : Nat} {sc : Nat → Int32} {X : gX} {VX VM : gV} (hGX : gIsX GX) (hGM : gIsM GM) (C : lC GX GM b Ln sc X) {Rel Rel2 : gV → gV → Prop} (hp : ∀ (VX VM : gV) (a0 : Int32) (a1 : Int32) (a2 : Int32), Rel VX VM → gEq Rel2 (fX7_hurry VX a0 a1 a2) (fX8_hurry VM a0 a1 a2)) (hR : Rel VX VM) {x3 : Int32} (hin : lIn x3 Ln) (kk : ∀ VX VM, Rel2 VX VM → lSm l GX GM X VX VM 1535 [(0, .ref b), (1, .ref (GX.1 0)), (2, .ref (GM.1 0)), (3, .int x3)] []) : lSm l GX GM X VX VM 938 [(0, .ref b), (1, .ref (GX.1 0)), (2, .ref (GM.1 0)), (3, .int x3)] [] := by
  obtain ⟨r, VX1, VM1, hx, hm, hR1⟩ := hp VX VM (sc (x3 + 1).toNatClampNeg) (sc (x3 + 2).toNatClampNeg) (sc (x3 + 3).toNatClampNeg) hR
  refine l_aload_n (q := 939) C 1 dL_law_938 rfl rfl rfl ?_
  refine l_aload_n (q := 940) C 0 dL_law_939 rfl rfl rfl ?_
  refine l_iload_n (q := 941) C 3 dL_law_940 rfl rfl rfl ?_
  refine l_iconst (q := 942) (v := 1) C dL_law_941 rfl (by decide) ?_
  refine l_iadd (q := 943) C dL_law_942 rfl ?_
  refine l_sld (q := 944) C (hin.2.1) dL_law_943 rfl ?_
  refine l_aload_n (q := 945) C 0 dL_law_944 rfl rfl rfl ?_
  refine l_iload_n (q := 946) C 3 dL_law_945 rfl rfl rfl ?_
  refine l_iconst (q := 947) (v := 2) C dL_law_946 rfl (by decide) ?_
  refine l_iadd (q := 948) C dL_law_947 rfl ?_
  refine l_sld (q := 949) C (hin.2.2.1) dL_law_948 rfl ?_
  refine l_aload_n (q := 950) C 0 dL_law_949 rfl rfl rfl ?_
  refine l_iload_n (q := 951) C 3 dL_law_950 rfl rfl rfl ?_
  refine l_iconst (q := 952) (v := 3) C dL_law_951 rfl (by decide) ?_
  refine l_iadd (q := 953) C dL_law_952 rfl ?_
  refine l_sld (q := 954) C (hin.2.2.2.1) dL_law_953 rfl ?_
  refine l_callX (q := 957) (As := [.int (sc (x3 + 1).toNatClampNeg), .int (sc (x3 + 2).toNatClampNeg), .int (sc (x3 + 3).toNatClampNeg)]) (st := []) C hx (uX7_hurry l GX hGX VX (sc (x3 + 1).toNatClampNeg) (sc (x3 + 2).toNatClampNeg) (sc (x3 + 3).toNatClampNeg)) yvX7_hurry mlL_109 (s70 hGX) rfl rfl rfl rfl rfl rfl ⟨Nat.le_of_ble_eq_true rfl, Nat.le_of_ble_eq_true rfl⟩ (Nat.le_of_ble_eq_true rfl) dL_law_954 rfl ?_
  refine l_aload_n (q := 958) C 2 dL_law_957 rfl rfl rfl ?_
  refine l_aload_n (q := 959) C 0 dL_law_958 rfl rfl rfl ?_
  refine l_iload_n (q := 960) C 3 dL_law_959 rfl rfl rfl ?_
  refine l_iconst (q := 961) (v := 1) C dL_law_960 rfl (by decide) ?_
  refine l_iadd (q := 962) C dL_law_961 rfl ?_
  refine l_sld (q := 963) C (hin.2.1) dL_law_962 rfl ?_
  refine l_aload_n (q := 964) C 0 dL_law_963 rfl rfl rfl ?_
  refine l_iload_n (q := 965) C 3 dL_law_964 rfl rfl rfl ?_
  refine l_iconst (q := 966) (v := 2) C dL_law_965 rfl (by decide) ?_
  refine l_iadd (q := 967) C dL_law_966 rfl ?_
  refine l_sld (q := 968) C (hin.2.2.1) dL_law_967 rfl ?_
  refine l_aload_n (q := 969) C 0 dL_law_968 rfl rfl rfl ?_
  refine l_iload_n (q := 970) C 3 dL_law_969 rfl rfl rfl ?_
  refine l_iconst (q := 971) (v := 3) C dL_law_970 rfl (by decide) ?_
  refine l_iadd (q := 972) C dL_law_971 rfl ?_
  refine l_sld (q := 973) C (hin.2.2.2.1) dL_law_972 rfl ?_
  refine l_callM (q := 976) (As := [.int (sc (x3 + 1).toNatClampNeg), .int (sc (x3 + 2).toNatClampNeg), .int (sc (x3 + 3).toNatClampNeg)]) (st := [.int r]) C hm (uX8_hurry l GM hGM VM (sc (x3 + 1).toNatClampNeg) (sc (x3 + 2).toNatClampNeg) (sc (x3 + 3).toNatClampNeg)) yvX8_hurry mlL_112 (s80 hGM) rfl rfl rfl rfl rfl rfl ⟨Nat.le_of_ble_eq_true rfl, Nat.le_of_ble_eq_true rfl⟩ (Nat.le_of_ble_eq_true rfl) dL_law_973 rfl ?_
  refine l_eq (q := 1535) C dL_law_976 (by decide) ?_
  exact kk VX1 VM1 hR1
set_option maxHeartbeats 4000000 in
set_option maxRecDepth 100000 in
theorem lk_23 {l : Launch} {GX GM : gG} {b Ln : Nat} {sc : Nat → Int32} {X : gX} {VX VM : gV} (hGX : gIsX GX) (hGM : gIsM GM) (C : lC GX GM b Ln sc X) {Rel Rel2 : gV → gV → Prop} (hp : ∀ (VX VM : gV) (a0 : Int32), Rel VX VM → gEq Rel2 (fX7_fits VX a0) (fX8_fits VM a0)) (hR : Rel VX VM) {x3 : Int32} (hin : lIn x3 Ln) (kk : ∀ VX VM, Rel2 VX VM → lSm l GX GM X VX VM 1535 [(0, .ref b), (1, .ref (GX.1 0)), (2, .ref (GM.1 0)), (3, .int x3)] []) : lSm l GX GM X VX VM 981 [(0, .ref b), (1, .ref (GX.1 0)), (2, .ref (GM.1 0)), (3, .int x3)] [] := by
  obtain ⟨r, VX1, VM1, hx, hm, hR1⟩ := hp VX VM (sc (x3 + 1).toNatClampNeg) hR
  refine l_aload_n (q := 982) C 1 dL_law_981 rfl rfl rfl ?_
  refine l_aload_n (q := 983) C 0 dL_law_982 rfl rfl rfl ?_
  refine l_iload_n (q := 984) C 3 dL_law_983 rfl rfl rfl ?_
  refine l_iconst (q := 985) (v := 1) C dL_law_984 rfl (by decide) ?_
  refine l_iadd (q := 986) C dL_law_985 rfl ?_
  refine l_sld (q := 987) C (hin.2.1) dL_law_986 rfl ?_
  refine l_callX (q := 990) (As := [.int (sc (x3 + 1).toNatClampNeg)]) (st := []) C hx (uX7_fits l GX hGX VX (sc (x3 + 1).toNatClampNeg)) yvX7_fits mlL_113 (s70 hGX) rfl rfl rfl rfl rfl rfl ⟨Nat.le_of_ble_eq_true rfl, Nat.le_of_ble_eq_true rfl⟩ (Nat.le_of_ble_eq_true rfl) dL_law_987 rfl ?_
  refine l_aload_n (q := 991) C 2 dL_law_990 rfl rfl rfl ?_
  refine l_aload_n (q := 992) C 0 dL_law_991 rfl rfl rfl ?_
  refine l_iload_n (q := 993) C 3 dL_law_992 rfl rfl rfl ?_
  refine l_iconst (q := 994) (v := 1) C dL_law_993 rfl (by decide) ?_
  refine l_iadd (q := 995) C dL_law_994 rfl ?_
  refine l_sld (q := 996) C (hin.2.1) dL_law_995 rfl ?_
  refine l_callM (q := 999) (As := [.int (sc (x3 + 1).toNatClampNeg)]) (st := [.int r]) C hm (uX8_fits l GM hGM VM (sc (x3 + 1).toNatClampNeg)) yvX8_fits mlL_116 (s80 hGM) rfl rfl rfl rfl rfl rfl ⟨Nat.le_of_ble_eq_true rfl, Nat.le_of_ble_eq_true rfl⟩ (Nat.le_of_ble_eq_true rfl) dL_law_996 rfl ?_
  refine l_eq (q := 1535) C dL_law_999 (by decide) ?_
  exact kk VX1 VM1 hR1
set_option maxHeartbeats 4000000 in
set_option maxRecDepth 100000 in
theorem lk_24 {l : Launch} {GX GM : gG} {b Ln : Nat} {sc : Nat → Int32} {X : gX} {VX VM : gV} (hGX : gIsX GX) (hGM : gIsM GM) (C : lC GX GM b Ln sc X) {Rel Rel2 : gV → gV → Prop} (hp : ∀ (VX VM : gV) (a0 : Int32) (a1 : Int32) (a2 : Int32) (a3 : Int32) (a4 : Int32), Rel VX VM → gEq Rel2 (fX7_howFar VX a0 a1 a2 a3 a4) (fX8_howFar VM a0 a1 a2 a3 a4)) (hR : Rel VX VM) {x3 : Int32} (hin : lIn x3 Ln) (kk : ∀ VX VM, Rel2 VX VM → lSm l GX GM X VX VM 1535 [(0, .ref b), (1, .ref (GX.1 0)), (2, .ref (GM.1 0)), (3, .int x3)] []) : lSm l GX GM X VX VM 1004 [(0, .ref b), (1, .ref (GX.1 0)), (2, .ref (GM.1 0)), (3, .int x3)] [] := by
  obtain ⟨r, VX1, VM1, hx, hm, hR1⟩ := hp VX VM (sc (x3 + 1).toNatClampNeg) (sc (x3 + 2).toNatClampNeg) (sc (x3 + 3).toNatClampNeg) (sc (x3 + 4).toNatClampNeg) (sc (x3 + 5).toNatClampNeg) hR
  refine l_aload_n (q := 1005) C 1 dL_law_1004 rfl rfl rfl ?_
  refine l_aload_n (q := 1006) C 0 dL_law_1005 rfl rfl rfl ?_
  refine l_iload_n (q := 1007) C 3 dL_law_1006 rfl rfl rfl ?_
  refine l_iconst (q := 1008) (v := 1) C dL_law_1007 rfl (by decide) ?_
  refine l_iadd (q := 1009) C dL_law_1008 rfl ?_
  refine l_sld (q := 1010) C (hin.2.1) dL_law_1009 rfl ?_
  refine l_aload_n (q := 1011) C 0 dL_law_1010 rfl rfl rfl ?_
  refine l_iload_n (q := 1012) C 3 dL_law_1011 rfl rfl rfl ?_
  refine l_iconst (q := 1013) (v := 2) C dL_law_1012 rfl (by decide) ?_
  refine l_iadd (q := 1014) C dL_law_1013 rfl ?_
  refine l_sld (q := 1015) C (hin.2.2.1) dL_law_1014 rfl ?_
  refine l_aload_n (q := 1016) C 0 dL_law_1015 rfl rfl rfl ?_
  refine l_iload_n (q := 1017) C 3 dL_law_1016 rfl rfl rfl ?_
  refine l_iconst (q := 1018) (v := 3) C dL_law_1017 rfl (by decide) ?_
  refine l_iadd (q := 1019) C dL_law_1018 rfl ?_
  refine l_sld (q := 1020) C (hin.2.2.2.1) dL_law_1019 rfl ?_
  refine l_aload_n (q := 1021) C 0 dL_law_1020 rfl rfl rfl ?_
  refine l_iload_n (q := 1022) C 3 dL_law_1021 rfl rfl rfl ?_
  refine l_iconst (q := 1023) (v := 4) C dL_law_1022 rfl (by decide) ?_
  refine l_iadd (q := 1024) C dL_law_1023 rfl ?_
  refine l_sld (q := 1025) C (hin.2.2.2.2.1) dL_law_1024 rfl ?_
  refine l_aload_n (q := 1026) C 0 dL_law_1025 rfl rfl rfl ?_
  refine l_iload_n (q := 1027) C 3 dL_law_1026 rfl rfl rfl ?_
  refine l_iconst (q := 1028) (v := 5) C dL_law_1027 rfl (by decide) ?_
  refine l_iadd (q := 1029) C dL_law_1028 rfl ?_
  refine l_sld (q := 1030) C (hin.2.2.2.2.2) dL_law_1029 rfl ?_
  refine l_callX (q := 1033) (As := [.int (sc (x3 + 1).toNatClampNeg), .int (sc (x3 + 2).toNatClampNeg), .int (sc (x3 + 3).toNatClampNeg), .int (sc (x3 + 4).toNatClampNeg), .int (sc (x3 + 5).toNatClampNeg)]) (st := []) C hx (uX7_howFar l GX hGX VX (sc (x3 + 1).toNatClampNeg) (sc (x3 + 2).toNatClampNeg) (sc (x3 + 3).toNatClampNeg) (sc (x3 + 4).toNatClampNeg) (sc (x3 + 5).toNatClampNeg)) yvX7_howFar mlL_117 (s70 hGX) rfl rfl rfl rfl rfl rfl ⟨Nat.le_of_ble_eq_true rfl, Nat.le_of_ble_eq_true rfl⟩ (Nat.le_of_ble_eq_true rfl) dL_law_1030 rfl ?_
  refine l_aload_n (q := 1034) C 2 dL_law_1033 rfl rfl rfl ?_
  refine l_aload_n (q := 1035) C 0 dL_law_1034 rfl rfl rfl ?_
  refine l_iload_n (q := 1036) C 3 dL_law_1035 rfl rfl rfl ?_
  refine l_iconst (q := 1037) (v := 1) C dL_law_1036 rfl (by decide) ?_
  refine l_iadd (q := 1038) C dL_law_1037 rfl ?_
  refine l_sld (q := 1039) C (hin.2.1) dL_law_1038 rfl ?_
  refine l_aload_n (q := 1040) C 0 dL_law_1039 rfl rfl rfl ?_
  refine l_iload_n (q := 1041) C 3 dL_law_1040 rfl rfl rfl ?_
  refine l_iconst (q := 1042) (v := 2) C dL_law_1041 rfl (by decide) ?_
  refine l_iadd (q := 1043) C dL_law_1042 rfl ?_
  refine l_sld (q := 1044) C (hin.2.2.1) dL_law_1043 rfl ?_
  refine l_aload_n (q := 1045) C 0 dL_law_1044 rfl rfl rfl ?_
  refine l_iload_n (q := 1046) C 3 dL_law_1045 rfl rfl rfl ?_
  refine l_iconst (q := 1047) (v := 3) C dL_law_1046 rfl (by decide) ?_
  refine l_iadd (q := 1048) C dL_law_1047 rfl ?_
  refine l_sld (q := 1049) C (hin.2.2.2.1) dL_law_1048 rfl ?_
  refine l_aload_n (q := 1050) C 0 dL_law_1049 rfl rfl rfl ?_
  refine l_iload_n (q := 1051) C 3 dL_law_1050 rfl rfl rfl ?_
  refine l_iconst (q := 1052) (v := 4) C dL_law_1051 rfl (by decide) ?_
  refine l_iadd (q := 1053) C dL_law_1052 rfl ?_
  refine l_sld (q := 1054) C (hin.2.2.2.2.1) dL_law_1053 rfl ?_
  refine l_aload_n (q := 1055) C 0 dL_law_1054 rfl rfl rfl ?_
  refine l_iload_n (q := 1056) C 3 dL_law_1055 rfl rfl rfl ?_
  refine l_iconst (q := 1057) (v := 5) C dL_law_1056 rfl (by decide) ?_
  refine l_iadd (q := 1058) C dL_law_1057 rfl ?_
  refine l_sld (q := 1059) C (hin.2.2.2.2.2) dL_law_1058 rfl ?_
  refine l_callM (q := 1062) (As := [.int (sc (x3 + 1).toNatClampNeg), .int (sc (x3 + 2).toNatClampNeg), .int (sc (x3 + 3).toNatClampNeg), .int (sc (x3 + 4).toNatClampNeg), .int (sc (x3 + 5).toNatClampNeg)]) (st := [.int r]) C hm (uX8_howFar l GM hGM VM (sc (x3 + 1).toNatClampNeg) (sc (x3 + 2).toNatClampNeg) (sc (x3 + 3).toNatClampNeg) (sc (x3 + 4).toNatClampNeg) (sc (x3 + 5).toNatClampNeg)) yvX8_howFar mlL_121 (s80 hGM) rfl rfl rfl rfl rfl rfl ⟨Nat.le_of_ble_eq_true rfl, Nat.le_of_ble_eq_true rfl⟩ (Nat.le_of_ble_eq_true rfl) dL_law_1059 rfl ?_
  refine l_eq (q := 1535) C dL_law_1062 (by decide) ?_
  exact kk VX1 VM1 hR1
set_option maxHeartbeats 4000000 in
set_option maxRecDepth 100000 in
theorem lk_25 {l : Launch} {GX GM : gG} {b Ln : Nat} {sc : Nat → Int32} {X : gX} {VX VM : gV} (hGX : gIsX GX) (hGM : gIsM GM) (C : lC GX GM b Ln sc X) {Rel Rel2 : gV → gV → Prop} (hp : ∀ (VX VM : gV) (a0 : Int32), Rel VX VM → gEq Rel2 (fX7_lends VX a0) (fX8_lends VM a0)) (hR : Rel VX VM) {x3 : Int32} (hin : lIn x3 Ln) (kk : ∀ VX VM, Rel2 VX VM → lSm l GX GM X VX VM 1535 [(0, .ref b), (1, .ref (GX.1 0)), (2, .ref (GM.1 0)), (3, .int x3)] []) : lSm l GX GM X VX VM 1067 [(0, .ref b), (1, .ref (GX.1 0)), (2, .ref (GM.1 0)), (3, .int x3)] [] := by
  obtain ⟨r, VX1, VM1, hx, hm, hR1⟩ := hp VX VM (sc (x3 + 1).toNatClampNeg) hR
  refine l_aload_n (q := 1068) C 1 dL_law_1067 rfl rfl rfl ?_
  refine l_aload_n (q := 1069) C 0 dL_law_1068 rfl rfl rfl ?_
  refine l_iload_n (q := 1070) C 3 dL_law_1069 rfl rfl rfl ?_
  refine l_iconst (q := 1071) (v := 1) C dL_law_1070 rfl (by decide) ?_
  refine l_iadd (q := 1072) C dL_law_1071 rfl ?_
  refine l_sld (q := 1073) C (hin.2.1) dL_law_1072 rfl ?_
  refine l_callX (q := 1076) (As := [.int (sc (x3 + 1).toNatClampNeg)]) (st := []) C hx (uX7_lends l GX hGX VX (sc (x3 + 1).toNatClampNeg)) yvX7_lends mlL_122 (s70 hGX) rfl rfl rfl rfl rfl rfl ⟨Nat.le_of_ble_eq_true rfl, Nat.le_of_ble_eq_true rfl⟩ (Nat.le_of_ble_eq_true rfl) dL_law_1073 rfl ?_
  refine l_aload_n (q := 1077) C 2 dL_law_1076 rfl rfl rfl ?_
  refine l_aload_n (q := 1078) C 0 dL_law_1077 rfl rfl rfl ?_
  refine l_iload_n (q := 1079) C 3 dL_law_1078 rfl rfl rfl ?_
  refine l_iconst (q := 1080) (v := 1) C dL_law_1079 rfl (by decide) ?_
  refine l_iadd (q := 1081) C dL_law_1080 rfl ?_
  refine l_sld (q := 1082) C (hin.2.1) dL_law_1081 rfl ?_
  refine l_callM (q := 1085) (As := [.int (sc (x3 + 1).toNatClampNeg)]) (st := [.int r]) C hm (uX8_lends l GM hGM VM (sc (x3 + 1).toNatClampNeg)) yvX8_lends mlL_125 (s80 hGM) rfl rfl rfl rfl rfl rfl ⟨Nat.le_of_ble_eq_true rfl, Nat.le_of_ble_eq_true rfl⟩ (Nat.le_of_ble_eq_true rfl) dL_law_1082 rfl ?_
  refine l_eq (q := 1535) C dL_law_1085 (by decide) ?_
  exact kk VX1 VM1 hR1
set_option maxHeartbeats 4000000 in
set_option maxRecDepth 100000 in
theorem lk_26 {l : Launch} {GX GM : gG} {b Ln : Nat} {sc : Nat → Int32} {X : gX} {VX VM : gV} (hGX : gIsX GX) (hGM : gIsM GM) (C : lC GX GM b Ln sc X) {Rel Rel2 : gV → gV → Prop} (hp : ∀ (VX VM : gV) (a0 : Int32) (a1 : Int32) (a2 : Int32) (a3 : Int32), Rel VX VM → gEq Rel2 (fX7_odds VX a0 a1 a2 a3) (fX8_odds VM a0 a1 a2 a3)) (hR : Rel VX VM) {x3 : Int32} (hin : lIn x3 Ln) (kk : ∀ VX VM, Rel2 VX VM → lSm l GX GM X VX VM 1535 [(0, .ref b), (1, .ref (GX.1 0)), (2, .ref (GM.1 0)), (3, .int x3)] []) : lSm l GX GM X VX VM 1090 [(0, .ref b), (1, .ref (GX.1 0)), (2, .ref (GM.1 0)), (3, .int x3)] [] := by
  obtain ⟨r, VX1, VM1, hx, hm, hR1⟩ := hp VX VM (sc (x3 + 1).toNatClampNeg) (sc (x3 + 2).toNatClampNeg) (sc (x3 + 3).toNatClampNeg) (sc (x3 + 4).toNatClampNeg) hR
  refine l_aload_n (q := 1091) C 1 dL_law_1090 rfl rfl rfl ?_
  refine l_aload_n (q := 1092) C 0 dL_law_1091 rfl rfl rfl ?_
  refine l_iload_n (q := 1093) C 3 dL_law_1092 rfl rfl rfl ?_
  refine l_iconst (q := 1094) (v := 1) C dL_law_1093 rfl (by decide) ?_
  refine l_iadd (q := 1095) C dL_law_1094 rfl ?_
  refine l_sld (q := 1096) C (hin.2.1) dL_law_1095 rfl ?_
  refine l_aload_n (q := 1097) C 0 dL_law_1096 rfl rfl rfl ?_
  refine l_iload_n (q := 1098) C 3 dL_law_1097 rfl rfl rfl ?_
  refine l_iconst (q := 1099) (v := 2) C dL_law_1098 rfl (by decide) ?_
  refine l_iadd (q := 1100) C dL_law_1099 rfl ?_
  refine l_sld (q := 1101) C (hin.2.2.1) dL_law_1100 rfl ?_
  refine l_aload_n (q := 1102) C 0 dL_law_1101 rfl rfl rfl ?_
  refine l_iload_n (q := 1103) C 3 dL_law_1102 rfl rfl rfl ?_
  refine l_iconst (q := 1104) (v := 3) C dL_law_1103 rfl (by decide) ?_
  refine l_iadd (q := 1105) C dL_law_1104 rfl ?_
  refine l_sld (q := 1106) C (hin.2.2.2.1) dL_law_1105 rfl ?_
  refine l_aload_n (q := 1107) C 0 dL_law_1106 rfl rfl rfl ?_
  refine l_iload_n (q := 1108) C 3 dL_law_1107 rfl rfl rfl ?_
  refine l_iconst (q := 1109) (v := 4) C dL_law_1108 rfl (by decide) ?_
  refine l_iadd (q := 1110) C dL_law_1109 rfl ?_
  refine l_sld (q := 1111) C (hin.2.2.2.2.1) dL_law_1110 rfl ?_
  refine l_callX (q := 1114) (As := [.int (sc (x3 + 1).toNatClampNeg), .int (sc (x3 + 2).toNatClampNeg), .int (sc (x3 + 3).toNatClampNeg), .int (sc (x3 + 4).toNatClampNeg)]) (st := []) C hx (uX7_odds l GX hGX VX (sc (x3 + 1).toNatClampNeg) (sc (x3 + 2).toNatClampNeg) (sc (x3 + 3).toNatClampNeg) (sc (x3 + 4).toNatClampNeg)) yvX7_odds mlL_126 (s70 hGX) rfl rfl rfl rfl rfl rfl ⟨Nat.le_of_ble_eq_true rfl, Nat.le_of_ble_eq_true rfl⟩ (Nat.le_of_ble_eq_true rfl) dL_law_1111 rfl ?_
  refine l_aload_n (q := 1115) C 2 dL_law_1114 rfl rfl rfl ?_
  refine l_aload_n (q := 1116) C 0 dL_law_1115 rfl rfl rfl ?_
  refine l_iload_n (q := 1117) C 3 dL_law_1116 rfl rfl rfl ?_
  refine l_iconst (q := 1118) (v := 1) C dL_law_1117 rfl (by decide) ?_
  refine l_iadd (q := 1119) C dL_law_1118 rfl ?_
  refine l_sld (q := 1120) C (hin.2.1) dL_law_1119 rfl ?_
  refine l_aload_n (q := 1121) C 0 dL_law_1120 rfl rfl rfl ?_
  refine l_iload_n (q := 1122) C 3 dL_law_1121 rfl rfl rfl ?_
  refine l_iconst (q := 1123) (v := 2) C dL_law_1122 rfl (by decide) ?_
  refine l_iadd (q := 1124) C dL_law_1123 rfl ?_
  refine l_sld (q := 1125) C (hin.2.2.1) dL_law_1124 rfl ?_
  refine l_aload_n (q := 1126) C 0 dL_law_1125 rfl rfl rfl ?_
  refine l_iload_n (q := 1127) C 3 dL_law_1126 rfl rfl rfl ?_
  refine l_iconst (q := 1128) (v := 3) C dL_law_1127 rfl (by decide) ?_
  refine l_iadd (q := 1129) C dL_law_1128 rfl ?_
  refine l_sld (q := 1130) C (hin.2.2.2.1) dL_law_1129 rfl ?_
  refine l_aload_n (q := 1131) C 0 dL_law_1130 rfl rfl rfl ?_
  refine l_iload_n (q := 1132) C 3 dL_law_1131 rfl rfl rfl ?_
  refine l_iconst (q := 1133) (v := 4) C dL_law_1132 rfl (by decide) ?_
  refine l_iadd (q := 1134) C dL_law_1133 rfl ?_
  refine l_sld (q := 1135) C (hin.2.2.2.2.1) dL_law_1134 rfl ?_
  refine l_callM (q := 1138) (As := [.int (sc (x3 + 1).toNatClampNeg), .int (sc (x3 + 2).toNatClampNeg), .int (sc (x3 + 3).toNatClampNeg), .int (sc (x3 + 4).toNatClampNeg)]) (st := [.int r]) C hm (uX8_odds l GM hGM VM (sc (x3 + 1).toNatClampNeg) (sc (x3 + 2).toNatClampNeg) (sc (x3 + 3).toNatClampNeg) (sc (x3 + 4).toNatClampNeg)) yvX8_odds mlL_129 (s80 hGM) rfl rfl rfl rfl rfl rfl ⟨Nat.le_of_ble_eq_true rfl, Nat.le_of_ble_eq_true rfl⟩ (Nat.le_of_ble_eq_true rfl) dL_law_1135 rfl ?_
  refine l_eq (q := 1535) C dL_law_1138 (by decide) ?_
  exact kk VX1 VM1 hR1
set_option maxHeartbeats 4000000 in
set_option maxRecDepth 100000 in
theorem lk_27 {l : Launch} {GX GM : gG} {b Ln : Nat} {sc : Nat → Int32} {X : gX} {VX VM : gV} (hGX : gIsX GX) (hGM : gIsM GM) (C : lC GX GM b Ln sc X) {Rel Rel2 : gV → gV → Prop} (hp : ∀ (VX VM : gV) (a0 : Int32), Rel VX VM → gEq Rel2 (fX7_seed VX a0) (fX8_seed VM a0)) (hR : Rel VX VM) {x3 : Int32} (hin : lIn x3 Ln) (kk : ∀ VX VM, Rel2 VX VM → lSm l GX GM X VX VM 1535 [(0, .ref b), (1, .ref (GX.1 0)), (2, .ref (GM.1 0)), (3, .int x3)] []) : lSm l GX GM X VX VM 1143 [(0, .ref b), (1, .ref (GX.1 0)), (2, .ref (GM.1 0)), (3, .int x3)] [] := by
  obtain ⟨r, VX1, VM1, hx, hm, hR1⟩ := hp VX VM (sc (x3 + 1).toNatClampNeg) hR
  refine l_aload_n (q := 1144) C 1 dL_law_1143 rfl rfl rfl ?_
  refine l_aload_n (q := 1145) C 0 dL_law_1144 rfl rfl rfl ?_
  refine l_iload_n (q := 1146) C 3 dL_law_1145 rfl rfl rfl ?_
  refine l_iconst (q := 1147) (v := 1) C dL_law_1146 rfl (by decide) ?_
  refine l_iadd (q := 1148) C dL_law_1147 rfl ?_
  refine l_sld (q := 1149) C (hin.2.1) dL_law_1148 rfl ?_
  refine l_callX (q := 1152) (As := [.int (sc (x3 + 1).toNatClampNeg)]) (st := []) C hx (uX7_seed l GX hGX VX (sc (x3 + 1).toNatClampNeg)) yvX7_seed mlL_130 (s70 hGX) rfl rfl rfl rfl rfl rfl ⟨Nat.le_of_ble_eq_true rfl, Nat.le_of_ble_eq_true rfl⟩ (Nat.le_of_ble_eq_true rfl) dL_law_1149 rfl ?_
  refine l_aload_n (q := 1153) C 2 dL_law_1152 rfl rfl rfl ?_
  refine l_aload_n (q := 1154) C 0 dL_law_1153 rfl rfl rfl ?_
  refine l_iload_n (q := 1155) C 3 dL_law_1154 rfl rfl rfl ?_
  refine l_iconst (q := 1156) (v := 1) C dL_law_1155 rfl (by decide) ?_
  refine l_iadd (q := 1157) C dL_law_1156 rfl ?_
  refine l_sld (q := 1158) C (hin.2.1) dL_law_1157 rfl ?_
  refine l_callM (q := 1161) (As := [.int (sc (x3 + 1).toNatClampNeg)]) (st := [.int r]) C hm (uX8_seed l GM hGM VM (sc (x3 + 1).toNatClampNeg)) yvX8_seed mlL_133 (s80 hGM) rfl rfl rfl rfl rfl rfl ⟨Nat.le_of_ble_eq_true rfl, Nat.le_of_ble_eq_true rfl⟩ (Nat.le_of_ble_eq_true rfl) dL_law_1158 rfl ?_
  refine l_eq (q := 1535) C dL_law_1161 (by decide) ?_
  exact kk VX1 VM1 hR1
set_option maxHeartbeats 4000000 in
set_option maxRecDepth 100000 in
theorem lk_28 {l : Launch} {GX GM : gG} {b Ln : Nat} {sc : Nat → Int32} {X : gX} {VX VM : gV} (hGX : gIsX GX) (hGM : gIsM GM) (C : lC GX GM b Ln sc X) {Rel Rel2 : gV → gV → Prop} (hp : ∀ (VX VM : gV) (a0 : Int32) (a1 : Int32) (a2 : Int32), Rel VX VM → gEq Rel2 (fX7_voice VX a0 a1 a2) (fX8_voice VM a0 a1 a2)) (hR : Rel VX VM) {x3 : Int32} (hin : lIn x3 Ln) (kk : ∀ VX VM, Rel2 VX VM → lSm l GX GM X VX VM 1535 [(0, .ref b), (1, .ref (GX.1 0)), (2, .ref (GM.1 0)), (3, .int x3)] []) : lSm l GX GM X VX VM 1166 [(0, .ref b), (1, .ref (GX.1 0)), (2, .ref (GM.1 0)), (3, .int x3)] [] := by
  obtain ⟨r, VX1, VM1, hx, hm, hR1⟩ := hp VX VM (sc (x3 + 1).toNatClampNeg) (sc (x3 + 2).toNatClampNeg) (sc (x3 + 3).toNatClampNeg) hR
  refine l_aload_n (q := 1167) C 1 dL_law_1166 rfl rfl rfl ?_
  refine l_aload_n (q := 1168) C 0 dL_law_1167 rfl rfl rfl ?_
  refine l_iload_n (q := 1169) C 3 dL_law_1168 rfl rfl rfl ?_
  refine l_iconst (q := 1170) (v := 1) C dL_law_1169 rfl (by decide) ?_
  refine l_iadd (q := 1171) C dL_law_1170 rfl ?_
  refine l_sld (q := 1172) C (hin.2.1) dL_law_1171 rfl ?_
  refine l_aload_n (q := 1173) C 0 dL_law_1172 rfl rfl rfl ?_
  refine l_iload_n (q := 1174) C 3 dL_law_1173 rfl rfl rfl ?_
  refine l_iconst (q := 1175) (v := 2) C dL_law_1174 rfl (by decide) ?_
  refine l_iadd (q := 1176) C dL_law_1175 rfl ?_
  refine l_sld (q := 1177) C (hin.2.2.1) dL_law_1176 rfl ?_
  refine l_aload_n (q := 1178) C 0 dL_law_1177 rfl rfl rfl ?_
  refine l_iload_n (q := 1179) C 3 dL_law_1178 rfl rfl rfl ?_
  refine l_iconst (q := 1180) (v := 3) C dL_law_1179 rfl (by decide) ?_
  refine l_iadd (q := 1181) C dL_law_1180 rfl ?_
  refine l_sld (q := 1182) C (hin.2.2.2.1) dL_law_1181 rfl ?_
  refine l_callX (q := 1185) (As := [.int (sc (x3 + 1).toNatClampNeg), .int (sc (x3 + 2).toNatClampNeg), .int (sc (x3 + 3).toNatClampNeg)]) (st := []) C hx (uX7_voice l GX hGX VX (sc (x3 + 1).toNatClampNeg) (sc (x3 + 2).toNatClampNeg) (sc (x3 + 3).toNatClampNeg)) yvX7_voice mlL_134 (s70 hGX) rfl rfl rfl rfl rfl rfl ⟨Nat.le_of_ble_eq_true rfl, Nat.le_of_ble_eq_true rfl⟩ (Nat.le_of_ble_eq_true rfl) dL_law_1182 rfl ?_
  refine l_aload_n (q := 1186) C 2 dL_law_1185 rfl rfl rfl ?_
  refine l_aload_n (q := 1187) C 0 dL_law_1186 rfl rfl rfl ?_
  refine l_iload_n (q := 1188) C 3 dL_law_1187 rfl rfl rfl ?_
  refine l_iconst (q := 1189) (v := 1) C dL_law_1188 rfl (by decide) ?_
  refine l_iadd (q := 1190) C dL_law_1189 rfl ?_
  refine l_sld (q := 1191) C (hin.2.1) dL_law_1190 rfl ?_
  refine l_aload_n (q := 1192) C 0 dL_law_1191 rfl rfl rfl ?_
  refine l_iload_n (q := 1193) C 3 dL_law_1192 rfl rfl rfl ?_
  refine l_iconst (q := 1194) (v := 2) C dL_law_1193 rfl (by decide) ?_
  refine l_iadd (q := 1195) C dL_law_1194 rfl ?_
  refine l_sld (q := 1196) C (hin.2.2.1) dL_law_1195 rfl ?_
  refine l_aload_n (q := 1197) C 0 dL_law_1196 rfl rfl rfl ?_
  refine l_iload_n (q := 1198) C 3 dL_law_1197 rfl rfl rfl ?_
  refine l_iconst (q := 1199) (v := 3) C dL_law_1198 rfl (by decide) ?_
  refine l_iadd (q := 1200) C dL_law_1199 rfl ?_
  refine l_sld (q := 1201) C (hin.2.2.2.1) dL_law_1200 rfl ?_
  refine l_callM (q := 1204) (As := [.int (sc (x3 + 1).toNatClampNeg), .int (sc (x3 + 2).toNatClampNeg), .int (sc (x3 + 3).toNatClampNeg)]) (st := [.int r]) C hm (uX8_voice l GM hGM VM (sc (x3 + 1).toNatClampNeg) (sc (x3 + 2).toNatClampNeg) (sc (x3 + 3).toNatClampNeg)) yvX8_voice mlL_137 (s80 hGM) rfl rfl rfl rfl rfl rfl ⟨Nat.le_of_ble_eq_true rfl, Nat.le_of_ble_eq_true rfl⟩ (Nat.le_of_ble_eq_true rfl) dL_law_1201 rfl ?_
  refine l_eq (q := 1535) C dL_law_1204 (by decide) ?_
  exact kk VX1 VM1 hR1
set_option maxHeartbeats 4000000 in
set_option maxRecDepth 100000 in
theorem lk_29 {l : Launch} {GX GM : gG} {b Ln : Nat} {sc : Nat → Int32} {X : gX} {VX VM : gV} (hGX : gIsX GX) (hGM : gIsM GM) (C : lC GX GM b Ln sc X) {Rel Rel2 : gV → gV → Prop} (hp : ∀ (VX VM : gV) (a0 : Int32), Rel VX VM → gEq Rel2 (fX7_trace VX a0) (fX8_trace VM a0)) (hR : Rel VX VM) {x3 : Int32} (hin : lIn x3 Ln) (kk : ∀ VX VM, Rel2 VX VM → lSm l GX GM X VX VM 1535 [(0, .ref b), (1, .ref (GX.1 0)), (2, .ref (GM.1 0)), (3, .int x3)] []) : lSm l GX GM X VX VM 1209 [(0, .ref b), (1, .ref (GX.1 0)), (2, .ref (GM.1 0)), (3, .int x3)] [] := by
  obtain ⟨r, VX1, VM1, hx, hm, hR1⟩ := hp VX VM (sc (x3 + 1).toNatClampNeg) hR
  refine l_aload_n (q := 1210) C 1 dL_law_1209 rfl rfl rfl ?_
  refine l_aload_n (q := 1211) C 0 dL_law_1210 rfl rfl rfl ?_
  refine l_iload_n (q := 1212) C 3 dL_law_1211 rfl rfl rfl ?_
  refine l_iconst (q := 1213) (v := 1) C dL_law_1212 rfl (by decide) ?_
  refine l_iadd (q := 1214) C dL_law_1213 rfl ?_
  refine l_sld (q := 1215) C (hin.2.1) dL_law_1214 rfl ?_
  refine l_callX (q := 1218) (As := [.int (sc (x3 + 1).toNatClampNeg)]) (st := []) C hx (uX7_trace l GX hGX VX (sc (x3 + 1).toNatClampNeg)) yvX7_trace mlL_138 (s70 hGX) rfl rfl rfl rfl rfl rfl ⟨Nat.le_of_ble_eq_true rfl, Nat.le_of_ble_eq_true rfl⟩ (Nat.le_of_ble_eq_true rfl) dL_law_1215 rfl ?_
  refine l_aload_n (q := 1219) C 2 dL_law_1218 rfl rfl rfl ?_
  refine l_aload_n (q := 1220) C 0 dL_law_1219 rfl rfl rfl ?_
  refine l_iload_n (q := 1221) C 3 dL_law_1220 rfl rfl rfl ?_
  refine l_iconst (q := 1222) (v := 1) C dL_law_1221 rfl (by decide) ?_
  refine l_iadd (q := 1223) C dL_law_1222 rfl ?_
  refine l_sld (q := 1224) C (hin.2.1) dL_law_1223 rfl ?_
  refine l_callM (q := 1227) (As := [.int (sc (x3 + 1).toNatClampNeg)]) (st := [.int r]) C hm (uX8_trace l GM hGM VM (sc (x3 + 1).toNatClampNeg)) yvX8_trace mlL_141 (s80 hGM) rfl rfl rfl rfl rfl rfl ⟨Nat.le_of_ble_eq_true rfl, Nat.le_of_ble_eq_true rfl⟩ (Nat.le_of_ble_eq_true rfl) dL_law_1224 rfl ?_
  refine l_eq (q := 1535) C dL_law_1227 (by decide) ?_
  exact kk VX1 VM1 hR1
set_option maxHeartbeats 4000000 in
set_option maxRecDepth 100000 in
theorem lk_30 {l : Launch} {GX GM : gG} {b Ln : Nat} {sc : Nat → Int32} {X : gX} {VX VM : gV} (hGX : gIsX GX) (hGM : gIsM GM) (C : lC GX GM b Ln sc X) {Rel Rel2 : gV → gV → Prop} (hp : ∀ (VX VM : gV) (a0 : Int32) (a1 : Int32) (a2 : Int32), Rel VX VM → gEq Rel2 (fX7_sheet VX a0 a1 a2) (fX8_sheet VM a0 a1 a2)) (hR : Rel VX VM) {x3 : Int32} (hin : lIn x3 Ln) (kk : ∀ VX VM, Rel2 VX VM → lSm l GX GM X VX VM 1535 [(0, .ref b), (1, .ref (GX.1 0)), (2, .ref (GM.1 0)), (3, .int x3)] []) : lSm l GX GM X VX VM 1232 [(0, .ref b), (1, .ref (GX.1 0)), (2, .ref (GM.1 0)), (3, .int x3)] [] := by
  obtain ⟨r, VX1, VM1, hx, hm, hR1⟩ := hp VX VM (sc (x3 + 1).toNatClampNeg) (sc (x3 + 2).toNatClampNeg) (sc (x3 + 3).toNatClampNeg) hR
  refine l_aload_n (q := 1233) C 1 dL_law_1232 rfl rfl rfl ?_
  refine l_aload_n (q := 1234) C 0 dL_law_1233 rfl rfl rfl ?_
  refine l_iload_n (q := 1235) C 3 dL_law_1234 rfl rfl rfl ?_
  refine l_iconst (q := 1236) (v := 1) C dL_law_1235 rfl (by decide) ?_
  refine l_iadd (q := 1237) C dL_law_1236 rfl ?_
  refine l_sld (q := 1238) C (hin.2.1) dL_law_1237 rfl ?_
  refine l_aload_n (q := 1239) C 0 dL_law_1238 rfl rfl rfl ?_
  refine l_iload_n (q := 1240) C 3 dL_law_1239 rfl rfl rfl ?_
  refine l_iconst (q := 1241) (v := 2) C dL_law_1240 rfl (by decide) ?_
  refine l_iadd (q := 1242) C dL_law_1241 rfl ?_
  refine l_sld (q := 1243) C (hin.2.2.1) dL_law_1242 rfl ?_
  refine l_aload_n (q := 1244) C 0 dL_law_1243 rfl rfl rfl ?_
  refine l_iload_n (q := 1245) C 3 dL_law_1244 rfl rfl rfl ?_
  refine l_iconst (q := 1246) (v := 3) C dL_law_1245 rfl (by decide) ?_
  refine l_iadd (q := 1247) C dL_law_1246 rfl ?_
  refine l_sld (q := 1248) C (hin.2.2.2.1) dL_law_1247 rfl ?_
  refine l_callX (q := 1251) (As := [.int (sc (x3 + 1).toNatClampNeg), .int (sc (x3 + 2).toNatClampNeg), .int (sc (x3 + 3).toNatClampNeg)]) (st := []) C hx (uX7_sheet l GX hGX VX (sc (x3 + 1).toNatClampNeg) (sc (x3 + 2).toNatClampNeg) (sc (x3 + 3).toNatClampNeg)) yvX7_sheet mlL_142 (s70 hGX) rfl rfl rfl rfl rfl rfl ⟨Nat.le_of_ble_eq_true rfl, Nat.le_of_ble_eq_true rfl⟩ (Nat.le_of_ble_eq_true rfl) dL_law_1248 rfl ?_
  refine l_aload_n (q := 1252) C 2 dL_law_1251 rfl rfl rfl ?_
  refine l_aload_n (q := 1253) C 0 dL_law_1252 rfl rfl rfl ?_
  refine l_iload_n (q := 1254) C 3 dL_law_1253 rfl rfl rfl ?_
  refine l_iconst (q := 1255) (v := 1) C dL_law_1254 rfl (by decide) ?_
  refine l_iadd (q := 1256) C dL_law_1255 rfl ?_
  refine l_sld (q := 1257) C (hin.2.1) dL_law_1256 rfl ?_
  refine l_aload_n (q := 1258) C 0 dL_law_1257 rfl rfl rfl ?_
  refine l_iload_n (q := 1259) C 3 dL_law_1258 rfl rfl rfl ?_
  refine l_iconst (q := 1260) (v := 2) C dL_law_1259 rfl (by decide) ?_
  refine l_iadd (q := 1261) C dL_law_1260 rfl ?_
  refine l_sld (q := 1262) C (hin.2.2.1) dL_law_1261 rfl ?_
  refine l_aload_n (q := 1263) C 0 dL_law_1262 rfl rfl rfl ?_
  refine l_iload_n (q := 1264) C 3 dL_law_1263 rfl rfl rfl ?_
  refine l_iconst (q := 1265) (v := 3) C dL_law_1264 rfl (by decide) ?_
  refine l_iadd (q := 1266) C dL_law_1265 rfl ?_
  refine l_sld (q := 1267) C (hin.2.2.2.1) dL_law_1266 rfl ?_
  refine l_callM (q := 1270) (As := [.int (sc (x3 + 1).toNatClampNeg), .int (sc (x3 + 2).toNatClampNeg), .int (sc (x3 + 3).toNatClampNeg)]) (st := [.int r]) C hm (uX8_sheet l GM hGM VM (sc (x3 + 1).toNatClampNeg) (sc (x3 + 2).toNatClampNeg) (sc (x3 + 3).toNatClampNeg)) yvX8_sheet mlL_145 (s80 hGM) rfl rfl rfl rfl rfl rfl ⟨Nat.le_of_ble_eq_true rfl, Nat.le_of_ble_eq_true rfl⟩ (Nat.le_of_ble_eq_true rfl) dL_law_1267 rfl ?_
  refine l_eq (q := 1535) C dL_law_1270 (by decide) ?_
  exact kk VX1 VM1 hR1
set_option maxHeartbeats 4000000 in
set_option maxRecDepth 100000 in
theorem lk_31 {l : Launch} {GX GM : gG} {b Ln : Nat} {sc : Nat → Int32} {X : gX} {VX VM : gV} (hGX : gIsX GX) (hGM : gIsM GM) (C : lC GX GM b Ln sc X) {Rel Rel2 : gV → gV → Prop} (hp : ∀ (VX VM : gV) (a0 : Int32) (a1 : Int32) (a2 : Int32), Rel VX VM → gEq Rel2 (fX7_put VX a0 a1 a2) (fX8_put VM a0 a1 a2)) (hR : Rel VX VM) {x3 : Int32} (hin : lIn x3 Ln) (kk : ∀ VX VM, Rel2 VX VM → lSm l GX GM X VX VM 1535 [(0, .ref b), (1, .ref (GX.1 0)), (2, .ref (GM.1 0)), (3, .int x3)] []) : lSm l GX GM X VX VM 1275 [(0, .ref b), (1, .ref (GX.1 0)), (2, .ref (GM.1 0)), (3, .int x3)] [] := by
  obtain ⟨r, VX1, VM1, hx, hm, hR1⟩ := hp VX VM (sc (x3 + 1).toNatClampNeg) (sc (x3 + 2).toNatClampNeg) (sc (x3 + 3).toNatClampNeg) hR
  refine l_aload_n (q := 1276) C 1 dL_law_1275 rfl rfl rfl ?_
  refine l_aload_n (q := 1277) C 0 dL_law_1276 rfl rfl rfl ?_
  refine l_iload_n (q := 1278) C 3 dL_law_1277 rfl rfl rfl ?_
  refine l_iconst (q := 1279) (v := 1) C dL_law_1278 rfl (by decide) ?_
  refine l_iadd (q := 1280) C dL_law_1279 rfl ?_
  refine l_sld (q := 1281) C (hin.2.1) dL_law_1280 rfl ?_
  refine l_aload_n (q := 1282) C 0 dL_law_1281 rfl rfl rfl ?_
  refine l_iload_n (q := 1283) C 3 dL_law_1282 rfl rfl rfl ?_
  refine l_iconst (q := 1284) (v := 2) C dL_law_1283 rfl (by decide) ?_
  refine l_iadd (q := 1285) C dL_law_1284 rfl ?_
  refine l_sld (q := 1286) C (hin.2.2.1) dL_law_1285 rfl ?_
  refine l_aload_n (q := 1287) C 0 dL_law_1286 rfl rfl rfl ?_
  refine l_iload_n (q := 1288) C 3 dL_law_1287 rfl rfl rfl ?_
  refine l_iconst (q := 1289) (v := 3) C dL_law_1288 rfl (by decide) ?_
  refine l_iadd (q := 1290) C dL_law_1289 rfl ?_
  refine l_sld (q := 1291) C (hin.2.2.2.1) dL_law_1290 rfl ?_
  refine l_callX (q := 1294) (As := [.int (sc (x3 + 1).toNatClampNeg), .int (sc (x3 + 2).toNatClampNeg), .int (sc (x3 + 3).toNatClampNeg)]) (st := []) C hx (uX7_put l GX hGX VX (sc (x3 + 1).toNatClampNeg) (sc (x3 + 2).toNatClampNeg) (sc (x3 + 3).toNatClampNeg)) yvX7_put mlL_146 (s70 hGX) rfl rfl rfl rfl rfl rfl ⟨Nat.le_of_ble_eq_true rfl, Nat.le_of_ble_eq_true rfl⟩ (Nat.le_of_ble_eq_true rfl) dL_law_1291 rfl ?_
  refine l_aload_n (q := 1295) C 2 dL_law_1294 rfl rfl rfl ?_
  refine l_aload_n (q := 1296) C 0 dL_law_1295 rfl rfl rfl ?_
  refine l_iload_n (q := 1297) C 3 dL_law_1296 rfl rfl rfl ?_
  refine l_iconst (q := 1298) (v := 1) C dL_law_1297 rfl (by decide) ?_
  refine l_iadd (q := 1299) C dL_law_1298 rfl ?_
  refine l_sld (q := 1300) C (hin.2.1) dL_law_1299 rfl ?_
  refine l_aload_n (q := 1301) C 0 dL_law_1300 rfl rfl rfl ?_
  refine l_iload_n (q := 1302) C 3 dL_law_1301 rfl rfl rfl ?_
  refine l_iconst (q := 1303) (v := 2) C dL_law_1302 rfl (by decide) ?_
  refine l_iadd (q := 1304) C dL_law_1303 rfl ?_
  refine l_sld (q := 1305) C (hin.2.2.1) dL_law_1304 rfl ?_
  refine l_aload_n (q := 1306) C 0 dL_law_1305 rfl rfl rfl ?_
  refine l_iload_n (q := 1307) C 3 dL_law_1306 rfl rfl rfl ?_
  refine l_iconst (q := 1308) (v := 3) C dL_law_1307 rfl (by decide) ?_
  refine l_iadd (q := 1309) C dL_law_1308 rfl ?_
  refine l_sld (q := 1310) C (hin.2.2.2.1) dL_law_1309 rfl ?_
  refine l_callM (q := 1313) (As := [.int (sc (x3 + 1).toNatClampNeg), .int (sc (x3 + 2).toNatClampNeg), .int (sc (x3 + 3).toNatClampNeg)]) (st := [.int r]) C hm (uX8_put l GM hGM VM (sc (x3 + 1).toNatClampNeg) (sc (x3 + 2).toNatClampNeg) (sc (x3 + 3).toNatClampNeg)) yvX8_put mlL_149 (s80 hGM) rfl rfl rfl rfl rfl rfl ⟨Nat.le_of_ble_eq_true rfl, Nat.le_of_ble_eq_true rfl⟩ (Nat.le_of_ble_eq_true rfl) dL_law_1310 rfl ?_
  refine l_eq (q := 1535) C dL_law_1313 (by decide) ?_
  exact kk VX1 VM1 hR1
set_option maxHeartbeats 4000000 in
set_option maxRecDepth 100000 in
theorem lk_32 {l : Launch} {GX GM : gG} {b Ln : Nat} {sc : Nat → Int32} {X : gX} {VX VM : gV} (hGX : gIsX GX) (hGM : gIsM GM) (C : lC GX GM b Ln sc X) {Rel Rel2 : gV → gV → Prop} (hp : ∀ (VX VM : gV) (a0 : Int32) (a1 : Int32) (a2 : Int32) (a3 : Int32) (a4 : Int32), Rel VX VM → gEq Rel2 (fX7_move VX a0 a1 a2 a3 a4) (fX8_move VM a0 a1 a2 a3 a4)) (hR : Rel VX VM) {x3 : Int32} (hin : lIn x3 Ln) (kk : ∀ VX VM, Rel2 VX VM → lSm l GX GM X VX VM 1535 [(0, .ref b), (1, .ref (GX.1 0)), (2, .ref (GM.1 0)), (3, .int x3)] []) : lSm l GX GM X VX VM 1318 [(0, .ref b), (1, .ref (GX.1 0)), (2, .ref (GM.1 0)), (3, .int x3)] [] := by
  obtain ⟨r, VX1, VM1, hx, hm, hR1⟩ := hp VX VM (sc (x3 + 1).toNatClampNeg) (sc (x3 + 2).toNatClampNeg) (sc (x3 + 3).toNatClampNeg) (sc (x3 + 4).toNatClampNeg) (sc (x3 + 5).toNatClampNeg) hR
  refine l_aload_n (q := 1319) C 1 dL_law_1318 rfl rfl rfl ?_
  refine l_aload_n (q := 1320) C 0 dL_law_1319 rfl rfl rfl ?_
  refine l_iload_n (q := 1321) C 3 dL_law_1320 rfl rfl rfl ?_
  refine l_iconst (q := 1322) (v := 1) C dL_law_1321 rfl (by decide) ?_
  refine l_iadd (q := 1323) C dL_law_1322 rfl ?_
  refine l_sld (q := 1324) C (hin.2.1) dL_law_1323 rfl ?_
  refine l_aload_n (q := 1325) C 0 dL_law_1324 rfl rfl rfl ?_
  refine l_iload_n (q := 1326) C 3 dL_law_1325 rfl rfl rfl ?_
  refine l_iconst (q := 1327) (v := 2) C dL_law_1326 rfl (by decide) ?_
  refine l_iadd (q := 1328) C dL_law_1327 rfl ?_
  refine l_sld (q := 1329) C (hin.2.2.1) dL_law_1328 rfl ?_
  refine l_aload_n (q := 1330) C 0 dL_law_1329 rfl rfl rfl ?_
  refine l_iload_n (q := 1331) C 3 dL_law_1330 rfl rfl rfl ?_
  refine l_iconst (q := 1332) (v := 3) C dL_law_1331 rfl (by decide) ?_
  refine l_iadd (q := 1333) C dL_law_1332 rfl ?_
  refine l_sld (q := 1334) C (hin.2.2.2.1) dL_law_1333 rfl ?_
  refine l_aload_n (q := 1335) C 0 dL_law_1334 rfl rfl rfl ?_
  refine l_iload_n (q := 1336) C 3 dL_law_1335 rfl rfl rfl ?_
  refine l_iconst (q := 1337) (v := 4) C dL_law_1336 rfl (by decide) ?_
  refine l_iadd (q := 1338) C dL_law_1337 rfl ?_
  refine l_sld (q := 1339) C (hin.2.2.2.2.1) dL_law_1338 rfl ?_
  refine l_aload_n (q := 1340) C 0 dL_law_1339 rfl rfl rfl ?_
  refine l_iload_n (q := 1341) C 3 dL_law_1340 rfl rfl rfl ?_
  refine l_iconst (q := 1342) (v := 5) C dL_law_1341 rfl (by decide) ?_
  refine l_iadd (q := 1343) C dL_law_1342 rfl ?_
  refine l_sld (q := 1344) C (hin.2.2.2.2.2) dL_law_1343 rfl ?_
  refine l_callX (q := 1347) (As := [.int (sc (x3 + 1).toNatClampNeg), .int (sc (x3 + 2).toNatClampNeg), .int (sc (x3 + 3).toNatClampNeg), .int (sc (x3 + 4).toNatClampNeg), .int (sc (x3 + 5).toNatClampNeg)]) (st := []) C hx (uX7_move l GX hGX VX (sc (x3 + 1).toNatClampNeg) (sc (x3 + 2).toNatClampNeg) (sc (x3 + 3).toNatClampNeg) (sc (x3 + 4).toNatClampNeg) (sc (x3 + 5).toNatClampNeg)) yvX7_move mlL_150 (s70 hGX) rfl rfl rfl rfl rfl rfl ⟨Nat.le_of_ble_eq_true rfl, Nat.le_of_ble_eq_true rfl⟩ (Nat.le_of_ble_eq_true rfl) dL_law_1344 rfl ?_
  refine l_aload_n (q := 1348) C 2 dL_law_1347 rfl rfl rfl ?_
  refine l_aload_n (q := 1349) C 0 dL_law_1348 rfl rfl rfl ?_
  refine l_iload_n (q := 1350) C 3 dL_law_1349 rfl rfl rfl ?_
  refine l_iconst (q := 1351) (v := 1) C dL_law_1350 rfl (by decide) ?_
  refine l_iadd (q := 1352) C dL_law_1351 rfl ?_
  refine l_sld (q := 1353) C (hin.2.1) dL_law_1352 rfl ?_
  refine l_aload_n (q := 1354) C 0 dL_law_1353 rfl rfl rfl ?_
  refine l_iload_n (q := 1355) C 3 dL_law_1354 rfl rfl rfl ?_
  refine l_iconst (q := 1356) (v := 2) C dL_law_1355 rfl (by decide) ?_
  refine l_iadd (q := 1357) C dL_law_1356 rfl ?_
  refine l_sld (q := 1358) C (hin.2.2.1) dL_law_1357 rfl ?_
  refine l_aload_n (q := 1359) C 0 dL_law_1358 rfl rfl rfl ?_
  refine l_iload_n (q := 1360) C 3 dL_law_1359 rfl rfl rfl ?_
  refine l_iconst (q := 1361) (v := 3) C dL_law_1360 rfl (by decide) ?_
  refine l_iadd (q := 1362) C dL_law_1361 rfl ?_
  refine l_sld (q := 1363) C (hin.2.2.2.1) dL_law_1362 rfl ?_
  refine l_aload_n (q := 1364) C 0 dL_law_1363 rfl rfl rfl ?_
  refine l_iload_n (q := 1365) C 3 dL_law_1364 rfl rfl rfl ?_
  refine l_iconst (q := 1366) (v := 4) C dL_law_1365 rfl (by decide) ?_
  refine l_iadd (q := 1367) C dL_law_1366 rfl ?_
  refine l_sld (q := 1368) C (hin.2.2.2.2.1) dL_law_1367 rfl ?_
  refine l_aload_n (q := 1369) C 0 dL_law_1368 rfl rfl rfl ?_
  refine l_iload_n (q := 1370) C 3 dL_law_1369 rfl rfl rfl ?_
  refine l_iconst (q := 1371) (v := 5) C dL_law_1370 rfl (by decide) ?_
  refine l_iadd (q := 1372) C dL_law_1371 rfl ?_
  refine l_sld (q := 1373) C (hin.2.2.2.2.2) dL_law_1372 rfl ?_
  refine l_callM (q := 1376) (As := [.int (sc (x3 + 1).toNatClampNeg), .int (sc (x3 + 2).toNatClampNeg), .int (sc (x3 + 3).toNatClampNeg), .int (sc (x3 + 4).toNatClampNeg), .int (sc (x3 + 5).toNatClampNeg)]) (st := [.int r]) C hm (uX8_move l GM hGM VM (sc (x3 + 1).toNatClampNeg) (sc (x3 + 2).toNatClampNeg) (sc (x3 + 3).toNatClampNeg) (sc (x3 + 4).toNatClampNeg) (sc (x3 + 5).toNatClampNeg)) yvX8_move mlL_153 (s80 hGM) rfl rfl rfl rfl rfl rfl ⟨Nat.le_of_ble_eq_true rfl, Nat.le_of_ble_eq_true rfl⟩ (Nat.le_of_ble_eq_true rfl) dL_law_1373 rfl ?_
  refine l_eq (q := 1535) C dL_law_1376 (by decide) ?_
  exact kk VX1 VM1 hR1
set_option maxHeartbeats 4000000 in
set_option maxRecDepth 100000 in
theorem lk_33 {l : Launch} {GX GM : gG} {b Ln : Nat} {sc : Nat → Int32} {X : gX} {VX VM : gV} (hGX : gIsX GX) (hGM : gIsM GM) (C : lC GX GM b Ln sc X) {Rel Rel2 : gV → gV → Prop} (hp : ∀ (VX VM : gV) (a0 : Int32), Rel VX VM → gEq Rel2 (fX7_worns VX a0) (fX8_worns VM a0)) (hR : Rel VX VM) {x3 : Int32} (hin : lIn x3 Ln) (kk : ∀ VX VM, Rel2 VX VM → lSm l GX GM X VX VM 1535 [(0, .ref b), (1, .ref (GX.1 0)), (2, .ref (GM.1 0)), (3, .int x3)] []) : lSm l GX GM X VX VM 1381 [(0, .ref b), (1, .ref (GX.1 0)), (2, .ref (GM.1 0)), (3, .int x3)] [] := by
  obtain ⟨r, VX1, VM1, hx, hm, hR1⟩ := hp VX VM (sc (x3 + 1).toNatClampNeg) hR
  refine l_aload_n (q := 1382) C 1 dL_law_1381 rfl rfl rfl ?_
  refine l_aload_n (q := 1383) C 0 dL_law_1382 rfl rfl rfl ?_
  refine l_iload_n (q := 1384) C 3 dL_law_1383 rfl rfl rfl ?_
  refine l_iconst (q := 1385) (v := 1) C dL_law_1384 rfl (by decide) ?_
  refine l_iadd (q := 1386) C dL_law_1385 rfl ?_
  refine l_sld (q := 1387) C (hin.2.1) dL_law_1386 rfl ?_
  refine l_callX (q := 1390) (As := [.int (sc (x3 + 1).toNatClampNeg)]) (st := []) C hx (uX7_worns l GX hGX VX (sc (x3 + 1).toNatClampNeg)) yvX7_worns mlL_154 (s70 hGX) rfl rfl rfl rfl rfl rfl ⟨Nat.le_of_ble_eq_true rfl, Nat.le_of_ble_eq_true rfl⟩ (Nat.le_of_ble_eq_true rfl) dL_law_1387 rfl ?_
  refine l_aload_n (q := 1391) C 2 dL_law_1390 rfl rfl rfl ?_
  refine l_aload_n (q := 1392) C 0 dL_law_1391 rfl rfl rfl ?_
  refine l_iload_n (q := 1393) C 3 dL_law_1392 rfl rfl rfl ?_
  refine l_iconst (q := 1394) (v := 1) C dL_law_1393 rfl (by decide) ?_
  refine l_iadd (q := 1395) C dL_law_1394 rfl ?_
  refine l_sld (q := 1396) C (hin.2.1) dL_law_1395 rfl ?_
  refine l_callM (q := 1399) (As := [.int (sc (x3 + 1).toNatClampNeg)]) (st := [.int r]) C hm (uX8_worns l GM hGM VM (sc (x3 + 1).toNatClampNeg)) yvX8_worns mlL_157 (s80 hGM) rfl rfl rfl rfl rfl rfl ⟨Nat.le_of_ble_eq_true rfl, Nat.le_of_ble_eq_true rfl⟩ (Nat.le_of_ble_eq_true rfl) dL_law_1396 rfl ?_
  refine l_eq (q := 1535) C dL_law_1399 (by decide) ?_
  exact kk VX1 VM1 hR1
set_option maxHeartbeats 4000000 in
set_option maxRecDepth 100000 in
theorem lk_34 {l : Launch} {GX GM : gG} {b Ln : Nat} {sc : Nat → Int32} {X : gX} {VX VM : gV} (hGX : gIsX GX) (hGM : gIsM GM) (C : lC GX GM b Ln sc X) {Rel Rel2 : gV → gV → Prop} (hp : ∀ (VX VM : gV) (a0 : Int32), Rel VX VM → gEq Rel2 (fX7_judge VX a0) (fX8_judge VM a0)) (hR : Rel VX VM) {x3 : Int32} (hin : lIn x3 Ln) (kk : ∀ VX VM, Rel2 VX VM → lSm l GX GM X VX VM 1535 [(0, .ref b), (1, .ref (GX.1 0)), (2, .ref (GM.1 0)), (3, .int x3)] []) : lSm l GX GM X VX VM 1404 [(0, .ref b), (1, .ref (GX.1 0)), (2, .ref (GM.1 0)), (3, .int x3)] [] := by
  obtain ⟨r, VX1, VM1, hx, hm, hR1⟩ := hp VX VM (sc (x3 + 1).toNatClampNeg) hR
  refine l_aload_n (q := 1405) C 1 dL_law_1404 rfl rfl rfl ?_
  refine l_aload_n (q := 1406) C 0 dL_law_1405 rfl rfl rfl ?_
  refine l_iload_n (q := 1407) C 3 dL_law_1406 rfl rfl rfl ?_
  refine l_iconst (q := 1408) (v := 1) C dL_law_1407 rfl (by decide) ?_
  refine l_iadd (q := 1409) C dL_law_1408 rfl ?_
  refine l_sld (q := 1410) C (hin.2.1) dL_law_1409 rfl ?_
  refine l_callX (q := 1413) (As := [.int (sc (x3 + 1).toNatClampNeg)]) (st := []) C hx (uX7_judge l GX hGX VX (sc (x3 + 1).toNatClampNeg)) yvX7_judge mlL_158 (s70 hGX) rfl rfl rfl rfl rfl rfl ⟨Nat.le_of_ble_eq_true rfl, Nat.le_of_ble_eq_true rfl⟩ (Nat.le_of_ble_eq_true rfl) dL_law_1410 rfl ?_
  refine l_aload_n (q := 1414) C 2 dL_law_1413 rfl rfl rfl ?_
  refine l_aload_n (q := 1415) C 0 dL_law_1414 rfl rfl rfl ?_
  refine l_iload_n (q := 1416) C 3 dL_law_1415 rfl rfl rfl ?_
  refine l_iconst (q := 1417) (v := 1) C dL_law_1416 rfl (by decide) ?_
  refine l_iadd (q := 1418) C dL_law_1417 rfl ?_
  refine l_sld (q := 1419) C (hin.2.1) dL_law_1418 rfl ?_
  refine l_callM (q := 1422) (As := [.int (sc (x3 + 1).toNatClampNeg)]) (st := [.int r]) C hm (uX8_judge l GM hGM VM (sc (x3 + 1).toNatClampNeg)) yvX8_judge mlL_161 (s80 hGM) rfl rfl rfl rfl rfl rfl ⟨Nat.le_of_ble_eq_true rfl, Nat.le_of_ble_eq_true rfl⟩ (Nat.le_of_ble_eq_true rfl) dL_law_1419 rfl ?_
  refine l_eq (q := 1535) C dL_law_1422 (by decide) ?_
  exact kk VX1 VM1 hR1
set_option maxHeartbeats 4000000 in
set_option maxRecDepth 100000 in
theorem lk_35 {l : Launch} {GX GM : gG} {b Ln : Nat} {sc : Nat → Int32} {X : gX} {VX VM : gV} (hGX : gIsX GX) (hGM : gIsM GM) (C : lC GX GM b Ln sc X) {Rel Rel2 : gV → gV → Prop} (hp : ∀ (VX VM : gV), Rel VX VM → gEq Rel2 (fX7_image VX) (fX8_image VM)) (hR : Rel VX VM) {x3 : Int32} (hin : lIn x3 Ln) (kk : ∀ VX VM, Rel2 VX VM → lSm l GX GM X VX VM 1535 [(0, .ref b), (1, .ref (GX.1 0)), (2, .ref (GM.1 0)), (3, .int x3)] []) : lSm l GX GM X VX VM 1427 [(0, .ref b), (1, .ref (GX.1 0)), (2, .ref (GM.1 0)), (3, .int x3)] [] := by
  obtain ⟨r, VX1, VM1, hx, hm, hR1⟩ := hp VX VM hR
  refine l_aload_n (q := 1428) C 1 dL_law_1427 rfl rfl rfl ?_
  refine l_callX (q := 1431) (As := []) (st := []) C hx (uX7_image l GX hGX VX) yvX7_image mlL_162 (s70 hGX) rfl rfl rfl rfl rfl rfl ⟨Nat.le_of_ble_eq_true rfl, Nat.le_of_ble_eq_true rfl⟩ (Nat.le_of_ble_eq_true rfl) dL_law_1428 rfl ?_
  refine l_aload_n (q := 1432) C 2 dL_law_1431 rfl rfl rfl ?_
  refine l_callM (q := 1435) (As := []) (st := [.int r]) C hm (uX8_image l GM hGM VM) yvX8_image mlL_165 (s80 hGM) rfl rfl rfl rfl rfl rfl ⟨Nat.le_of_ble_eq_true rfl, Nat.le_of_ble_eq_true rfl⟩ (Nat.le_of_ble_eq_true rfl) dL_law_1432 rfl ?_
  refine l_eq (q := 1535) C dL_law_1435 (by decide) ?_
  exact kk VX1 VM1 hR1
set_option maxHeartbeats 4000000 in
set_option maxRecDepth 100000 in
theorem lk_36 {l : Launch} {GX GM : gG} {b Ln : Nat} {sc : Nat → Int32} {X : gX} {VX VM : gV} (hGX : gIsX GX) (hGM : gIsM GM) (C : lC GX GM b Ln sc X) {Rel Rel2 : gV → gV → Prop} (hp : ∀ (VX VM : gV), Rel VX VM → gEq Rel2 (fX7_restore VX) (fX8_restore VM)) (hR : Rel VX VM) {x3 : Int32} (hin : lIn x3 Ln) (kk : ∀ VX VM, Rel2 VX VM → lSm l GX GM X VX VM 1535 [(0, .ref b), (1, .ref (GX.1 0)), (2, .ref (GM.1 0)), (3, .int x3)] []) : lSm l GX GM X VX VM 1440 [(0, .ref b), (1, .ref (GX.1 0)), (2, .ref (GM.1 0)), (3, .int x3)] [] := by
  obtain ⟨r, VX1, VM1, hx, hm, hR1⟩ := hp VX VM hR
  refine l_aload_n (q := 1441) C 1 dL_law_1440 rfl rfl rfl ?_
  refine l_callX (q := 1444) (As := []) (st := []) C hx (uX7_restore l GX hGX VX) yvX7_restore mlL_166 (s70 hGX) rfl rfl rfl rfl rfl rfl ⟨Nat.le_of_ble_eq_true rfl, Nat.le_of_ble_eq_true rfl⟩ (Nat.le_of_ble_eq_true rfl) dL_law_1441 rfl ?_
  refine l_aload_n (q := 1445) C 2 dL_law_1444 rfl rfl rfl ?_
  refine l_callM (q := 1448) (As := []) (st := [.int r]) C hm (uX8_restore l GM hGM VM) yvX8_restore mlL_169 (s80 hGM) rfl rfl rfl rfl rfl rfl ⟨Nat.le_of_ble_eq_true rfl, Nat.le_of_ble_eq_true rfl⟩ (Nat.le_of_ble_eq_true rfl) dL_law_1445 rfl ?_
  refine l_eq (q := 1535) C dL_law_1448 (by decide) ?_
  exact kk VX1 VM1 hR1
set_option maxHeartbeats 4000000 in
set_option maxRecDepth 100000 in
theorem lk_37 {l : Launch} {GX GM : gG} {b Ln : Nat} {sc : Nat → Int32} {X : gX} {VX VM : gV} (hGX : gIsX GX) (hGM : gIsM GM) (C : lC GX GM b Ln sc X) {Rel Rel2 : gV → gV → Prop} (hp : ∀ (VX VM : gV) (a0 : Int32), Rel VX VM → gEq Rel2 (fX7_tell VX a0) (fX8_tell VM a0)) (hR : Rel VX VM) {x3 : Int32} (hin : lIn x3 Ln) (kk : ∀ VX VM, Rel2 VX VM → lSm l GX GM X VX VM 1535 [(0, .ref b), (1, .ref (GX.1 0)), (2, .ref (GM.1 0)), (3, .int x3)] []) : lSm l GX GM X VX VM 1453 [(0, .ref b), (1, .ref (GX.1 0)), (2, .ref (GM.1 0)), (3, .int x3)] [] := by
  obtain ⟨r, VX1, VM1, hx, hm, hR1⟩ := hp VX VM (sc (x3 + 1).toNatClampNeg) hR
  refine l_aload_n (q := 1454) C 1 dL_law_1453 rfl rfl rfl ?_
  refine l_aload_n (q := 1455) C 0 dL_law_1454 rfl rfl rfl ?_
  refine l_iload_n (q := 1456) C 3 dL_law_1455 rfl rfl rfl ?_
  refine l_iconst (q := 1457) (v := 1) C dL_law_1456 rfl (by decide) ?_
  refine l_iadd (q := 1458) C dL_law_1457 rfl ?_
  refine l_sld (q := 1459) C (hin.2.1) dL_law_1458 rfl ?_
  refine l_callX (q := 1462) (As := [.int (sc (x3 + 1).toNatClampNeg)]) (st := []) C hx (uX7_tell l GX hGX VX (sc (x3 + 1).toNatClampNeg)) yvX7_tell mlL_170 (s70 hGX) rfl rfl rfl rfl rfl rfl ⟨Nat.le_of_ble_eq_true rfl, Nat.le_of_ble_eq_true rfl⟩ (Nat.le_of_ble_eq_true rfl) dL_law_1459 rfl ?_
  refine l_aload_n (q := 1463) C 2 dL_law_1462 rfl rfl rfl ?_
  refine l_aload_n (q := 1464) C 0 dL_law_1463 rfl rfl rfl ?_
  refine l_iload_n (q := 1465) C 3 dL_law_1464 rfl rfl rfl ?_
  refine l_iconst (q := 1466) (v := 1) C dL_law_1465 rfl (by decide) ?_
  refine l_iadd (q := 1467) C dL_law_1466 rfl ?_
  refine l_sld (q := 1468) C (hin.2.1) dL_law_1467 rfl ?_
  refine l_callM (q := 1471) (As := [.int (sc (x3 + 1).toNatClampNeg)]) (st := [.int r]) C hm (uX8_tell l GM hGM VM (sc (x3 + 1).toNatClampNeg)) yvX8_tell mlL_173 (s80 hGM) rfl rfl rfl rfl rfl rfl ⟨Nat.le_of_ble_eq_true rfl, Nat.le_of_ble_eq_true rfl⟩ (Nat.le_of_ble_eq_true rfl) dL_law_1468 rfl ?_
  refine l_eq (q := 1535) C dL_law_1471 (by decide) ?_
  exact kk VX1 VM1 hR1
set_option maxHeartbeats 4000000 in
set_option maxRecDepth 100000 in
theorem lk_38 {l : Launch} {GX GM : gG} {b Ln : Nat} {sc : Nat → Int32} {X : gX} {VX VM : gV} (hGX : gIsX GX) (hGM : gIsM GM) (C : lC GX GM b Ln sc X) {Rel Rel2 : gV → gV → Prop} (hp : ∀ (VX VM : gV), Rel VX VM → gEq Rel2 (fX7_check VX) (fX8_check VM)) (hR : Rel VX VM) {x3 : Int32} (hin : lIn x3 Ln) (kk : ∀ VX VM, Rel2 VX VM → lSm l GX GM X VX VM 1535 [(0, .ref b), (1, .ref (GX.1 0)), (2, .ref (GM.1 0)), (3, .int x3)] []) : lSm l GX GM X VX VM 1476 [(0, .ref b), (1, .ref (GX.1 0)), (2, .ref (GM.1 0)), (3, .int x3)] [] := by
  obtain ⟨r, VX1, VM1, hx, hm, hR1⟩ := hp VX VM hR
  refine l_aload_n (q := 1477) C 1 dL_law_1476 rfl rfl rfl ?_
  refine l_callX (q := 1480) (As := []) (st := []) C hx (uX7_check l GX hGX VX) yvX7_check mlL_174 (s70 hGX) rfl rfl rfl rfl rfl rfl ⟨Nat.le_of_ble_eq_true rfl, Nat.le_of_ble_eq_true rfl⟩ (Nat.le_of_ble_eq_true rfl) dL_law_1477 rfl ?_
  refine l_aload_n (q := 1481) C 2 dL_law_1480 rfl rfl rfl ?_
  refine l_callM (q := 1484) (As := []) (st := [.int r]) C hm (uX8_check l GM hGM VM) yvX8_check mlL_177 (s80 hGM) rfl rfl rfl rfl rfl rfl ⟨Nat.le_of_ble_eq_true rfl, Nat.le_of_ble_eq_true rfl⟩ (Nat.le_of_ble_eq_true rfl) dL_law_1481 rfl ?_
  refine l_eq (q := 1535) C dL_law_1484 (by decide) ?_
  exact kk VX1 VM1 hR1
set_option maxHeartbeats 4000000 in
set_option maxRecDepth 100000 in
theorem lk_39 {l : Launch} {GX GM : gG} {b Ln : Nat} {sc : Nat → Int32} {X : gX} {VX VM : gV} (hGX : gIsX GX) (hGM : gIsM GM) (C : lC GX GM b Ln sc X) {Rel Rel2 : gV → gV → Prop} (hp : ∀ (VX VM : gV) (a0 : Int32), Rel VX VM → gEq Rel2 (fX7_count VX a0) (fX8_count VM a0)) (hR : Rel VX VM) {x3 : Int32} (hin : lIn x3 Ln) (kk : ∀ VX VM, Rel2 VX VM → lSm l GX GM X VX VM 1535 [(0, .ref b), (1, .ref (GX.1 0)), (2, .ref (GM.1 0)), (3, .int x3)] []) : lSm l GX GM X VX VM 1489 [(0, .ref b), (1, .ref (GX.1 0)), (2, .ref (GM.1 0)), (3, .int x3)] [] := by
  obtain ⟨r, VX1, VM1, hx, hm, hR1⟩ := hp VX VM (sc (x3 + 1).toNatClampNeg) hR
  refine l_aload_n (q := 1490) C 1 dL_law_1489 rfl rfl rfl ?_
  refine l_aload_n (q := 1491) C 0 dL_law_1490 rfl rfl rfl ?_
  refine l_iload_n (q := 1492) C 3 dL_law_1491 rfl rfl rfl ?_
  refine l_iconst (q := 1493) (v := 1) C dL_law_1492 rfl (by decide) ?_
  refine l_iadd (q := 1494) C dL_law_1493 rfl ?_
  refine l_sld (q := 1495) C (hin.2.1) dL_law_1494 rfl ?_
  refine l_callX (q := 1498) (As := [.int (sc (x3 + 1).toNatClampNeg)]) (st := []) C hx (uX7_count l GX hGX VX (sc (x3 + 1).toNatClampNeg)) yvX7_count mlL_178 (s70 hGX) rfl rfl rfl rfl rfl rfl ⟨Nat.le_of_ble_eq_true rfl, Nat.le_of_ble_eq_true rfl⟩ (Nat.le_of_ble_eq_true rfl) dL_law_1495 rfl ?_
  refine l_aload_n (q := 1499) C 2 dL_law_1498 rfl rfl rfl ?_
  refine l_aload_n (q := 1500) C 0 dL_law_1499 rfl rfl rfl ?_
  refine l_iload_n (q := 1501) C 3 dL_law_1500 rfl rfl rfl ?_
  refine l_iconst (q := 1502) (v := 1) C dL_law_1501 rfl (by decide) ?_
  refine l_iadd (q := 1503) C dL_law_1502 rfl ?_
  refine l_sld (q := 1504) C (hin.2.1) dL_law_1503 rfl ?_
  refine l_callM (q := 1507) (As := [.int (sc (x3 + 1).toNatClampNeg)]) (st := [.int r]) C hm (uX8_count l GM hGM VM (sc (x3 + 1).toNatClampNeg)) yvX8_count mlL_181 (s80 hGM) rfl rfl rfl rfl rfl rfl ⟨Nat.le_of_ble_eq_true rfl, Nat.le_of_ble_eq_true rfl⟩ (Nat.le_of_ble_eq_true rfl) dL_law_1504 rfl ?_
  refine l_eq (q := 1535) C dL_law_1507 (by decide) ?_
  exact kk VX1 VM1 hR1
set_option maxHeartbeats 4000000 in
set_option maxRecDepth 100000 in
theorem lk_40 {l : Launch} {GX GM : gG} {b Ln : Nat} {sc : Nat → Int32} {X : gX} {VX VM : gV} (hGX : gIsX GX) (hGM : gIsM GM) (C : lC GX GM b Ln sc X) {Rel Rel2 : gV → gV → Prop} (hp : ∀ (VX VM : gV) (a0 : Int32), Rel VX VM → gEq Rel2 (fX7_told VX a0) (fX8_told VM a0)) (hR : Rel VX VM) {x3 : Int32} (hin : lIn x3 Ln) (kk : ∀ VX VM, Rel2 VX VM → lSm l GX GM X VX VM 1535 [(0, .ref b), (1, .ref (GX.1 0)), (2, .ref (GM.1 0)), (3, .int x3)] []) : lSm l GX GM X VX VM 1512 [(0, .ref b), (1, .ref (GX.1 0)), (2, .ref (GM.1 0)), (3, .int x3)] [] := by
  obtain ⟨r, VX1, VM1, hx, hm, hR1⟩ := hp VX VM (sc (x3 + 1).toNatClampNeg) hR
  refine l_aload_n (q := 1513) C 1 dL_law_1512 rfl rfl rfl ?_
  refine l_aload_n (q := 1514) C 0 dL_law_1513 rfl rfl rfl ?_
  refine l_iload_n (q := 1515) C 3 dL_law_1514 rfl rfl rfl ?_
  refine l_iconst (q := 1516) (v := 1) C dL_law_1515 rfl (by decide) ?_
  refine l_iadd (q := 1517) C dL_law_1516 rfl ?_
  refine l_sld (q := 1518) C (hin.2.1) dL_law_1517 rfl ?_
  refine l_callX (q := 1521) (As := [.int (sc (x3 + 1).toNatClampNeg)]) (st := []) C hx (uX7_told l GX hGX VX (sc (x3 + 1).toNatClampNeg)) yvX7_told mlL_182 (s70 hGX) rfl rfl rfl rfl rfl rfl ⟨Nat.le_of_ble_eq_true rfl, Nat.le_of_ble_eq_true rfl⟩ (Nat.le_of_ble_eq_true rfl) dL_law_1518 rfl ?_
  refine l_aload_n (q := 1522) C 2 dL_law_1521 rfl rfl rfl ?_
  refine l_aload_n (q := 1523) C 0 dL_law_1522 rfl rfl rfl ?_
  refine l_iload_n (q := 1524) C 3 dL_law_1523 rfl rfl rfl ?_
  refine l_iconst (q := 1525) (v := 1) C dL_law_1524 rfl (by decide) ?_
  refine l_iadd (q := 1526) C dL_law_1525 rfl ?_
  refine l_sld (q := 1527) C (hin.2.1) dL_law_1526 rfl ?_
  refine l_callM (q := 1530) (As := [.int (sc (x3 + 1).toNatClampNeg)]) (st := [.int r]) C hm (uX8_told l GM hGM VM (sc (x3 + 1).toNatClampNeg)) yvX8_told mlL_185 (s80 hGM) rfl rfl rfl rfl rfl rfl ⟨Nat.le_of_ble_eq_true rfl, Nat.le_of_ble_eq_true rfl⟩ (Nat.le_of_ble_eq_true rfl) dL_law_1527 rfl ?_
  refine l_eq (q := 1535) C dL_law_1530 (by decide) ?_
  exact kk VX1 VM1 hR1

/-! the law, case by case -/
section
variable {p : Program} {l : Launch} {e : Env} {s : State} {m : MethodId} {args : Array Value} {below : List Frame} {meth : Method} {c : Code} {G : am_G} {A : Nat → Prop} {cs ss : Nat} {E : State → Prop}
variable {h : am_H} {b L : Nat} {xs : Nat → Int32} {i : Int}
theorem lw_k0 (C : lw_C s A G b L xs) (hi : 0 ≤ i ∧ i + 6 ≤ L) (hcs : cs ≤ 600000) (hss : ss ≤ 7000000) (R : RL h 0 148) (nx : ∀ h1, RL h1 0 148 → an_W p l e room_1 s m args below meth c G A cs ss E am_Lw_law lw_Y 1378 (lw_ls i) [] h1) : an_W p l e room_1 s m args below meth c G A cs ss E am_Lw_law lw_Y 180 (lw_ls i) [] h := by
  have T : am_two am_Nh_feed am_Md_feed lw_Y 0 148 [.inl (lw_sx xs i 1), .inl (lw_sx xs i 2), .inl (lw_sx xs i 3), .inl (lw_sx xs i 4), .inl (lw_sx xs i 5)] h := two_feed lw_hY lw_hM (by decide) R
  refine an_aload_n (pc := 180) aL_180 rfl ?_
  refine an_arg (pc := 181) (j := 1) C rfl rfl ⟨by decide, by decide⟩ hi aL_181 aL_182 aL_184 aL_185 aL_186 ?_
  refine an_arg (pc := 187) (j := 2) C rfl rfl ⟨by decide, by decide⟩ hi aL_187 aL_188 aL_190 aL_191 aL_192 ?_
  refine an_arg (pc := 193) (j := 3) C rfl rfl ⟨by decide, by decide⟩ hi aL_193 aL_194 aL_196 aL_197 aL_198 ?_
  refine an_arg (pc := 199) (j := 4) C rfl rfl ⟨by decide, by decide⟩ hi aL_199 aL_200 aL_202 aL_203 aL_204 ?_
  refine an_arg (pc := 205) (j := 5) C rfl rfl ⟨by decide, by decide⟩ hi aL_205 aL_206 aL_208 aL_209 aL_210 ?_
  refine an_callV (pc := 211) (As := [.inl (lw_sx xs i 1), .inl (lw_sx xs i 2), .inl (lw_sx xs i 3), .inl (lw_sx xs i 4), .inl (lw_sx xs i 5)]) (st := []) aL_211 am_Nh_feed_w am_ml_Law_29 (Nat.le_of_ble_eq_true rfl) (Nat.le_of_ble_eq_true rfl) (lw_c0 hcs) (lw_s0 hss) rfl rfl (Nat.le_of_ble_eq_true rfl) am_c11 (lw_hY 0 _ rfl) T ?_
  rintro rv h1 ⟨v, rfl, km⟩
  refine an_aload_n (pc := 214) aL_214 rfl ?_
  refine an_arg (pc := 215) (j := 1) C rfl rfl ⟨by decide, by decide⟩ hi aL_215 aL_216 aL_218 aL_219 aL_220 ?_
  refine an_arg (pc := 221) (j := 2) C rfl rfl ⟨by decide, by decide⟩ hi aL_221 aL_222 aL_224 aL_225 aL_226 ?_
  refine an_arg (pc := 227) (j := 3) C rfl rfl ⟨by decide, by decide⟩ hi aL_227 aL_228 aL_230 aL_231 aL_232 ?_
  refine an_arg (pc := 233) (j := 4) C rfl rfl ⟨by decide, by decide⟩ hi aL_233 aL_234 aL_236 aL_237 aL_238 ?_
  refine an_arg (pc := 239) (j := 5) C rfl rfl ⟨by decide, by decide⟩ hi aL_239 aL_240 aL_242 aL_243 aL_244 ?_
  refine an_callV (pc := 245) (As := [.inl (lw_sx xs i 1), .inl (lw_sx xs i 2), .inl (lw_sx xs i 3), .inl (lw_sx xs i 4), .inl (lw_sx xs i 5)]) (st := [.inl v]) aL_245 am_Md_feed_w am_ml_Law_33 (Nat.le_of_ble_eq_true rfl) (Nat.le_of_ble_eq_true rfl) (lw_c0 hcs) (lw_s0 hss) rfl rfl (Nat.le_of_ble_eq_true rfl) am_c12 (lw_hM 0 _ rfl) km ?_
  rintro rw2 h2 ⟨w, rfl, e2, R2⟩
  exact an_icmp_eq (pc := 248) (tgt := 1378) aL_248 (by decide) (fun _ => nx h2 R2) fun z => absurd e2.symm z
theorem lw_k1 (C : lw_C s A G b L xs) (hi : 0 ≤ i ∧ i + 6 ≤ L) (hcs : cs ≤ 600000) (hss : ss ≤ 7000000) (R : RL h 0 148) (nx : ∀ h1, RL h1 0 148 → an_W p l e room_1 s m args below meth c G A cs ss E am_Lw_law lw_Y 1378 (lw_ls i) [] h1) : an_W p l e room_1 s m args below meth c G A cs ss E am_Lw_law lw_Y 253 (lw_ls i) [] h := by
  have T : am_two am_Nh_end am_Md_end lw_Y 0 148 [.inl (lw_sx xs i 1)] h := two_end lw_hY lw_hM (by decide) R
  refine an_aload_n (pc := 253) aL_253 rfl ?_
  refine an_arg (pc := 254) (j := 1) C rfl rfl ⟨by decide, by decide⟩ hi aL_254 aL_255 aL_257 aL_258 aL_259 ?_
  refine an_callV (pc := 260) (As := [.inl (lw_sx xs i 1)]) (st := []) aL_260 am_Nh_end_w am_ml_Law_34 (Nat.le_of_ble_eq_true rfl) (Nat.le_of_ble_eq_true rfl) (lw_c0 hcs) (lw_s0 hss) rfl rfl (Nat.le_of_ble_eq_true rfl) am_c11 (lw_hY 0 _ rfl) T ?_
  rintro rv h1 ⟨v, rfl, km⟩
  refine an_aload_n (pc := 263) aL_263 rfl ?_
  refine an_arg (pc := 264) (j := 1) C rfl rfl ⟨by decide, by decide⟩ hi aL_264 aL_265 aL_267 aL_268 aL_269 ?_
  refine an_callV (pc := 270) (As := [.inl (lw_sx xs i 1)]) (st := [.inl v]) aL_270 am_Md_end_w am_ml_Law_38 (Nat.le_of_ble_eq_true rfl) (Nat.le_of_ble_eq_true rfl) (lw_c0 hcs) (lw_s0 hss) rfl rfl (Nat.le_of_ble_eq_true rfl) am_c12 (lw_hM 0 _ rfl) km ?_
  rintro rw2 h2 ⟨w, rfl, e2, R2⟩
  exact an_icmp_eq (pc := 273) (tgt := 1378) aL_273 (by decide) (fun _ => nx h2 R2) fun z => absurd e2.symm z
theorem lw_k2 (C : lw_C s A G b L xs) (hi : 0 ≤ i ∧ i + 6 ≤ L) (hcs : cs ≤ 600000) (hss : ss ≤ 7000000) (R : RL h 0 148) (nx : ∀ h1, RL h1 0 148 → an_W p l e room_1 s m args below meth c G A cs ss E am_Lw_law lw_Y 1378 (lw_ls i) [] h1) : an_W p l e room_1 s m args below meth c G A cs ss E am_Lw_law lw_Y 278 (lw_ls i) [] h := by
  have T : am_two am_Nh_village am_Md_village lw_Y 0 148 [] h := two_village lw_hY lw_hM (by decide) R
  refine an_aload_n (pc := 278) aL_278 rfl ?_
  refine an_callV (pc := 279) (As := []) (st := []) aL_279 am_Nh_village_w am_ml_Law_39 (Nat.le_of_ble_eq_true rfl) (Nat.le_of_ble_eq_true rfl) (lw_c0 hcs) (lw_s0 hss) rfl rfl (Nat.le_of_ble_eq_true rfl) am_c11 (lw_hY 0 _ rfl) T ?_
  rintro rv h1 ⟨v, rfl, km⟩
  refine an_aload_n (pc := 282) aL_282 rfl ?_
  refine an_callV (pc := 283) (As := []) (st := [.inl v]) aL_283 am_Md_village_w am_ml_Law_43 (Nat.le_of_ble_eq_true rfl) (Nat.le_of_ble_eq_true rfl) (lw_c0 hcs) (lw_s0 hss) rfl rfl (Nat.le_of_ble_eq_true rfl) am_c12 (lw_hM 0 _ rfl) km ?_
  rintro rw2 h2 ⟨w, rfl, e2, R2⟩
  exact an_icmp_eq (pc := 286) (tgt := 1378) aL_286 (by decide) (fun _ => nx h2 R2) fun z => absurd e2.symm z
theorem lw_k3 (C : lw_C s A G b L xs) (hi : 0 ≤ i ∧ i + 6 ≤ L) (hcs : cs ≤ 600000) (hss : ss ≤ 7000000) (R : RL h 0 148) (nx : ∀ h1, RL h1 0 148 → an_W p l e room_1 s m args below meth c G A cs ss E am_Lw_law lw_Y 1378 (lw_ls i) [] h1) : an_W p l e room_1 s m args below meth c G A cs ss E am_Lw_law lw_Y 291 (lw_ls i) [] h := by
  have T : am_two am_Nh_fault am_Md_fault lw_Y 0 148 [] h := two_fault lw_hY lw_hM (by decide) R
  refine an_aload_n (pc := 291) aL_291 rfl ?_
  refine an_callV (pc := 292) (As := []) (st := []) aL_292 am_Nh_fault_w am_ml_Law_44 (Nat.le_of_ble_eq_true rfl) (Nat.le_of_ble_eq_true rfl) (lw_c0 hcs) (lw_s0 hss) rfl rfl (Nat.le_of_ble_eq_true rfl) am_c11 (lw_hY 0 _ rfl) T ?_
  rintro rv h1 ⟨v, rfl, km⟩
  refine an_aload_n (pc := 295) aL_295 rfl ?_
  refine an_callV (pc := 296) (As := []) (st := [.inl v]) aL_296 am_Md_fault_w am_ml_Law_47 (Nat.le_of_ble_eq_true rfl) (Nat.le_of_ble_eq_true rfl) (lw_c0 hcs) (lw_s0 hss) rfl rfl (Nat.le_of_ble_eq_true rfl) am_c12 (lw_hM 0 _ rfl) km ?_
  rintro rw2 h2 ⟨w, rfl, e2, R2⟩
  exact an_icmp_eq (pc := 299) (tgt := 1378) aL_299 (by decide) (fun _ => nx h2 R2) fun z => absurd e2.symm z
theorem lw_k4 (C : lw_C s A G b L xs) (hl0 : l.stackTraces = false) (hZ : an_ZZ A s s.heap) (hi : 0 ≤ i ∧ i + 6 ≤ L) (hcs : cs ≤ 600000) (hss : ss ≤ 7000000) (R : RL h 0 148) (nx : ∀ h1, RL h1 0 148 → an_W p l e room_1 s m args below meth c G A (cs + 1) (ss + 6) E am_Lw_law lw_Y 1378 (lw_ls i) [] h1) : an_W p l e room_1 s m args below meth c G A cs ss E am_Lw_law lw_Y 304 (lw_ls i) [] h := by
  obtain ⟨B, F, hx, hm⟩ := (thr_help lw_hY lw_hM (by decide) R : am_thr am_Nh_help am_Md_help lw_Y 0 148 [.inl (lw_sx xs i 1), .inl (lw_sx xs i 2)] h (fun w => .inl w))
  refine an_aload_n (pc := 304) aL_304 rfl ?_
  refine an_arg (pc := 305) (j := 1) C rfl rfl ⟨by decide, by decide⟩ hi aL_305 aL_306 aL_308 aL_309 aL_310 ?_
  refine an_arg (pc := 311) (j := 2) C rfl rfl ⟨by decide, by decide⟩ hi aL_311 aL_312 aL_314 aL_315 aL_316 ?_
  refine an_aload_n (pc := 317) aL_317 rfl ?_
  refine an_callLM (pc := 318) (As := [.inr (.inr 0), .inl (lw_sx xs i 1), .inl (lw_sx xs i 2), .inr (.inr 179)]) (st := []) hl0 hZ aL_318 lw_help_w am_ml_Law_48 (Nat.le_of_ble_eq_true rfl) (Nat.le_of_ble_eq_true rfl) (lw_c1 hcs) (lw_s6 hss) rfl rfl (Nat.le_of_ble_eq_true rfl) (lw_help lw_hY lw_hO hx) ?_
  rintro rv h2 hq
  refine an_W.rg fun ok2 _ _ => ?_
  obtain ⟨k0, rfl, hk0, hfr⟩ := lw_lq hq
  refine an_istore (pc := 321) (ls1 := [some (.inr (.inr 180)), some (.inr (.inr 0)), some (.inr (.inr 148)), some (.inr (.inr 179)), some (.inl i), some (.inl k0), none, none]) aL_321 rfl rfl rfl ?_
  refine an_aload_n (pc := 323) aL_323 rfl ?_
  refine an_arg (pc := 324) (j := 1) C rfl rfl ⟨by decide, by decide⟩ hi aL_324 aL_325 aL_327 aL_328 aL_329 ?_
  refine an_arg (pc := 330) (j := 2) C rfl rfl ⟨by decide, by decide⟩ hi aL_330 aL_331 aL_333 aL_334 aL_335 ?_
  refine an_callV (pc := 336) (As := [.inl (lw_sx xs i 1), .inl (lw_sx xs i 2)]) (st := []) aL_336 am_Md_help_w am_ml_Law_53 (Nat.le_of_ble_eq_true rfl) (Nat.le_of_ble_eq_true rfl) (lw_c1 hcs) (lw_s6 hss) rfl rfl (Nat.le_of_ble_eq_true rfl) am_c12 (lw_hM 0 _ rfl) (hm h2 ok2 hfr) ?_
  rintro rv2 h3 ⟨w, rfl, hB1, hB2, R3, hhi⟩
  refine an_istore (pc := 339) (ls1 := [some (.inr (.inr 180)), some (.inr (.inr 0)), some (.inr (.inr 148)), some (.inr (.inr 179)), some (.inl i), some (.inl k0), some (.inl w), none]) aL_339 rfl rfl rfl ?_
  refine an_aload_n (pc := 341) aL_341 rfl ?_
  refine an_callV (pc := 342) (As := []) (st := []) aL_342 am_Md_thrown_w am_ml_Law_54 (Nat.le_of_ble_eq_true rfl) (Nat.le_of_ble_eq_true rfl) (lw_c1 hcs) (lw_s6 hss) rfl rfl (Nat.le_of_ble_eq_true rfl) am_c12 (lw_hM 0 _ rfl) (ac_m_thrown (d := 60) lw_hM) ?_
  rintro rv3 h4 ⟨t, rfl, e4, rfl⟩
  rw [e4]
  refine an_iload (pc := 345) aL_345 rfl ?_
  refine an_icmp_eq (pc := 347) (tgt := 352) aL_347 (by decide) (fun _ => ?_) fun z => absurd (lw_eq hk0 (fun b => (hB1 b).2) hB2) z
  refine an_iload (pc := 352) aL_352 rfl ?_
  have go : an_W p l e room_1 s m args below meth c G A (cs + 1) (ss + 6) E am_Lw_law lw_Y 369 [some (.inr (.inr 180)), some (.inr (.inr 0)), some (.inr (.inr 148)), some (.inr (.inr 179)), some (.inl i), some (.inl k0), some (.inl w), none] [] h3 := an_goto (pc := 369) (tgt := 1378) aL_369 (by decide) ((nx h3 R3).less (am_sub_at _ _ ⟨Or.inr rfl, Or.inr rfl, Or.inr rfl, Or.inr rfl, Or.inr rfl, Or.inl rfl, Or.inl rfl, Or.inl rfl, trivial⟩))
  refine an_if_ne (pc := 354) (tgt := 369) aL_354 (by decide) (fun _ => go) fun z => ?_
  have e5 : h3 179 0 = w := lw_out hk0 z (fun b => (hB1 b).1) (hhi 179 (by decide))
  refine an_aload_n (pc := 357) aL_357 rfl ?_
  refine an_iconst (pc := 358) aL_358 ⟨by decide, by decide⟩ ?_
  refine an_lald (pc := 359) (n := 1) aL_359 lw_hO (by decide) ?_
  refine an_iload (pc := 360) aL_360 rfl ?_
  refine an_i2l (pc := 362) aL_362 ?_
  refine an_lcmp (pc := 363) aL_363 (fun z => absurd z (by show ¬ w < h3 179 0; omega)) (fun _ => ?_) fun z => absurd z (by show ¬ h3 179 0 < w; omega)
  exact an_if_eq (pc := 364) (tgt := 369) aL_364 (by decide) (fun _ => go) fun z => absurd rfl z
theorem lw_k5 (C : lw_C s A G b L xs) (hl0 : l.stackTraces = false) (hZ : an_ZZ A s s.heap) (hi : 0 ≤ i ∧ i + 6 ≤ L) (hcs : cs ≤ 600000) (hss : ss ≤ 7000000) (R : RL h 0 148) (nx : ∀ h1, RL h1 0 148 → an_W p l e room_1 s m args below meth c G A (cs + 1) (ss + 6) E am_Lw_law lw_Y 1378 (lw_ls i) [] h1) : an_W p l e room_1 s m args below meth c G A cs ss E am_Lw_law lw_Y 372 (lw_ls i) [] h := by
  obtain ⟨B, F, hx, hm⟩ := (thr_person lw_hY lw_hM (by decide) R : am_thr am_Nh_person am_Md_person lw_Y 0 148 [.inl (lw_sx xs i 1), .inl (lw_sx xs i 2)] h (fun w => .inl w))
  refine an_aload_n (pc := 372) aL_372 rfl ?_
  refine an_arg (pc := 373) (j := 1) C rfl rfl ⟨by decide, by decide⟩ hi aL_373 aL_374 aL_376 aL_377 aL_378 ?_
  refine an_arg (pc := 379) (j := 2) C rfl rfl ⟨by decide, by decide⟩ hi aL_379 aL_380 aL_382 aL_383 aL_384 ?_
  refine an_aload_n (pc := 385) aL_385 rfl ?_
  refine an_callLM (pc := 386) (As := [.inr (.inr 0), .inl (lw_sx xs i 1), .inl (lw_sx xs i 2), .inr (.inr 179)]) (st := []) hl0 hZ aL_386 lw_person_w am_ml_Law_57 (Nat.le_of_ble_eq_true rfl) (Nat.le_of_ble_eq_true rfl) (lw_c1 hcs) (lw_s6 hss) rfl rfl (Nat.le_of_ble_eq_true rfl) (lw_person lw_hY lw_hO hx) ?_
  rintro rv h2 hq
  refine an_W.rg fun ok2 _ _ => ?_
  obtain ⟨k0, rfl, hk0, hfr⟩ := lw_lq hq
  refine an_istore (pc := 389) (ls1 := [some (.inr (.inr 180)), some (.inr (.inr 0)), some (.inr (.inr 148)), some (.inr (.inr 179)), some (.inl i), some (.inl k0), none, none]) aL_389 rfl rfl rfl ?_
  refine an_aload_n (pc := 391) aL_391 rfl ?_
  refine an_arg (pc := 392) (j := 1) C rfl rfl ⟨by decide, by decide⟩ hi aL_392 aL_393 aL_395 aL_396 aL_397 ?_
  refine an_arg (pc := 398) (j := 2) C rfl rfl ⟨by decide, by decide⟩ hi aL_398 aL_399 aL_401 aL_402 aL_403 ?_
  refine an_callV (pc := 404) (As := [.inl (lw_sx xs i 1), .inl (lw_sx xs i 2)]) (st := []) aL_404 am_Md_person_w am_ml_Law_59 (Nat.le_of_ble_eq_true rfl) (Nat.le_of_ble_eq_true rfl) (lw_c1 hcs) (lw_s6 hss) rfl rfl (Nat.le_of_ble_eq_true rfl) am_c12 (lw_hM 0 _ rfl) (hm h2 ok2 hfr) ?_
  rintro rv2 h3 ⟨w, rfl, hB1, hB2, R3, hhi⟩
  refine an_istore (pc := 407) (ls1 := [some (.inr (.inr 180)), some (.inr (.inr 0)), some (.inr (.inr 148)), some (.inr (.inr 179)), some (.inl i), some (.inl k0), some (.inl w), none]) aL_407 rfl rfl rfl ?_
  refine an_aload_n (pc := 409) aL_409 rfl ?_
  refine an_callV (pc := 410) (As := []) (st := []) aL_410 am_Md_thrown_w am_ml_Law_54 (Nat.le_of_ble_eq_true rfl) (Nat.le_of_ble_eq_true rfl) (lw_c1 hcs) (lw_s6 hss) rfl rfl (Nat.le_of_ble_eq_true rfl) am_c12 (lw_hM 0 _ rfl) (ac_m_thrown (d := 60) lw_hM) ?_
  rintro rv3 h4 ⟨t, rfl, e4, rfl⟩
  rw [e4]
  refine an_iload (pc := 413) aL_413 rfl ?_
  refine an_icmp_eq (pc := 415) (tgt := 420) aL_415 (by decide) (fun _ => ?_) fun z => absurd (lw_eq hk0 (fun b => (hB1 b).2) hB2) z
  refine an_iload (pc := 420) aL_420 rfl ?_
  have go : an_W p l e room_1 s m args below meth c G A (cs + 1) (ss + 6) E am_Lw_law lw_Y 437 [some (.inr (.inr 180)), some (.inr (.inr 0)), some (.inr (.inr 148)), some (.inr (.inr 179)), some (.inl i), some (.inl k0), some (.inl w), none] [] h3 := an_goto (pc := 437) (tgt := 1378) aL_437 (by decide) ((nx h3 R3).less (am_sub_at _ _ ⟨Or.inr rfl, Or.inr rfl, Or.inr rfl, Or.inr rfl, Or.inr rfl, Or.inl rfl, Or.inl rfl, Or.inl rfl, trivial⟩))
  refine an_if_ne (pc := 422) (tgt := 437) aL_422 (by decide) (fun _ => go) fun z => ?_
  have e5 : h3 179 0 = w := lw_out hk0 z (fun b => (hB1 b).1) (hhi 179 (by decide))
  refine an_aload_n (pc := 425) aL_425 rfl ?_
  refine an_iconst (pc := 426) aL_426 ⟨by decide, by decide⟩ ?_
  refine an_lald (pc := 427) (n := 1) aL_427 lw_hO (by decide) ?_
  refine an_iload (pc := 428) aL_428 rfl ?_
  refine an_i2l (pc := 430) aL_430 ?_
  refine an_lcmp (pc := 431) aL_431 (fun z => absurd z (by show ¬ w < h3 179 0; omega)) (fun _ => ?_) fun z => absurd z (by show ¬ h3 179 0 < w; omega)
  exact an_if_eq (pc := 432) (tgt := 437) aL_432 (by decide) (fun _ => go) fun z => absurd rfl z
theorem lw_k6 (C : lw_C s A G b L xs) (hi : 0 ≤ i ∧ i + 6 ≤ L) (hcs : cs ≤ 600000) (hss : ss ≤ 7000000) (R : RL h 0 148) (nx : ∀ h1, RL h1 0 148 → an_W p l e room_1 s m args below meth c G A cs ss E am_Lw_law lw_Y 1378 (lw_ls i) [] h1) : an_W p l e room_1 s m args below meth c G A cs ss E am_Lw_law lw_Y 440 (lw_ls i) [] h := by
  have T : am_two am_Nh_need am_Md_need lw_Y 0 148 [.inl (lw_sx xs i 1), .inl (lw_sx xs i 2)] h := two_need lw_hY lw_hM (by decide) R
  refine an_aload_n (pc := 440) aL_440 rfl ?_
  refine an_arg (pc := 441) (j := 1) C rfl rfl ⟨by decide, by decide⟩ hi aL_441 aL_442 aL_444 aL_445 aL_446 ?_
  refine an_arg (pc := 447) (j := 2) C rfl rfl ⟨by decide, by decide⟩ hi aL_447 aL_448 aL_450 aL_451 aL_452 ?_
  refine an_callV (pc := 453) (As := [.inl (lw_sx xs i 1), .inl (lw_sx xs i 2)]) (st := []) aL_453 am_Nh_need_w am_ml_Law_60 (Nat.le_of_ble_eq_true rfl) (Nat.le_of_ble_eq_true rfl) (lw_c0 hcs) (lw_s0 hss) rfl rfl (Nat.le_of_ble_eq_true rfl) am_c11 (lw_hY 0 _ rfl) T ?_
  rintro rv h1 ⟨v, rfl, km⟩
  refine an_aload_n (pc := 456) aL_456 rfl ?_
  refine an_arg (pc := 457) (j := 1) C rfl rfl ⟨by decide, by decide⟩ hi aL_457 aL_458 aL_460 aL_461 aL_462 ?_
  refine an_arg (pc := 463) (j := 2) C rfl rfl ⟨by decide, by decide⟩ hi aL_463 aL_464 aL_466 aL_467 aL_468 ?_
  refine an_callV (pc := 469) (As := [.inl (lw_sx xs i 1), .inl (lw_sx xs i 2)]) (st := [.inl v]) aL_469 am_Md_need_w am_ml_Law_63 (Nat.le_of_ble_eq_true rfl) (Nat.le_of_ble_eq_true rfl) (lw_c0 hcs) (lw_s0 hss) rfl rfl (Nat.le_of_ble_eq_true rfl) am_c12 (lw_hM 0 _ rfl) km ?_
  rintro rw2 h2 ⟨w, rfl, e2, R2⟩
  exact an_icmp_eq (pc := 472) (tgt := 1378) aL_472 (by decide) (fun _ => nx h2 R2) fun z => absurd e2.symm z
theorem lw_k7 (C : lw_C s A G b L xs) (hi : 0 ≤ i ∧ i + 6 ≤ L) (hcs : cs ≤ 600000) (hss : ss ≤ 7000000) (R : RL h 0 148) (nx : ∀ h1, RL h1 0 148 → an_W p l e room_1 s m args below meth c G A cs ss E am_Lw_law lw_Y 1378 (lw_ls i) [] h1) : an_W p l e room_1 s m args below meth c G A cs ss E am_Lw_law lw_Y 477 (lw_ls i) [] h := by
  have T : am_two am_Nh_tie am_Md_tie lw_Y 0 148 [.inl (lw_sx xs i 1), .inl (lw_sx xs i 2), .inl (lw_sx xs i 3)] h := two_tie lw_hY lw_hM (by decide) R
  refine an_aload_n (pc := 477) aL_477 rfl ?_
  refine an_arg (pc := 478) (j := 1) C rfl rfl ⟨by decide, by decide⟩ hi aL_478 aL_479 aL_481 aL_482 aL_483 ?_
  refine an_arg (pc := 484) (j := 2) C rfl rfl ⟨by decide, by decide⟩ hi aL_484 aL_485 aL_487 aL_488 aL_489 ?_
  refine an_arg (pc := 490) (j := 3) C rfl rfl ⟨by decide, by decide⟩ hi aL_490 aL_491 aL_493 aL_494 aL_495 ?_
  refine an_callV (pc := 496) (As := [.inl (lw_sx xs i 1), .inl (lw_sx xs i 2), .inl (lw_sx xs i 3)]) (st := []) aL_496 am_Nh_tie_w am_ml_Law_64 (Nat.le_of_ble_eq_true rfl) (Nat.le_of_ble_eq_true rfl) (lw_c0 hcs) (lw_s0 hss) rfl rfl (Nat.le_of_ble_eq_true rfl) am_c11 (lw_hY 0 _ rfl) T ?_
  rintro rv h1 ⟨v, rfl, km⟩
  refine an_aload_n (pc := 499) aL_499 rfl ?_
  refine an_arg (pc := 500) (j := 1) C rfl rfl ⟨by decide, by decide⟩ hi aL_500 aL_501 aL_503 aL_504 aL_505 ?_
  refine an_arg (pc := 506) (j := 2) C rfl rfl ⟨by decide, by decide⟩ hi aL_506 aL_507 aL_509 aL_510 aL_511 ?_
  refine an_arg (pc := 512) (j := 3) C rfl rfl ⟨by decide, by decide⟩ hi aL_512 aL_513 aL_515 aL_516 aL_517 ?_
  refine an_callV (pc := 518) (As := [.inl (lw_sx xs i 1), .inl (lw_sx xs i 2), .inl (lw_sx xs i 3)]) (st := [.inl v]) aL_518 am_Md_tie_w am_ml_Law_68 (Nat.le_of_ble_eq_true rfl) (Nat.le_of_ble_eq_true rfl) (lw_c0 hcs) (lw_s0 hss) rfl rfl (Nat.le_of_ble_eq_true rfl) am_c12 (lw_hM 0 _ rfl) km ?_
  rintro rw2 h2 ⟨w, rfl, e2, R2⟩
  exact an_icmp_eq (pc := 521) (tgt := 1378) aL_521 (by decide) (fun _ => nx h2 R2) fun z => absurd e2.symm z
theorem lw_k8 (C : lw_C s A G b L xs) (hi : 0 ≤ i ∧ i + 6 ≤ L) (hcs : cs ≤ 600000) (hss : ss ≤ 7000000) (R : RL h 0 148) (nx : ∀ h1, RL h1 0 148 → an_W p l e room_1 s m args below meth c G A cs ss E am_Lw_law lw_Y 1378 (lw_ls i) [] h1) : an_W p l e room_1 s m args below meth c G A cs ss E am_Lw_law lw_Y 526 (lw_ls i) [] h := by
  have T : am_two am_Nh_book am_Md_book lw_Y 0 148 [] h := two_book lw_hY lw_hM (by decide) R
  refine an_aload_n (pc := 526) aL_526 rfl ?_
  refine an_callV (pc := 527) (As := []) (st := []) aL_527 am_Nh_book_w am_ml_Law_69 (Nat.le_of_ble_eq_true rfl) (Nat.le_of_ble_eq_true rfl) (lw_c0 hcs) (lw_s0 hss) rfl rfl (Nat.le_of_ble_eq_true rfl) am_c11 (lw_hY 0 _ rfl) T ?_
  rintro rv h1 ⟨v, rfl, km⟩
  refine an_aload_n (pc := 530) aL_530 rfl ?_
  refine an_callV (pc := 531) (As := []) (st := [.inl v]) aL_531 am_Md_book_w am_ml_Law_72 (Nat.le_of_ble_eq_true rfl) (Nat.le_of_ble_eq_true rfl) (lw_c0 hcs) (lw_s0 hss) rfl rfl (Nat.le_of_ble_eq_true rfl) am_c12 (lw_hM 0 _ rfl) km ?_
  rintro rw2 h2 ⟨w, rfl, e2, R2⟩
  exact an_icmp_eq (pc := 534) (tgt := 1378) aL_534 (by decide) (fun _ => nx h2 R2) fun z => absurd e2.symm z
theorem lw_k9 (C : lw_C s A G b L xs) (hi : 0 ≤ i ∧ i + 6 ≤ L) (hcs : cs ≤ 600000) (hss : ss ≤ 7000000) (R : RL h 0 148) (nx : ∀ h1, RL h1 0 148 → an_W p l e room_1 s m args below meth c G A cs ss E am_Lw_law lw_Y 1378 (lw_ls i) [] h1) : an_W p l e room_1 s m args below meth c G A cs ss E am_Lw_law lw_Y 539 (lw_ls i) [] h := by
  have T : am_two am_Nh_wrong am_Md_wrong lw_Y 0 148 [.inl (lw_sx xs i 1)] h := two_wrong lw_hY lw_hM (by decide) R
  refine an_aload_n (pc := 539) aL_539 rfl ?_
  refine an_arg (pc := 540) (j := 1) C rfl rfl ⟨by decide, by decide⟩ hi aL_540 aL_541 aL_543 aL_544 aL_545 ?_
  refine an_callV (pc := 546) (As := [.inl (lw_sx xs i 1)]) (st := []) aL_546 am_Nh_wrong_w am_ml_Law_73 (Nat.le_of_ble_eq_true rfl) (Nat.le_of_ble_eq_true rfl) (lw_c0 hcs) (lw_s0 hss) rfl rfl (Nat.le_of_ble_eq_true rfl) am_c11 (lw_hY 0 _ rfl) T ?_
  rintro rv h1 ⟨v, rfl, km⟩
  refine an_aload_n (pc := 549) aL_549 rfl ?_
  refine an_arg (pc := 550) (j := 1) C rfl rfl ⟨by decide, by decide⟩ hi aL_550 aL_551 aL_553 aL_554 aL_555 ?_
  refine an_callV (pc := 556) (As := [.inl (lw_sx xs i 1)]) (st := [.inl v]) aL_556 am_Md_wrong_w am_ml_Law_77 (Nat.le_of_ble_eq_true rfl) (Nat.le_of_ble_eq_true rfl) (lw_c0 hcs) (lw_s0 hss) rfl rfl (Nat.le_of_ble_eq_true rfl) am_c12 (lw_hM 0 _ rfl) km ?_
  rintro rw2 h2 ⟨w, rfl, e2, R2⟩
  exact an_icmp_eq (pc := 559) (tgt := 1378) aL_559 (by decide) (fun _ => nx h2 R2) fun z => absurd e2.symm z
theorem lw_k10 (C : lw_C s A G b L xs) (hi : 0 ≤ i ∧ i + 6 ≤ L) (hcs : cs ≤ 600000) (hss : ss ≤ 7000000) (R : RL h 0 148) (nx : ∀ h1, RL h1 0 148 → an_W p l e room_1 s m args below meth c G A cs ss E am_Lw_law lw_Y 1378 (lw_ls i) [] h1) : an_W p l e room_1 s m args below meth c G A cs ss E am_Lw_law lw_Y 564 (lw_ls i) [] h := by
  have T : am_two am_Nh_judge am_Md_judge lw_Y 0 148 [.inl (lw_sx xs i 1)] h := two_judge lw_hY lw_hM (by decide) R
  refine an_aload_n (pc := 564) aL_564 rfl ?_
  refine an_arg (pc := 565) (j := 1) C rfl rfl ⟨by decide, by decide⟩ hi aL_565 aL_566 aL_568 aL_569 aL_570 ?_
  refine an_callV (pc := 571) (As := [.inl (lw_sx xs i 1)]) (st := []) aL_571 am_Nh_judge_w am_ml_Law_78 (Nat.le_of_ble_eq_true rfl) (Nat.le_of_ble_eq_true rfl) (lw_c0 hcs) (lw_s0 hss) rfl rfl (Nat.le_of_ble_eq_true rfl) am_c11 (lw_hY 0 _ rfl) T ?_
  rintro rv h1 ⟨v, rfl, km⟩
  refine an_aload_n (pc := 574) aL_574 rfl ?_
  refine an_arg (pc := 575) (j := 1) C rfl rfl ⟨by decide, by decide⟩ hi aL_575 aL_576 aL_578 aL_579 aL_580 ?_
  refine an_callV (pc := 581) (As := [.inl (lw_sx xs i 1)]) (st := [.inl v]) aL_581 am_Md_judge_w am_ml_Law_81 (Nat.le_of_ble_eq_true rfl) (Nat.le_of_ble_eq_true rfl) (lw_c0 hcs) (lw_s0 hss) rfl rfl (Nat.le_of_ble_eq_true rfl) am_c12 (lw_hM 0 _ rfl) km ?_
  rintro rw2 h2 ⟨w, rfl, e2, R2⟩
  exact an_icmp_eq (pc := 584) (tgt := 1378) aL_584 (by decide) (fun _ => nx h2 R2) fun z => absurd e2.symm z
theorem lw_k11 (C : lw_C s A G b L xs) (hl0 : l.stackTraces = false) (hZ : an_ZZ A s s.heap) (hi : 0 ≤ i ∧ i + 6 ≤ L) (hcs : cs ≤ 600000) (hss : ss ≤ 7000000) (R : RL h 0 148) (nx : ∀ h1, RL h1 0 148 → an_W p l e room_1 s m args below meth c G A (cs + 1) (ss + 6) E am_Lw_law lw_Y 1378 (lw_ls i) [] h1) : an_W p l e room_1 s m args below meth c G A cs ss E am_Lw_law lw_Y 589 (lw_ls i) [] h := by
  obtain ⟨B, F, hx, hm⟩ := (thr_came lw_hY lw_hM (by decide) R : am_thr am_Nh_came am_Md_came lw_Y 0 148 [.inl (lw_sx xs i 1), .inl (lw_sx xs i 2)] h (fun w => .inl w))
  refine an_aload_n (pc := 589) aL_589 rfl ?_
  refine an_arg (pc := 590) (j := 1) C rfl rfl ⟨by decide, by decide⟩ hi aL_590 aL_591 aL_593 aL_594 aL_595 ?_
  refine an_arg (pc := 596) (j := 2) C rfl rfl ⟨by decide, by decide⟩ hi aL_596 aL_597 aL_599 aL_600 aL_601 ?_
  refine an_aload_n (pc := 602) aL_602 rfl ?_
  refine an_callLM (pc := 603) (As := [.inr (.inr 0), .inl (lw_sx xs i 1), .inl (lw_sx xs i 2), .inr (.inr 179)]) (st := []) hl0 hZ aL_603 lw_came_w am_ml_Law_82 (Nat.le_of_ble_eq_true rfl) (Nat.le_of_ble_eq_true rfl) (lw_c1 hcs) (lw_s6 hss) rfl rfl (Nat.le_of_ble_eq_true rfl) (lw_came lw_hY lw_hO hx) ?_
  rintro rv h2 hq
  refine an_W.rg fun ok2 _ _ => ?_
  obtain ⟨k0, rfl, hk0, hfr⟩ := lw_lq hq
  refine an_istore (pc := 606) (ls1 := [some (.inr (.inr 180)), some (.inr (.inr 0)), some (.inr (.inr 148)), some (.inr (.inr 179)), some (.inl i), some (.inl k0), none, none]) aL_606 rfl rfl rfl ?_
  refine an_aload_n (pc := 608) aL_608 rfl ?_
  refine an_arg (pc := 609) (j := 1) C rfl rfl ⟨by decide, by decide⟩ hi aL_609 aL_610 aL_612 aL_613 aL_614 ?_
  refine an_arg (pc := 615) (j := 2) C rfl rfl ⟨by decide, by decide⟩ hi aL_615 aL_616 aL_618 aL_619 aL_620 ?_
  refine an_callV (pc := 621) (As := [.inl (lw_sx xs i 1), .inl (lw_sx xs i 2)]) (st := []) aL_621 am_Md_came_w am_ml_Law_84 (Nat.le_of_ble_eq_true rfl) (Nat.le_of_ble_eq_true rfl) (lw_c1 hcs) (lw_s6 hss) rfl rfl (Nat.le_of_ble_eq_true rfl) am_c12 (lw_hM 0 _ rfl) (hm h2 ok2 hfr) ?_
  rintro rv2 h3 ⟨w, rfl, hB1, hB2, R3, hhi⟩
  refine an_istore (pc := 624) (ls1 := [some (.inr (.inr 180)), some (.inr (.inr 0)), some (.inr (.inr 148)), some (.inr (.inr 179)), some (.inl i), some (.inl k0), some (.inl w), none]) aL_624 rfl rfl rfl ?_
  refine an_aload_n (pc := 626) aL_626 rfl ?_
  refine an_callV (pc := 627) (As := []) (st := []) aL_627 am_Md_thrown_w am_ml_Law_54 (Nat.le_of_ble_eq_true rfl) (Nat.le_of_ble_eq_true rfl) (lw_c1 hcs) (lw_s6 hss) rfl rfl (Nat.le_of_ble_eq_true rfl) am_c12 (lw_hM 0 _ rfl) (ac_m_thrown (d := 60) lw_hM) ?_
  rintro rv3 h4 ⟨t, rfl, e4, rfl⟩
  rw [e4]
  refine an_iload (pc := 630) aL_630 rfl ?_
  refine an_icmp_eq (pc := 632) (tgt := 637) aL_632 (by decide) (fun _ => ?_) fun z => absurd (lw_eq hk0 (fun b => (hB1 b).2) hB2) z
  refine an_iload (pc := 637) aL_637 rfl ?_
  have go : an_W p l e room_1 s m args below meth c G A (cs + 1) (ss + 6) E am_Lw_law lw_Y 654 [some (.inr (.inr 180)), some (.inr (.inr 0)), some (.inr (.inr 148)), some (.inr (.inr 179)), some (.inl i), some (.inl k0), some (.inl w), none] [] h3 := an_goto (pc := 654) (tgt := 1378) aL_654 (by decide) ((nx h3 R3).less (am_sub_at _ _ ⟨Or.inr rfl, Or.inr rfl, Or.inr rfl, Or.inr rfl, Or.inr rfl, Or.inl rfl, Or.inl rfl, Or.inl rfl, trivial⟩))
  refine an_if_ne (pc := 639) (tgt := 654) aL_639 (by decide) (fun _ => go) fun z => ?_
  have e5 : h3 179 0 = w := lw_out hk0 z (fun b => (hB1 b).1) (hhi 179 (by decide))
  refine an_aload_n (pc := 642) aL_642 rfl ?_
  refine an_iconst (pc := 643) aL_643 ⟨by decide, by decide⟩ ?_
  refine an_lald (pc := 644) (n := 1) aL_644 lw_hO (by decide) ?_
  refine an_iload (pc := 645) aL_645 rfl ?_
  refine an_i2l (pc := 647) aL_647 ?_
  refine an_lcmp (pc := 648) aL_648 (fun z => absurd z (by show ¬ w < h3 179 0; omega)) (fun _ => ?_) fun z => absurd z (by show ¬ h3 179 0 < w; omega)
  exact an_if_eq (pc := 649) (tgt := 654) aL_649 (by decide) (fun _ => go) fun z => absurd rfl z
theorem lw_k12 (C : lw_C s A G b L xs) (hi : 0 ≤ i ∧ i + 6 ≤ L) (hcs : cs ≤ 600000) (hss : ss ≤ 7000000) (R : RL h 0 148) (nx : ∀ h1, RL h1 0 148 → an_W p l e room_1 s m args below meth c G A cs ss E am_Lw_law lw_Y 1378 (lw_ls i) [] h1) : an_W p l e room_1 s m args below meth c G A cs ss E am_Lw_law lw_Y 657 (lw_ls i) [] h := by
  have T : am_two am_Nh_bound am_Md_bound lw_Y 0 148 [.inl (lw_sx xs i 1), .inl (lw_sx xs i 2), .inl (lw_sx xs i 3)] h := two_bound lw_hY lw_hM (by decide) R
  refine an_aload_n (pc := 657) aL_657 rfl ?_
  refine an_arg (pc := 658) (j := 1) C rfl rfl ⟨by decide, by decide⟩ hi aL_658 aL_659 aL_661 aL_662 aL_663 ?_
  refine an_arg (pc := 664) (j := 2) C rfl rfl ⟨by decide, by decide⟩ hi aL_664 aL_665 aL_667 aL_668 aL_669 ?_
  refine an_arg (pc := 670) (j := 3) C rfl rfl ⟨by decide, by decide⟩ hi aL_670 aL_671 aL_673 aL_674 aL_675 ?_
  refine an_callV (pc := 676) (As := [.inl (lw_sx xs i 1), .inl (lw_sx xs i 2), .inl (lw_sx xs i 3)]) (st := []) aL_676 am_Nh_bound_w am_ml_Law_85 (Nat.le_of_ble_eq_true rfl) (Nat.le_of_ble_eq_true rfl) (lw_c0 hcs) (lw_s0 hss) rfl rfl (Nat.le_of_ble_eq_true rfl) am_c11 (lw_hY 0 _ rfl) T ?_
  rintro rv h1 ⟨v, rfl, km⟩
  refine an_aload_n (pc := 679) aL_679 rfl ?_
  refine an_arg (pc := 680) (j := 1) C rfl rfl ⟨by decide, by decide⟩ hi aL_680 aL_681 aL_683 aL_684 aL_685 ?_
  refine an_arg (pc := 686) (j := 2) C rfl rfl ⟨by decide, by decide⟩ hi aL_686 aL_687 aL_689 aL_690 aL_691 ?_
  refine an_arg (pc := 692) (j := 3) C rfl rfl ⟨by decide, by decide⟩ hi aL_692 aL_693 aL_695 aL_696 aL_697 ?_
  refine an_callV (pc := 698) (As := [.inl (lw_sx xs i 1), .inl (lw_sx xs i 2), .inl (lw_sx xs i 3)]) (st := [.inl v]) aL_698 am_Md_bound_w am_ml_Law_88 (Nat.le_of_ble_eq_true rfl) (Nat.le_of_ble_eq_true rfl) (lw_c0 hcs) (lw_s0 hss) rfl rfl (Nat.le_of_ble_eq_true rfl) am_c12 (lw_hM 0 _ rfl) km ?_
  rintro rw2 h2 ⟨w, rfl, e2, R2⟩
  exact an_icmp_eq (pc := 701) (tgt := 1378) aL_701 (by decide) (fun _ => nx h2 R2) fun z => absurd e2.symm z
theorem lw_k13 (C : lw_C s A G b L xs) (hi : 0 ≤ i ∧ i + 6 ≤ L) (hcs : cs ≤ 600000) (hss : ss ≤ 7000000) (R : RL h 0 148) (nx : ∀ h1, RL h1 0 148 → an_W p l e room_1 s m args below meth c G A cs ss E am_Lw_law lw_Y 1378 (lw_ls i) [] h1) : an_W p l e room_1 s m args below meth c G A cs ss E am_Lw_law lw_Y 706 (lw_ls i) [] h := by
  have T : am_two am_Nh_found am_Md_found lw_Y 0 148 [.inl (lw_sx xs i 1)] h := two_found lw_hY lw_hM (by decide) R
  refine an_aload_n (pc := 706) aL_706 rfl ?_
  refine an_arg (pc := 707) (j := 1) C rfl rfl ⟨by decide, by decide⟩ hi aL_707 aL_708 aL_710 aL_711 aL_712 ?_
  refine an_callV (pc := 713) (As := [.inl (lw_sx xs i 1)]) (st := []) aL_713 am_Nh_found_w am_ml_Law_89 (Nat.le_of_ble_eq_true rfl) (Nat.le_of_ble_eq_true rfl) (lw_c0 hcs) (lw_s0 hss) rfl rfl (Nat.le_of_ble_eq_true rfl) am_c11 (lw_hY 0 _ rfl) T ?_
  rintro rv h1 ⟨v, rfl, km⟩
  refine an_aload_n (pc := 716) aL_716 rfl ?_
  refine an_arg (pc := 717) (j := 1) C rfl rfl ⟨by decide, by decide⟩ hi aL_717 aL_718 aL_720 aL_721 aL_722 ?_
  refine an_callV (pc := 723) (As := [.inl (lw_sx xs i 1)]) (st := [.inl v]) aL_723 am_Md_found_w am_ml_Law_92 (Nat.le_of_ble_eq_true rfl) (Nat.le_of_ble_eq_true rfl) (lw_c0 hcs) (lw_s0 hss) rfl rfl (Nat.le_of_ble_eq_true rfl) am_c12 (lw_hM 0 _ rfl) km ?_
  rintro rw2 h2 ⟨w, rfl, e2, R2⟩
  exact an_icmp_eq (pc := 726) (tgt := 1378) aL_726 (by decide) (fun _ => nx h2 R2) fun z => absurd e2.symm z
theorem lw_k14 (C : lw_C s A G b L xs) (hi : 0 ≤ i ∧ i + 6 ≤ L) (hcs : cs ≤ 600000) (hss : ss ≤ 7000000) (R : RL h 0 148) (nx : ∀ h1, RL h1 0 148 → an_W p l e room_1 s m args below meth c G A cs ss E am_Lw_law lw_Y 1378 (lw_ls i) [] h1) : an_W p l e room_1 s m args below meth c G A cs ss E am_Lw_law lw_Y 731 (lw_ls i) [] h := by
  have T : am_two am_Nh_pair am_Md_pair lw_Y 0 148 [.inl (lw_sx xs i 1), .inl (lw_sx xs i 2)] h := two_pair lw_hY lw_hM (by decide) R
  refine an_aload_n (pc := 731) aL_731 rfl ?_
  refine an_arg (pc := 732) (j := 1) C rfl rfl ⟨by decide, by decide⟩ hi aL_732 aL_733 aL_735 aL_736 aL_737 ?_
  refine an_arg (pc := 738) (j := 2) C rfl rfl ⟨by decide, by decide⟩ hi aL_738 aL_739 aL_741 aL_742 aL_743 ?_
  refine an_callV (pc := 744) (As := [.inl (lw_sx xs i 1), .inl (lw_sx xs i 2)]) (st := []) aL_744 am_Nh_pair_w am_ml_Law_93 (Nat.le_of_ble_eq_true rfl) (Nat.le_of_ble_eq_true rfl) (lw_c0 hcs) (lw_s0 hss) rfl rfl (Nat.le_of_ble_eq_true rfl) am_c11 (lw_hY 0 _ rfl) T ?_
  rintro rv h1 ⟨v, rfl, km⟩
  refine an_aload_n (pc := 747) aL_747 rfl ?_
  refine an_arg (pc := 748) (j := 1) C rfl rfl ⟨by decide, by decide⟩ hi aL_748 aL_749 aL_751 aL_752 aL_753 ?_
  refine an_arg (pc := 754) (j := 2) C rfl rfl ⟨by decide, by decide⟩ hi aL_754 aL_755 aL_757 aL_758 aL_759 ?_
  refine an_callV (pc := 760) (As := [.inl (lw_sx xs i 1), .inl (lw_sx xs i 2)]) (st := [.inl v]) aL_760 am_Md_pair_w am_ml_Law_96 (Nat.le_of_ble_eq_true rfl) (Nat.le_of_ble_eq_true rfl) (lw_c0 hcs) (lw_s0 hss) rfl rfl (Nat.le_of_ble_eq_true rfl) am_c12 (lw_hM 0 _ rfl) km ?_
  rintro rw2 h2 ⟨w, rfl, e2, R2⟩
  exact an_icmp_eq (pc := 763) (tgt := 1378) aL_763 (by decide) (fun _ => nx h2 R2) fun z => absurd e2.symm z
theorem lw_k15 (C : lw_C s A G b L xs) (hl0 : l.stackTraces = false) (hZ : an_ZZ A s s.heap) (hi : 0 ≤ i ∧ i + 6 ≤ L) (hcs : cs ≤ 600000) (hss : ss ≤ 7000000) (R : RL h 0 148) (nx : ∀ h1, RL h1 0 148 → an_W p l e room_1 s m args below meth c G A (cs + 1) (ss + 6) E am_Lw_law lw_Y 1378 (lw_ls i) [] h1) : an_W p l e room_1 s m args below meth c G A cs ss E am_Lw_law lw_Y 768 (lw_ls i) [] h := by
  obtain ⟨B, F, hx, hm⟩ := (thr_best lw_hY lw_hM (by decide) R : am_thr am_Nh_best am_Md_best lw_Y 0 148 [.inl (lw_sx xs i 1), .inl (lw_sx xs i 2), .inl (lw_sx xs i 3), .inl (lw_sx xs i 4), .inl (lw_sx xs i 5)] h (fun w => .inr (.inl w)))
  refine an_aload_n (pc := 768) aL_768 rfl ?_
  refine an_arg (pc := 769) (j := 1) C rfl rfl ⟨by decide, by decide⟩ hi aL_769 aL_770 aL_772 aL_773 aL_774 ?_
  refine an_arg (pc := 775) (j := 2) C rfl rfl ⟨by decide, by decide⟩ hi aL_775 aL_776 aL_778 aL_779 aL_780 ?_
  refine an_arg (pc := 781) (j := 3) C rfl rfl ⟨by decide, by decide⟩ hi aL_781 aL_782 aL_784 aL_785 aL_786 ?_
  refine an_arg (pc := 787) (j := 4) C rfl rfl ⟨by decide, by decide⟩ hi aL_787 aL_788 aL_790 aL_791 aL_792 ?_
  refine an_arg (pc := 793) (j := 5) C rfl rfl ⟨by decide, by decide⟩ hi aL_793 aL_794 aL_796 aL_797 aL_798 ?_
  refine an_aload_n (pc := 799) aL_799 rfl ?_
  refine an_callLM (pc := 800) (As := [.inr (.inr 0), .inl (lw_sx xs i 1), .inl (lw_sx xs i 2), .inl (lw_sx xs i 3), .inl (lw_sx xs i 4), .inl (lw_sx xs i 5), .inr (.inr 179)]) (st := []) hl0 hZ aL_800 lw_best_w am_ml_Law_97 (Nat.le_of_ble_eq_true rfl) (Nat.le_of_ble_eq_true rfl) (lw_c1 hcs) (lw_s6 hss) rfl rfl (Nat.le_of_ble_eq_true rfl) (lw_best lw_hY lw_hO hx) ?_
  rintro rv h2 hq
  refine an_W.rg fun ok2 _ _ => ?_
  obtain ⟨k0, rfl, hk0, hfr⟩ := lw_lq hq
  refine an_istore (pc := 803) (ls1 := [some (.inr (.inr 180)), some (.inr (.inr 0)), some (.inr (.inr 148)), some (.inr (.inr 179)), some (.inl i), some (.inl k0), none, none]) aL_803 rfl rfl rfl ?_
  refine an_aload_n (pc := 805) aL_805 rfl ?_
  refine an_arg (pc := 806) (j := 1) C rfl rfl ⟨by decide, by decide⟩ hi aL_806 aL_807 aL_809 aL_810 aL_811 ?_
  refine an_arg (pc := 812) (j := 2) C rfl rfl ⟨by decide, by decide⟩ hi aL_812 aL_813 aL_815 aL_816 aL_817 ?_
  refine an_arg (pc := 818) (j := 3) C rfl rfl ⟨by decide, by decide⟩ hi aL_818 aL_819 aL_821 aL_822 aL_823 ?_
  refine an_arg (pc := 824) (j := 4) C rfl rfl ⟨by decide, by decide⟩ hi aL_824 aL_825 aL_827 aL_828 aL_829 ?_
  refine an_arg (pc := 830) (j := 5) C rfl rfl ⟨by decide, by decide⟩ hi aL_830 aL_831 aL_833 aL_834 aL_835 ?_
  refine an_callV (pc := 836) (As := [.inl (lw_sx xs i 1), .inl (lw_sx xs i 2), .inl (lw_sx xs i 3), .inl (lw_sx xs i 4), .inl (lw_sx xs i 5)]) (st := []) aL_836 am_Md_best_w am_ml_Law_100 (Nat.le_of_ble_eq_true rfl) (Nat.le_of_ble_eq_true rfl) (lw_c1 hcs) (lw_s6 hss) rfl rfl (Nat.le_of_ble_eq_true rfl) am_c12 (lw_hM 0 _ rfl) (hm h2 ok2 hfr) ?_
  rintro rv2 h3 ⟨w, rfl, hB1, hB2, R3, hhi⟩
  refine an_lstore (pc := 839) (ls1 := [some (.inr (.inr 180)), some (.inr (.inr 0)), some (.inr (.inr 148)), some (.inr (.inr 179)), some (.inl i), some (.inl k0), some (.inr (.inl w)), none]) aL_839 rfl rfl rfl ?_
  refine an_aload_n (pc := 841) aL_841 rfl ?_
  refine an_callV (pc := 842) (As := []) (st := []) aL_842 am_Md_thrown_w am_ml_Law_54 (Nat.le_of_ble_eq_true rfl) (Nat.le_of_ble_eq_true rfl) (lw_c1 hcs) (lw_s6 hss) rfl rfl (Nat.le_of_ble_eq_true rfl) am_c12 (lw_hM 0 _ rfl) (ac_m_thrown (d := 60) lw_hM) ?_
  rintro rv3 h4 ⟨t, rfl, e4, rfl⟩
  rw [e4]
  refine an_iload (pc := 845) aL_845 rfl ?_
  refine an_icmp_eq (pc := 847) (tgt := 852) aL_847 (by decide) (fun _ => ?_) fun z => absurd (lw_eq hk0 (fun b => (hB1 b).2) hB2) z
  refine an_iload (pc := 852) aL_852 rfl ?_
  have go : an_W p l e room_1 s m args below meth c G A (cs + 1) (ss + 6) E am_Lw_law lw_Y 868 [some (.inr (.inr 180)), some (.inr (.inr 0)), some (.inr (.inr 148)), some (.inr (.inr 179)), some (.inl i), some (.inl k0), some (.inr (.inl w)), none] [] h3 := an_goto (pc := 868) (tgt := 1378) aL_868 (by decide) ((nx h3 R3).less (am_sub_at _ _ ⟨Or.inr rfl, Or.inr rfl, Or.inr rfl, Or.inr rfl, Or.inr rfl, Or.inl rfl, Or.inl rfl, Or.inl rfl, trivial⟩))
  refine an_if_ne (pc := 854) (tgt := 868) aL_854 (by decide) (fun _ => go) fun z => ?_
  have e5 : h3 179 0 = w := lw_out hk0 z (fun b => (hB1 b).1) (hhi 179 (by decide))
  refine an_aload_n (pc := 857) aL_857 rfl ?_
  refine an_iconst (pc := 858) aL_858 ⟨by decide, by decide⟩ ?_
  refine an_lald (pc := 859) (n := 1) aL_859 lw_hO (by decide) ?_
  refine an_lload (pc := 860) aL_860 rfl ?_
  refine an_lcmp (pc := 862) aL_862 (fun z => absurd z (by show ¬ w < h3 179 0; omega)) (fun _ => ?_) fun z => absurd z (by show ¬ h3 179 0 < w; omega)
  exact an_if_eq (pc := 863) (tgt := 868) aL_863 (by decide) (fun _ => go) fun z => absurd rfl z
theorem lw_k16 (C : lw_C s A G b L xs) (hi : 0 ≤ i ∧ i + 6 ≤ L) (hcs : cs ≤ 600000) (hss : ss ≤ 7000000) (R : RL h 0 148) (nx : ∀ h1, RL h1 0 148 → an_W p l e room_1 s m args below meth c G A cs ss E am_Lw_law lw_Y 1378 (lw_ls i) [] h1) : an_W p l e room_1 s m args below meth c G A cs ss E am_Lw_law lw_Y 871 (lw_ls i) [] h := by
  have T : am_two am_Nh_does am_Md_does lw_Y 0 148 [.inl (lw_sx xs i 1), .inl (lw_sx xs i 2), .inl (lw_sx xs i 3), .inl (lw_sx xs i 4), .inl (lw_sx xs i 5)] h := two_does lw_hY lw_hM (by decide) R
  refine an_aload_n (pc := 871) aL_871 rfl ?_
  refine an_arg (pc := 872) (j := 1) C rfl rfl ⟨by decide, by decide⟩ hi aL_872 aL_873 aL_875 aL_876 aL_877 ?_
  refine an_arg (pc := 878) (j := 2) C rfl rfl ⟨by decide, by decide⟩ hi aL_878 aL_879 aL_881 aL_882 aL_883 ?_
  refine an_arg (pc := 884) (j := 3) C rfl rfl ⟨by decide, by decide⟩ hi aL_884 aL_885 aL_887 aL_888 aL_889 ?_
  refine an_arg (pc := 890) (j := 4) C rfl rfl ⟨by decide, by decide⟩ hi aL_890 aL_891 aL_893 aL_894 aL_895 ?_
  refine an_arg (pc := 896) (j := 5) C rfl rfl ⟨by decide, by decide⟩ hi aL_896 aL_897 aL_899 aL_900 aL_901 ?_
  refine an_callV (pc := 902) (As := [.inl (lw_sx xs i 1), .inl (lw_sx xs i 2), .inl (lw_sx xs i 3), .inl (lw_sx xs i 4), .inl (lw_sx xs i 5)]) (st := []) aL_902 am_Nh_does_w am_ml_Law_101 (Nat.le_of_ble_eq_true rfl) (Nat.le_of_ble_eq_true rfl) (lw_c0 hcs) (lw_s0 hss) rfl rfl (Nat.le_of_ble_eq_true rfl) am_c11 (lw_hY 0 _ rfl) T ?_
  rintro rv h1 ⟨v, rfl, km⟩
  refine an_aload_n (pc := 905) aL_905 rfl ?_
  refine an_arg (pc := 906) (j := 1) C rfl rfl ⟨by decide, by decide⟩ hi aL_906 aL_907 aL_909 aL_910 aL_911 ?_
  refine an_arg (pc := 912) (j := 2) C rfl rfl ⟨by decide, by decide⟩ hi aL_912 aL_913 aL_915 aL_916 aL_917 ?_
  refine an_arg (pc := 918) (j := 3) C rfl rfl ⟨by decide, by decide⟩ hi aL_918 aL_919 aL_921 aL_922 aL_923 ?_
  refine an_arg (pc := 924) (j := 4) C rfl rfl ⟨by decide, by decide⟩ hi aL_924 aL_925 aL_927 aL_928 aL_929 ?_
  refine an_arg (pc := 930) (j := 5) C rfl rfl ⟨by decide, by decide⟩ hi aL_930 aL_931 aL_933 aL_934 aL_935 ?_
  refine an_callV (pc := 936) (As := [.inl (lw_sx xs i 1), .inl (lw_sx xs i 2), .inl (lw_sx xs i 3), .inl (lw_sx xs i 4), .inl (lw_sx xs i 5)]) (st := [.inl v]) aL_936 am_Md_does_w am_ml_Law_104 (Nat.le_of_ble_eq_true rfl) (Nat.le_of_ble_eq_true rfl) (lw_c0 hcs) (lw_s0 hss) rfl rfl (Nat.le_of_ble_eq_true rfl) am_c12 (lw_hM 0 _ rfl) km ?_
  rintro rw2 h2 ⟨w, rfl, e2, R2⟩
  exact an_icmp_eq (pc := 939) (tgt := 1378) aL_939 (by decide) (fun _ => nx h2 R2) fun z => absurd e2.symm z
theorem lw_k17 (C : lw_C s A G b L xs) (hi : 0 ≤ i ∧ i + 6 ≤ L) (hcs : cs ≤ 600000) (hss : ss ≤ 7000000) (R : RL h 0 148) (nx : ∀ h1, RL h1 0 148 → an_W p l e room_1 s m args below meth c G A cs ss E am_Lw_law lw_Y 1378 (lw_ls i) [] h1) : an_W p l e room_1 s m args below meth c G A cs ss E am_Lw_law lw_Y 944 (lw_ls i) [] h := by
  have T : am_two am_Nh_willing am_Md_willing lw_Y 0 148 [.inl (lw_sx xs i 1), .inl (lw_sx xs i 2), .inl (lw_sx xs i 3)] h := two_willing lw_hY lw_hM (by decide) R
  refine an_aload_n (pc := 944) aL_944 rfl ?_
  refine an_arg (pc := 945) (j := 1) C rfl rfl ⟨by decide, by decide⟩ hi aL_945 aL_946 aL_948 aL_949 aL_950 ?_
  refine an_arg (pc := 951) (j := 2) C rfl rfl ⟨by decide, by decide⟩ hi aL_951 aL_952 aL_954 aL_955 aL_956 ?_
  refine an_arg (pc := 957) (j := 3) C rfl rfl ⟨by decide, by decide⟩ hi aL_957 aL_958 aL_960 aL_961 aL_962 ?_
  refine an_callV (pc := 963) (As := [.inl (lw_sx xs i 1), .inl (lw_sx xs i 2), .inl (lw_sx xs i 3)]) (st := []) aL_963 am_Nh_willing_w am_ml_Law_105 (Nat.le_of_ble_eq_true rfl) (Nat.le_of_ble_eq_true rfl) (lw_c0 hcs) (lw_s0 hss) rfl rfl (Nat.le_of_ble_eq_true rfl) am_c11 (lw_hY 0 _ rfl) T ?_
  rintro rv h1 ⟨v, rfl, km⟩
  refine an_aload_n (pc := 966) aL_966 rfl ?_
  refine an_arg (pc := 967) (j := 1) C rfl rfl ⟨by decide, by decide⟩ hi aL_967 aL_968 aL_970 aL_971 aL_972 ?_
  refine an_arg (pc := 973) (j := 2) C rfl rfl ⟨by decide, by decide⟩ hi aL_973 aL_974 aL_976 aL_977 aL_978 ?_
  refine an_arg (pc := 979) (j := 3) C rfl rfl ⟨by decide, by decide⟩ hi aL_979 aL_980 aL_982 aL_983 aL_984 ?_
  refine an_callV (pc := 985) (As := [.inl (lw_sx xs i 1), .inl (lw_sx xs i 2), .inl (lw_sx xs i 3)]) (st := [.inl v]) aL_985 am_Md_willing_w am_ml_Law_108 (Nat.le_of_ble_eq_true rfl) (Nat.le_of_ble_eq_true rfl) (lw_c0 hcs) (lw_s0 hss) rfl rfl (Nat.le_of_ble_eq_true rfl) am_c12 (lw_hM 0 _ rfl) km ?_
  rintro rw2 h2 ⟨w, rfl, e2, R2⟩
  exact an_icmp_eq (pc := 988) (tgt := 1378) aL_988 (by decide) (fun _ => nx h2 R2) fun z => absurd e2.symm z
theorem lw_k18 (C : lw_C s A G b L xs) (hi : 0 ≤ i ∧ i + 6 ≤ L) (hcs : cs ≤ 600000) (hss : ss ≤ 7000000) (R : RL h 0 148) (nx : ∀ h1, RL h1 0 148 → an_W p l e room_1 s m args below meth c G A cs ss E am_Lw_law lw_Y 1378 (lw_ls i) [] h1) : an_W p l e room_1 s m args below meth c G A cs ss E am_Lw_law lw_Y 993 (lw_ls i) [] h := by
  have T : am_two am_Nh_ways am_Md_ways lw_Y 0 148 [.inl (lw_sx xs i 1), .inl (lw_sx xs i 2), .inl (lw_sx xs i 3)] h := two_ways lw_hY lw_hM (by decide) R
  refine an_aload_n (pc := 993) aL_993 rfl ?_
  refine an_arg (pc := 994) (j := 1) C rfl rfl ⟨by decide, by decide⟩ hi aL_994 aL_995 aL_997 aL_998 aL_999 ?_
  refine an_arg (pc := 1000) (j := 2) C rfl rfl ⟨by decide, by decide⟩ hi aL_1000 aL_1001 aL_1003 aL_1004 aL_1005 ?_
  refine an_arg (pc := 1006) (j := 3) C rfl rfl ⟨by decide, by decide⟩ hi aL_1006 aL_1007 aL_1009 aL_1010 aL_1011 ?_
  refine an_callV (pc := 1012) (As := [.inl (lw_sx xs i 1), .inl (lw_sx xs i 2), .inl (lw_sx xs i 3)]) (st := []) aL_1012 am_Nh_ways_w am_ml_Law_109 (Nat.le_of_ble_eq_true rfl) (Nat.le_of_ble_eq_true rfl) (lw_c0 hcs) (lw_s0 hss) rfl rfl (Nat.le_of_ble_eq_true rfl) am_c11 (lw_hY 0 _ rfl) T ?_
  rintro rv h1 ⟨v, rfl, km⟩
  refine an_aload_n (pc := 1015) aL_1015 rfl ?_
  refine an_arg (pc := 1016) (j := 1) C rfl rfl ⟨by decide, by decide⟩ hi aL_1016 aL_1017 aL_1019 aL_1020 aL_1021 ?_
  refine an_arg (pc := 1022) (j := 2) C rfl rfl ⟨by decide, by decide⟩ hi aL_1022 aL_1023 aL_1025 aL_1026 aL_1027 ?_
  refine an_arg (pc := 1028) (j := 3) C rfl rfl ⟨by decide, by decide⟩ hi aL_1028 aL_1029 aL_1031 aL_1032 aL_1033 ?_
  refine an_callV (pc := 1034) (As := [.inl (lw_sx xs i 1), .inl (lw_sx xs i 2), .inl (lw_sx xs i 3)]) (st := [.inl v]) aL_1034 am_Md_ways_w am_ml_Law_113 (Nat.le_of_ble_eq_true rfl) (Nat.le_of_ble_eq_true rfl) (lw_c0 hcs) (lw_s0 hss) rfl rfl (Nat.le_of_ble_eq_true rfl) am_c12 (lw_hM 0 _ rfl) km ?_
  rintro rw2 h2 ⟨w, rfl, e2, R2⟩
  exact an_icmp_eq (pc := 1037) (tgt := 1378) aL_1037 (by decide) (fun _ => nx h2 R2) fun z => absurd e2.symm z
theorem lw_k19 (C : lw_C s A G b L xs) (hi : 0 ≤ i ∧ i + 6 ≤ L) (hcs : cs ≤ 600000) (hss : ss ≤ 7000000) (R : RL h 0 148) (nx : ∀ h1, RL h1 0 148 → an_W p l e room_1 s m args below meth c G A cs ss E am_Lw_law lw_Y 1378 (lw_ls i) [] h1) : an_W p l e room_1 s m args below meth c G A cs ss E am_Lw_law lw_Y 1042 (lw_ls i) [] h := by
  have T : am_two am_Nh_run am_Md_run lw_Y 0 148 [.inl (lw_sx xs i 1), .inl (lw_sx xs i 2)] h := two_run lw_hY lw_hM (by decide) R
  refine an_aload_n (pc := 1042) aL_1042 rfl ?_
  refine an_arg (pc := 1043) (j := 1) C rfl rfl ⟨by decide, by decide⟩ hi aL_1043 aL_1044 aL_1046 aL_1047 aL_1048 ?_
  refine an_arg (pc := 1049) (j := 2) C rfl rfl ⟨by decide, by decide⟩ hi aL_1049 aL_1050 aL_1052 aL_1053 aL_1054 ?_
  refine an_callV (pc := 1055) (As := [.inl (lw_sx xs i 1), .inl (lw_sx xs i 2)]) (st := []) aL_1055 am_Nh_run_w am_ml_Law_114 (Nat.le_of_ble_eq_true rfl) (Nat.le_of_ble_eq_true rfl) (lw_c0 hcs) (lw_s0 hss) rfl rfl (Nat.le_of_ble_eq_true rfl) am_c11 (lw_hY 0 _ rfl) T ?_
  rintro rv h1 ⟨v, rfl, km⟩
  refine an_aload_n (pc := 1058) aL_1058 rfl ?_
  refine an_arg (pc := 1059) (j := 1) C rfl rfl ⟨by decide, by decide⟩ hi aL_1059 aL_1060 aL_1062 aL_1063 aL_1064 ?_
  refine an_arg (pc := 1065) (j := 2) C rfl rfl ⟨by decide, by decide⟩ hi aL_1065 aL_1066 aL_1068 aL_1069 aL_1070 ?_
  refine an_callV (pc := 1071) (As := [.inl (lw_sx xs i 1), .inl (lw_sx xs i 2)]) (st := [.inl v]) aL_1071 am_Md_run_w am_ml_Law_117 (Nat.le_of_ble_eq_true rfl) (Nat.le_of_ble_eq_true rfl) (lw_c0 hcs) (lw_s0 hss) rfl rfl (Nat.le_of_ble_eq_true rfl) am_c12 (lw_hM 0 _ rfl) km ?_
  rintro rw2 h2 ⟨w, rfl, e2, R2⟩
  exact an_icmp_eq (pc := 1074) (tgt := 1378) aL_1074 (by decide) (fun _ => nx h2 R2) fun z => absurd e2.symm z
theorem lw_k20 (C : lw_C s A G b L xs) (hi : 0 ≤ i ∧ i + 6 ≤ L) (hcs : cs ≤ 600000) (hss : ss ≤ 7000000) (R : RL h 0 148) (nx : ∀ h1, RL h1 0 148 → an_W p l e room_1 s m args below meth c G A cs ss E am_Lw_law lw_Y 1378 (lw_ls i) [] h1) : an_W p l e room_1 s m args below meth c G A cs ss E am_Lw_law lw_Y 1079 (lw_ls i) [] h := by
  have T : am_two am_Nh_runBy am_Md_runBy lw_Y 0 148 [.inl (lw_sx xs i 1)] h := two_runBy lw_hY lw_hM (by decide) R
  refine an_aload_n (pc := 1079) aL_1079 rfl ?_
  refine an_arg (pc := 1080) (j := 1) C rfl rfl ⟨by decide, by decide⟩ hi aL_1080 aL_1081 aL_1083 aL_1084 aL_1085 ?_
  refine an_callV (pc := 1086) (As := [.inl (lw_sx xs i 1)]) (st := []) aL_1086 am_Nh_runBy_w am_ml_Law_118 (Nat.le_of_ble_eq_true rfl) (Nat.le_of_ble_eq_true rfl) (lw_c0 hcs) (lw_s0 hss) rfl rfl (Nat.le_of_ble_eq_true rfl) am_c11 (lw_hY 0 _ rfl) T ?_
  rintro rv h1 ⟨v, rfl, km⟩
  refine an_aload_n (pc := 1089) aL_1089 rfl ?_
  refine an_arg (pc := 1090) (j := 1) C rfl rfl ⟨by decide, by decide⟩ hi aL_1090 aL_1091 aL_1093 aL_1094 aL_1095 ?_
  refine an_callV (pc := 1096) (As := [.inl (lw_sx xs i 1)]) (st := [.inl v]) aL_1096 am_Md_runBy_w am_ml_Law_121 (Nat.le_of_ble_eq_true rfl) (Nat.le_of_ble_eq_true rfl) (lw_c0 hcs) (lw_s0 hss) rfl rfl (Nat.le_of_ble_eq_true rfl) am_c12 (lw_hM 0 _ rfl) km ?_
  rintro rw2 h2 ⟨w, rfl, e2, R2⟩
  exact an_icmp_eq (pc := 1099) (tgt := 1378) aL_1099 (by decide) (fun _ => nx h2 R2) fun z => absurd e2.symm z
theorem lw_k21 (C : lw_C s A G b L xs) (hi : 0 ≤ i ∧ i + 6 ≤ L) (hcs : cs ≤ 600000) (hss : ss ≤ 7000000) (R : RL h 0 148) (nx : ∀ h1, RL h1 0 148 → an_W p l e room_1 s m args below meth c G A cs ss E am_Lw_law lw_Y 1378 (lw_ls i) [] h1) : an_W p l e room_1 s m args below meth c G A cs ss E am_Lw_law lw_Y 1104 (lw_ls i) [] h := by
  have T : am_two am_Nh_runOf am_Md_runOf lw_Y 0 148 [.inl (lw_sx xs i 1)] h := two_runOf lw_hY lw_hM (by decide) R
  refine an_aload_n (pc := 1104) aL_1104 rfl ?_
  refine an_arg (pc := 1105) (j := 1) C rfl rfl ⟨by decide, by decide⟩ hi aL_1105 aL_1106 aL_1108 aL_1109 aL_1110 ?_
  refine an_callV (pc := 1111) (As := [.inl (lw_sx xs i 1)]) (st := []) aL_1111 am_Nh_runOf_w am_ml_Law_122 (Nat.le_of_ble_eq_true rfl) (Nat.le_of_ble_eq_true rfl) (lw_c0 hcs) (lw_s0 hss) rfl rfl (Nat.le_of_ble_eq_true rfl) am_c11 (lw_hY 0 _ rfl) T ?_
  rintro rv h1 ⟨v, rfl, km⟩
  refine an_aload_n (pc := 1114) aL_1114 rfl ?_
  refine an_arg (pc := 1115) (j := 1) C rfl rfl ⟨by decide, by decide⟩ hi aL_1115 aL_1116 aL_1118 aL_1119 aL_1120 ?_
  refine an_callV (pc := 1121) (As := [.inl (lw_sx xs i 1)]) (st := [.inl v]) aL_1121 am_Md_runOf_w am_ml_Law_125 (Nat.le_of_ble_eq_true rfl) (Nat.le_of_ble_eq_true rfl) (lw_c0 hcs) (lw_s0 hss) rfl rfl (Nat.le_of_ble_eq_true rfl) am_c12 (lw_hM 0 _ rfl) km ?_
  rintro rw2 h2 ⟨w, rfl, e2, R2⟩
  exact an_icmp_eq (pc := 1124) (tgt := 1378) aL_1124 (by decide) (fun _ => nx h2 R2) fun z => absurd e2.symm z
theorem lw_k22 (C : lw_C s A G b L xs) (hi : 0 ≤ i ∧ i + 6 ≤ L) (hcs : cs ≤ 600000) (hss : ss ≤ 7000000) (R : RL h 0 148) (nx : ∀ h1, RL h1 0 148 → an_W p l e room_1 s m args below meth c G A cs ss E am_Lw_law lw_Y 1378 (lw_ls i) [] h1) : an_W p l e room_1 s m args below meth c G A cs ss E am_Lw_law lw_Y 1129 (lw_ls i) [] h := by
  have T : am_two am_Nh_left am_Md_left lw_Y 0 148 [.inl (lw_sx xs i 1)] h := two_left lw_hY lw_hM (by decide) R
  refine an_aload_n (pc := 1129) aL_1129 rfl ?_
  refine an_arg (pc := 1130) (j := 1) C rfl rfl ⟨by decide, by decide⟩ hi aL_1130 aL_1131 aL_1133 aL_1134 aL_1135 ?_
  refine an_callV (pc := 1136) (As := [.inl (lw_sx xs i 1)]) (st := []) aL_1136 am_Nh_left_w am_ml_Law_126 (Nat.le_of_ble_eq_true rfl) (Nat.le_of_ble_eq_true rfl) (lw_c0 hcs) (lw_s0 hss) rfl rfl (Nat.le_of_ble_eq_true rfl) am_c11 (lw_hY 0 _ rfl) T ?_
  rintro rv h1 ⟨v, rfl, km⟩
  refine an_aload_n (pc := 1139) aL_1139 rfl ?_
  refine an_arg (pc := 1140) (j := 1) C rfl rfl ⟨by decide, by decide⟩ hi aL_1140 aL_1141 aL_1143 aL_1144 aL_1145 ?_
  refine an_callV (pc := 1146) (As := [.inl (lw_sx xs i 1)]) (st := [.inl v]) aL_1146 am_Md_left_w am_ml_Law_129 (Nat.le_of_ble_eq_true rfl) (Nat.le_of_ble_eq_true rfl) (lw_c0 hcs) (lw_s0 hss) rfl rfl (Nat.le_of_ble_eq_true rfl) am_c12 (lw_hM 0 _ rfl) km ?_
  rintro rw2 h2 ⟨w, rfl, e2, R2⟩
  exact an_icmp_eq (pc := 1149) (tgt := 1378) aL_1149 (by decide) (fun _ => nx h2 R2) fun z => absurd e2.symm z
theorem lw_k23 (C : lw_C s A G b L xs) (hi : 0 ≤ i ∧ i + 6 ≤ L) (hcs : cs ≤ 600000) (hss : ss ≤ 7000000) (R : RL h 0 148) (nx : ∀ h1, RL h1 0 148 → an_W p l e room_1 s m args below meth c G A cs ss E am_Lw_law lw_Y 1378 (lw_ls i) [] h1) : an_W p l e room_1 s m args below meth c G A cs ss E am_Lw_law lw_Y 1154 (lw_ls i) [] h := by
  have T : am_two am_Nh_leftBy am_Md_leftBy lw_Y 0 148 [.inl (lw_sx xs i 1)] h := two_leftBy lw_hY lw_hM (by decide) R
  refine an_aload_n (pc := 1154) aL_1154 rfl ?_
  refine an_arg (pc := 1155) (j := 1) C rfl rfl ⟨by decide, by decide⟩ hi aL_1155 aL_1156 aL_1158 aL_1159 aL_1160 ?_
  refine an_callV (pc := 1161) (As := [.inl (lw_sx xs i 1)]) (st := []) aL_1161 am_Nh_leftBy_w am_ml_Law_130 (Nat.le_of_ble_eq_true rfl) (Nat.le_of_ble_eq_true rfl) (lw_c0 hcs) (lw_s0 hss) rfl rfl (Nat.le_of_ble_eq_true rfl) am_c11 (lw_hY 0 _ rfl) T ?_
  rintro rv h1 ⟨v, rfl, km⟩
  refine an_aload_n (pc := 1164) aL_1164 rfl ?_
  refine an_arg (pc := 1165) (j := 1) C rfl rfl ⟨by decide, by decide⟩ hi aL_1165 aL_1166 aL_1168 aL_1169 aL_1170 ?_
  refine an_callV (pc := 1171) (As := [.inl (lw_sx xs i 1)]) (st := [.inl v]) aL_1171 am_Md_leftBy_w am_ml_Law_133 (Nat.le_of_ble_eq_true rfl) (Nat.le_of_ble_eq_true rfl) (lw_c0 hcs) (lw_s0 hss) rfl rfl (Nat.le_of_ble_eq_true rfl) am_c12 (lw_hM 0 _ rfl) km ?_
  rintro rw2 h2 ⟨w, rfl, e2, R2⟩
  exact an_icmp_eq (pc := 1174) (tgt := 1378) aL_1174 (by decide) (fun _ => nx h2 R2) fun z => absurd e2.symm z
theorem lw_k24 (C : lw_C s A G b L xs) (hi : 0 ≤ i ∧ i + 6 ≤ L) (hcs : cs ≤ 600000) (hss : ss ≤ 7000000) (R : RL h 0 148) (nx : ∀ h1, RL h1 0 148 → an_W p l e room_1 s m args below meth c G A cs ss E am_Lw_law lw_Y 1378 (lw_ls i) [] h1) : an_W p l e room_1 s m args below meth c G A cs ss E am_Lw_law lw_Y 1179 (lw_ls i) [] h := by
  have T : am_two am_Nh_think am_Md_think lw_Y 0 148 [.inl (lw_sx xs i 1), .inl (lw_sx xs i 2), .inl (lw_sx xs i 3), .inl (lw_sx xs i 4)] h := two_think lw_hY lw_hM (by decide) R
  refine an_aload_n (pc := 1179) aL_1179 rfl ?_
  refine an_arg (pc := 1180) (j := 1) C rfl rfl ⟨by decide, by decide⟩ hi aL_1180 aL_1181 aL_1183 aL_1184 aL_1185 ?_
  refine an_arg (pc := 1186) (j := 2) C rfl rfl ⟨by decide, by decide⟩ hi aL_1186 aL_1187 aL_1189 aL_1190 aL_1191 ?_
  refine an_arg (pc := 1192) (j := 3) C rfl rfl ⟨by decide, by decide⟩ hi aL_1192 aL_1193 aL_1195 aL_1196 aL_1197 ?_
  refine an_arg (pc := 1198) (j := 4) C rfl rfl ⟨by decide, by decide⟩ hi aL_1198 aL_1199 aL_1201 aL_1202 aL_1203 ?_
  refine an_callV (pc := 1204) (As := [.inl (lw_sx xs i 1), .inl (lw_sx xs i 2), .inl (lw_sx xs i 3), .inl (lw_sx xs i 4)]) (st := []) aL_1204 am_Nh_think_w am_ml_Law_134 (Nat.le_of_ble_eq_true rfl) (Nat.le_of_ble_eq_true rfl) (lw_c0 hcs) (lw_s0 hss) rfl rfl (Nat.le_of_ble_eq_true rfl) am_c11 (lw_hY 0 _ rfl) T ?_
  rintro rv h1 ⟨v, rfl, km⟩
  refine an_aload_n (pc := 1207) aL_1207 rfl ?_
  refine an_arg (pc := 1208) (j := 1) C rfl rfl ⟨by decide, by decide⟩ hi aL_1208 aL_1209 aL_1211 aL_1212 aL_1213 ?_
  refine an_arg (pc := 1214) (j := 2) C rfl rfl ⟨by decide, by decide⟩ hi aL_1214 aL_1215 aL_1217 aL_1218 aL_1219 ?_
  refine an_arg (pc := 1220) (j := 3) C rfl rfl ⟨by decide, by decide⟩ hi aL_1220 aL_1221 aL_1223 aL_1224 aL_1225 ?_
  refine an_arg (pc := 1226) (j := 4) C rfl rfl ⟨by decide, by decide⟩ hi aL_1226 aL_1227 aL_1229 aL_1230 aL_1231 ?_
  refine an_callV (pc := 1232) (As := [.inl (lw_sx xs i 1), .inl (lw_sx xs i 2), .inl (lw_sx xs i 3), .inl (lw_sx xs i 4)]) (st := [.inl v]) aL_1232 am_Md_think_w am_ml_Law_138 (Nat.le_of_ble_eq_true rfl) (Nat.le_of_ble_eq_true rfl) (lw_c0 hcs) (lw_s0 hss) rfl rfl (Nat.le_of_ble_eq_true rfl) am_c12 (lw_hM 0 _ rfl) km ?_
  rintro rw2 h2 ⟨w, rfl, e2, R2⟩
  exact an_icmp_eq (pc := 1235) (tgt := 1378) aL_1235 (by decide) (fun _ => nx h2 R2) fun z => absurd e2.symm z
theorem lw_k25 (C : lw_C s A G b L xs) (hi : 0 ≤ i ∧ i + 6 ≤ L) (hcs : cs ≤ 600000) (hss : ss ≤ 7000000) (R : RL h 0 148) (nx : ∀ h1, RL h1 0 148 → an_W p l e room_1 s m args below meth c G A cs ss E am_Lw_law lw_Y 1378 (lw_ls i) [] h1) : an_W p l e room_1 s m args below meth c G A cs ss E am_Lw_law lw_Y 1240 (lw_ls i) [] h := by
  have T : am_two am_Nh_thinkOf am_Md_thinkOf lw_Y 0 148 [.inl (lw_sx xs i 1), .inl (lw_sx xs i 2)] h := two_thinkOf lw_hY lw_hM (by decide) R
  refine an_aload_n (pc := 1240) aL_1240 rfl ?_
  refine an_arg (pc := 1241) (j := 1) C rfl rfl ⟨by decide, by decide⟩ hi aL_1241 aL_1242 aL_1244 aL_1245 aL_1246 ?_
  refine an_arg (pc := 1247) (j := 2) C rfl rfl ⟨by decide, by decide⟩ hi aL_1247 aL_1248 aL_1250 aL_1251 aL_1252 ?_
  refine an_callV (pc := 1253) (As := [.inl (lw_sx xs i 1), .inl (lw_sx xs i 2)]) (st := []) aL_1253 am_Nh_thinkOf_w am_ml_Law_139 (Nat.le_of_ble_eq_true rfl) (Nat.le_of_ble_eq_true rfl) (lw_c0 hcs) (lw_s0 hss) rfl rfl (Nat.le_of_ble_eq_true rfl) am_c11 (lw_hY 0 _ rfl) T ?_
  rintro rv h1 ⟨v, rfl, km⟩
  refine an_aload_n (pc := 1256) aL_1256 rfl ?_
  refine an_arg (pc := 1257) (j := 1) C rfl rfl ⟨by decide, by decide⟩ hi aL_1257 aL_1258 aL_1260 aL_1261 aL_1262 ?_
  refine an_arg (pc := 1263) (j := 2) C rfl rfl ⟨by decide, by decide⟩ hi aL_1263 aL_1264 aL_1266 aL_1267 aL_1268 ?_
  refine an_callV (pc := 1269) (As := [.inl (lw_sx xs i 1), .inl (lw_sx xs i 2)]) (st := [.inl v]) aL_1269 am_Md_thinkOf_w am_ml_Law_142 (Nat.le_of_ble_eq_true rfl) (Nat.le_of_ble_eq_true rfl) (lw_c0 hcs) (lw_s0 hss) rfl rfl (Nat.le_of_ble_eq_true rfl) am_c12 (lw_hM 0 _ rfl) km ?_
  rintro rw2 h2 ⟨w, rfl, e2, R2⟩
  exact an_icmp_eq (pc := 1272) (tgt := 1378) aL_1272 (by decide) (fun _ => nx h2 R2) fun z => absurd e2.symm z
theorem lw_k26 (C : lw_C s A G b L xs) (hi : 0 ≤ i ∧ i + 6 ≤ L) (hcs : cs ≤ 600000) (hss : ss ≤ 7000000) (R : RL h 0 148) (nx : ∀ h1, RL h1 0 148 → an_W p l e room_1 s m args below meth c G A cs ss E am_Lw_law lw_Y 1378 (lw_ls i) [] h1) : an_W p l e room_1 s m args below meth c G A cs ss E am_Lw_law lw_Y 1277 (lw_ls i) [] h := by
  have T : am_two am_Nh_sentence am_Md_sentence lw_Y 0 148 [] h := two_sentence lw_hY lw_hM (by decide) R
  refine an_aload_n (pc := 1277) aL_1277 rfl ?_
  refine an_callV (pc := 1278) (As := []) (st := []) aL_1278 am_Nh_sentence_w am_ml_Law_143 (Nat.le_of_ble_eq_true rfl) (Nat.le_of_ble_eq_true rfl) (lw_c0 hcs) (lw_s0 hss) rfl rfl (Nat.le_of_ble_eq_true rfl) am_c11 (lw_hY 0 _ rfl) T ?_
  rintro rv h1 ⟨v, rfl, km⟩
  refine an_aload_n (pc := 1281) aL_1281 rfl ?_
  refine an_callV (pc := 1282) (As := []) (st := [.inl v]) aL_1282 am_Md_sentence_w am_ml_Law_146 (Nat.le_of_ble_eq_true rfl) (Nat.le_of_ble_eq_true rfl) (lw_c0 hcs) (lw_s0 hss) rfl rfl (Nat.le_of_ble_eq_true rfl) am_c12 (lw_hM 0 _ rfl) km ?_
  rintro rw2 h2 ⟨w, rfl, e2, R2⟩
  exact an_icmp_eq (pc := 1285) (tgt := 1378) aL_1285 (by decide) (fun _ => nx h2 R2) fun z => absurd e2.symm z
theorem lw_k27 (C : lw_C s A G b L xs) (hi : 0 ≤ i ∧ i + 6 ≤ L) (hcs : cs ≤ 600000) (hss : ss ≤ 7000000) (R : RL h 0 148) (nx : ∀ h1, RL h1 0 148 → an_W p l e room_1 s m args below meth c G A cs ss E am_Lw_law lw_Y 1378 (lw_ls i) [] h1) : an_W p l e room_1 s m args below meth c G A cs ss E am_Lw_law lw_Y 1290 (lw_ls i) [] h := by
  have T : am_two am_Nh_said am_Md_said lw_Y 0 148 [] h := two_said lw_hY lw_hM (by decide) R
  refine an_aload_n (pc := 1290) aL_1290 rfl ?_
  refine an_callV (pc := 1291) (As := []) (st := []) aL_1291 am_Nh_said_w am_ml_Law_147 (Nat.le_of_ble_eq_true rfl) (Nat.le_of_ble_eq_true rfl) (lw_c0 hcs) (lw_s0 hss) rfl rfl (Nat.le_of_ble_eq_true rfl) am_c11 (lw_hY 0 _ rfl) T ?_
  rintro rv h1 ⟨v, rfl, km⟩
  refine an_aload_n (pc := 1294) aL_1294 rfl ?_
  refine an_callV (pc := 1295) (As := []) (st := [.inl v]) aL_1295 am_Md_said_w am_ml_Law_150 (Nat.le_of_ble_eq_true rfl) (Nat.le_of_ble_eq_true rfl) (lw_c0 hcs) (lw_s0 hss) rfl rfl (Nat.le_of_ble_eq_true rfl) am_c12 (lw_hM 0 _ rfl) km ?_
  rintro rw2 h2 ⟨w, rfl, e2, R2⟩
  exact an_icmp_eq (pc := 1298) (tgt := 1378) aL_1298 (by decide) (fun _ => nx h2 R2) fun z => absurd e2.symm z
theorem lw_k28 (C : lw_C s A G b L xs) (hi : 0 ≤ i ∧ i + 6 ≤ L) (hcs : cs ≤ 600000) (hss : ss ≤ 7000000) (R : RL h 0 148) (nx : ∀ h1, RL h1 0 148 → an_W p l e room_1 s m args below meth c G A cs ss E am_Lw_law lw_Y 1378 (lw_ls i) [] h1) : an_W p l e room_1 s m args below meth c G A cs ss E am_Lw_law lw_Y 1303 (lw_ls i) [] h := by
  have T : am_two am_Nh_image am_Md_image lw_Y 0 148 [.inl (lw_sx xs i 1)] h := two_image lw_hY lw_hM (by decide) R
  refine an_aload_n (pc := 1303) aL_1303 rfl ?_
  refine an_arg (pc := 1304) (j := 1) C rfl rfl ⟨by decide, by decide⟩ hi aL_1304 aL_1305 aL_1307 aL_1308 aL_1309 ?_
  refine an_callV (pc := 1310) (As := [.inl (lw_sx xs i 1)]) (st := []) aL_1310 am_Nh_image_w am_ml_Law_151 (Nat.le_of_ble_eq_true rfl) (Nat.le_of_ble_eq_true rfl) (lw_c0 hcs) (lw_s0 hss) rfl rfl (Nat.le_of_ble_eq_true rfl) am_c11 (lw_hY 0 _ rfl) T ?_
  rintro rv h1 ⟨v, rfl, km⟩
  refine an_aload_n (pc := 1313) aL_1313 rfl ?_
  refine an_arg (pc := 1314) (j := 1) C rfl rfl ⟨by decide, by decide⟩ hi aL_1314 aL_1315 aL_1317 aL_1318 aL_1319 ?_
  refine an_callV (pc := 1320) (As := [.inl (lw_sx xs i 1)]) (st := [.inl v]) aL_1320 am_Md_image_w am_ml_Law_154 (Nat.le_of_ble_eq_true rfl) (Nat.le_of_ble_eq_true rfl) (lw_c0 hcs) (lw_s0 hss) rfl rfl (Nat.le_of_ble_eq_true rfl) am_c12 (lw_hM 0 _ rfl) km ?_
  rintro rw2 h2 ⟨w, rfl, e2, R2⟩
  exact an_icmp_eq (pc := 1323) (tgt := 1378) aL_1323 (by decide) (fun _ => nx h2 R2) fun z => absurd e2.symm z
theorem lw_k29 (C : lw_C s A G b L xs) (hi : 0 ≤ i ∧ i + 6 ≤ L) (hcs : cs ≤ 600000) (hss : ss ≤ 7000000) (R : RL h 0 148) (nx : ∀ h1, RL h1 0 148 → an_W p l e room_1 s m args below meth c G A cs ss E am_Lw_law lw_Y 1378 (lw_ls i) [] h1) : an_W p l e room_1 s m args below meth c G A cs ss E am_Lw_law lw_Y 1328 (lw_ls i) [] h := by
  have T : am_two am_Nh_restore am_Md_restore lw_Y 0 148 [.inl (lw_sx xs i 1)] h := two_restore lw_hY lw_hM (by decide) R
  refine an_aload_n (pc := 1328) aL_1328 rfl ?_
  refine an_arg (pc := 1329) (j := 1) C rfl rfl ⟨by decide, by decide⟩ hi aL_1329 aL_1330 aL_1332 aL_1333 aL_1334 ?_
  refine an_callV (pc := 1335) (As := [.inl (lw_sx xs i 1)]) (st := []) aL_1335 am_Nh_restore_w am_ml_Law_155 (Nat.le_of_ble_eq_true rfl) (Nat.le_of_ble_eq_true rfl) (lw_c0 hcs) (lw_s0 hss) rfl rfl (Nat.le_of_ble_eq_true rfl) am_c11 (lw_hY 0 _ rfl) T ?_
  rintro rv h1 ⟨v, rfl, km⟩
  refine an_aload_n (pc := 1338) aL_1338 rfl ?_
  refine an_arg (pc := 1339) (j := 1) C rfl rfl ⟨by decide, by decide⟩ hi aL_1339 aL_1340 aL_1342 aL_1343 aL_1344 ?_
  refine an_callV (pc := 1345) (As := [.inl (lw_sx xs i 1)]) (st := [.inl v]) aL_1345 am_Md_restore_w am_ml_Law_158 (Nat.le_of_ble_eq_true rfl) (Nat.le_of_ble_eq_true rfl) (lw_c0 hcs) (lw_s0 hss) rfl rfl (Nat.le_of_ble_eq_true rfl) am_c12 (lw_hM 0 _ rfl) km ?_
  rintro rw2 h2 ⟨w, rfl, e2, R2⟩
  exact an_icmp_eq (pc := 1348) (tgt := 1378) aL_1348 (by decide) (fun _ => nx h2 R2) fun z => absurd e2.symm z
theorem lw_k30 (C : lw_C s A G b L xs) (hi : 0 ≤ i ∧ i + 6 ≤ L) (hcs : cs ≤ 600000) (hss : ss ≤ 7000000) (R : RL h 0 148) (nx : ∀ h1, RL h1 0 148 → an_W p l e room_1 s m args below meth c G A cs ss E am_Lw_law lw_Y 1378 (lw_ls i) [] h1) : an_W p l e room_1 s m args below meth c G A cs ss E am_Lw_law lw_Y 1353 (lw_ls i) [] h := by
  have T : am_two am_Nh_count am_Md_count lw_Y 0 148 [.inl (lw_sx xs i 1)] h := two_count lw_hY lw_hM (by decide) R
  refine an_aload_n (pc := 1353) aL_1353 rfl ?_
  refine an_arg (pc := 1354) (j := 1) C rfl rfl ⟨by decide, by decide⟩ hi aL_1354 aL_1355 aL_1357 aL_1358 aL_1359 ?_
  refine an_callV (pc := 1360) (As := [.inl (lw_sx xs i 1)]) (st := []) aL_1360 am_Nh_count_w am_ml_Law_159 (Nat.le_of_ble_eq_true rfl) (Nat.le_of_ble_eq_true rfl) (lw_c0 hcs) (lw_s0 hss) rfl rfl (Nat.le_of_ble_eq_true rfl) am_c11 (lw_hY 0 _ rfl) T ?_
  rintro rv h1 ⟨v, rfl, km⟩
  refine an_aload_n (pc := 1363) aL_1363 rfl ?_
  refine an_arg (pc := 1364) (j := 1) C rfl rfl ⟨by decide, by decide⟩ hi aL_1364 aL_1365 aL_1367 aL_1368 aL_1369 ?_
  refine an_callV (pc := 1370) (As := [.inl (lw_sx xs i 1)]) (st := [.inl v]) aL_1370 am_Md_count_w am_ml_Law_162 (Nat.le_of_ble_eq_true rfl) (Nat.le_of_ble_eq_true rfl) (lw_c0 hcs) (lw_s0 hss) rfl rfl (Nat.le_of_ble_eq_true rfl) am_c12 (lw_hM 0 _ rfl) km ?_
  rintro rw2 h2 ⟨w, rfl, e2, R2⟩
  exact an_icmp_eq (pc := 1373) (tgt := 1378) aL_1373 (by decide) (fun _ => nx h2 R2) fun z => absurd e2.symm z
end

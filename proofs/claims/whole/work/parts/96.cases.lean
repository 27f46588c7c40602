section CASES
variable {l : Launch} {E : En} {b L : Nat} {xs : Nat → Int32} {G : Nat → List (Nat × Value) → List Value → NW → Prop} {ad am : Nat → Nat} {tr : Value} {T : List Sk} {X M : Mm} {oa : Nat} {g : Nat → Int64} {k n : Nat} {x4 : Int32}
theorem lcs_0 (h : NX l E RL code 7 (some .boolean) room_1 (XFl E b L xs) G) (hk1 : vp_in (x4 + 1) L) (hk2 : vp_in (x4 + 2) L) (hk3 : vp_in (x4 + 3) L) (hk4 : vp_in (x4 + 4) L) (hk5 : vp_in (x4 + 5) L) (hR : Rel X M) (hkn : k ≤ room_1.cells ∧ n ≤ room_1.slots) (nxt : ∀ X2 M2, Rel X2 M2 → G 1391 [(4, .int x4), (3, .ref oa), (2, .ref (am 0)), (1, .ref (ad 0)), (0, .ref b)] [] (LW E ad tr T X2 am M2 oa g, k, n)) : G 200 [(4, .int x4), (3, .ref oa), (2, .ref (am 0)), (1, .ref (ad 0)), (0, .ref b)] [] (LW E ad tr T X am M oa g, k, n) := by
  obtain ⟨r, X2, M2, ex, em, hR2⟩ := R_feed hR (xs (x4 + 1).toNatClampNeg) (xs (x4 + 2).toNatClampNeg) (xs (x4 + 3).toNatClampNeg) (xs (x4 + 4).toNatClampNeg) (xs (x4 + 5).toNatClampNeg)
  refine nx_aload_n h dL_law_200 3 rfl ?_
  refine nx_aload_n h dL_law_201 4 rfl ?_
  refine nx_iload h dL_law_202 0 rfl ?_
  refine nx_iconst h 1 dL_law_204 rfl ?_
  refine nx_iadd h dL_law_205 ?_
  refine nx_sld h hk1 dL_law_206 ?_
  refine nx_aload_n h dL_law_207 4 rfl ?_
  refine nx_iload h dL_law_208 0 rfl ?_
  refine nx_iconst h 2 dL_law_210 rfl ?_
  refine nx_iadd h dL_law_211 ?_
  refine nx_sld h hk2 dL_law_212 ?_
  refine nx_aload_n h dL_law_213 4 rfl ?_
  refine nx_iload h dL_law_214 0 rfl ?_
  refine nx_iconst h 3 dL_law_216 rfl ?_
  refine nx_iadd h dL_law_217 ?_
  refine nx_sld h hk3 dL_law_218 ?_
  refine nx_aload_n h dL_law_219 4 rfl ?_
  refine nx_iload h dL_law_220 0 rfl ?_
  refine nx_iconst h 4 dL_law_222 rfl ?_
  refine nx_iadd h dL_law_223 ?_
  refine nx_sld h hk4 dL_law_224 ?_
  refine nx_aload_n h dL_law_225 4 rfl ?_
  refine nx_iload h dL_law_226 0 rfl ?_
  refine nx_iconst h 5 dL_law_228 rfl ?_
  refine nx_iadd h dL_law_229 ?_
  refine nx_sld h hk5 dL_law_230 ?_
  refine nx_cX h (As := [.int (xs (x4 + 1).toNatClampNeg), .int (xs (x4 + 2).toNatClampNeg), .int (xs (x4 + 3).toNatClampNeg), .int (xs (x4 + 4).toNatClampNeg), .int (xs (x4 + 5).toNatClampNeg)]) (c_P_feed_0 l (EX E ad tr) T (xs (x4 + 1).toNatClampNeg) (xs (x4 + 2).toNatClampNeg) (xs (x4 + 3).toNatClampNeg) (xs (x4 + 4).toNatClampNeg) (xs (x4 + 5).toNatClampNeg) ex) rfl lwv_19 ⟨by decide, by decide⟩ hkn rfl (Nat.le_of_ble_eq_true rfl) dL_law_231 ?_
  refine nx_aload_n h dL_law_234 2 rfl ?_
  refine nx_aload_n h dL_law_235 4 rfl ?_
  refine nx_iload h dL_law_236 0 rfl ?_
  refine nx_iconst h 1 dL_law_238 rfl ?_
  refine nx_iadd h dL_law_239 ?_
  refine nx_sld h hk1 dL_law_240 ?_
  refine nx_aload_n h dL_law_241 4 rfl ?_
  refine nx_iload h dL_law_242 0 rfl ?_
  refine nx_iconst h 2 dL_law_244 rfl ?_
  refine nx_iadd h dL_law_245 ?_
  refine nx_sld h hk2 dL_law_246 ?_
  refine nx_aload_n h dL_law_247 4 rfl ?_
  refine nx_iload h dL_law_248 0 rfl ?_
  refine nx_iconst h 3 dL_law_250 rfl ?_
  refine nx_iadd h dL_law_251 ?_
  refine nx_sld h hk3 dL_law_252 ?_
  refine nx_aload_n h dL_law_253 4 rfl ?_
  refine nx_iload h dL_law_254 0 rfl ?_
  refine nx_iconst h 4 dL_law_256 rfl ?_
  refine nx_iadd h dL_law_257 ?_
  refine nx_sld h hk4 dL_law_258 ?_
  refine nx_aload_n h dL_law_259 4 rfl ?_
  refine nx_iload h dL_law_260 0 rfl ?_
  refine nx_iconst h 5 dL_law_262 rfl ?_
  refine nx_iadd h dL_law_263 ?_
  refine nx_sld h hk5 dL_law_264 ?_
  refine nx_cM h (As := [.int (xs (x4 + 1).toNatClampNeg), .int (xs (x4 + 2).toNatClampNeg), .int (xs (x4 + 3).toNatClampNeg), .int (xs (x4 + 4).toNatClampNeg), .int (xs (x4 + 5).toNatClampNeg)]) (c_M_feed_0 l (EX E am .null) [] (xs (x4 + 1).toNatClampNeg) (xs (x4 + 2).toNatClampNeg) (xs (x4 + 3).toNatClampNeg) (xs (x4 + 4).toNatClampNeg) (xs (x4 + 5).toNatClampNeg) em) rfl lwv_23 ⟨by decide, by decide⟩ hkn rfl (Nat.le_of_ble_eq_true rfl) dL_law_265 ?_
  exact nx_icmp_eq h 1391 dL_law_268 rfl (fun _ => nxt _ _ hR2) (fun hc => absurd rfl hc)
theorem lcs_1 (h : NX l E RL code 7 (some .boolean) room_1 (XFl E b L xs) G) (hk1 : vp_in (x4 + 1) L) (hk2 : vp_in (x4 + 2) L) (hk3 : vp_in (x4 + 3) L) (hk4 : vp_in (x4 + 4) L) (hk5 : vp_in (x4 + 5) L) (hR : Rel X M) (hkn : k ≤ room_1.cells ∧ n ≤ room_1.slots) (nxt : ∀ X2 M2, Rel X2 M2 → G 1391 [(4, .int x4), (3, .ref oa), (2, .ref (am 0)), (1, .ref (ad 0)), (0, .ref b)] [] (LW E ad tr T X2 am M2 oa g, k, n)) : G 273 [(4, .int x4), (3, .ref oa), (2, .ref (am 0)), (1, .ref (ad 0)), (0, .ref b)] [] (LW E ad tr T X am M oa g, k, n) := by
  obtain ⟨r, X2, M2, ex, em, hR2⟩ := R_text hR (xs (x4 + 1).toNatClampNeg)
  refine nx_aload_n h dL_law_273 3 rfl ?_
  refine nx_aload_n h dL_law_274 4 rfl ?_
  refine nx_iload h dL_law_275 0 rfl ?_
  refine nx_iconst h 1 dL_law_277 rfl ?_
  refine nx_iadd h dL_law_278 ?_
  refine nx_sld h hk1 dL_law_279 ?_
  refine nx_cX h (As := [.int (xs (x4 + 1).toNatClampNeg)]) (c_P_text_0 l (EX E ad tr) T (xs (x4 + 1).toNatClampNeg) ex) rfl lwv_24 ⟨by decide, by decide⟩ hkn rfl (Nat.le_of_ble_eq_true rfl) dL_law_280 ?_
  refine nx_aload_n h dL_law_283 2 rfl ?_
  refine nx_aload_n h dL_law_284 4 rfl ?_
  refine nx_iload h dL_law_285 0 rfl ?_
  refine nx_iconst h 1 dL_law_287 rfl ?_
  refine nx_iadd h dL_law_288 ?_
  refine nx_sld h hk1 dL_law_289 ?_
  refine nx_cM h (As := [.int (xs (x4 + 1).toNatClampNeg)]) (c_M_text_0 l (EX E am .null) [] (xs (x4 + 1).toNatClampNeg) em) rfl lwv_28 ⟨by decide, by decide⟩ hkn rfl (Nat.le_of_ble_eq_true rfl) dL_law_290 ?_
  exact nx_icmp_eq h 1391 dL_law_293 rfl (fun _ => nxt _ _ hR2) (fun hc => absurd rfl hc)
theorem lcs_2 (h : NX l E RL code 7 (some .boolean) room_1 (XFl E b L xs) G) (hk1 : vp_in (x4 + 1) L) (hk2 : vp_in (x4 + 2) L) (hk3 : vp_in (x4 + 3) L) (hk4 : vp_in (x4 + 4) L) (hk5 : vp_in (x4 + 5) L) (hR : Rel X M) (hkn : k ≤ room_1.cells ∧ n ≤ room_1.slots) (nxt : ∀ X2 M2, Rel X2 M2 → G 1391 [(4, .int x4), (3, .ref oa), (2, .ref (am 0)), (1, .ref (ad 0)), (0, .ref b)] [] (LW E ad tr T X2 am M2 oa g, k, n)) : G 298 [(4, .int x4), (3, .ref oa), (2, .ref (am 0)), (1, .ref (ad 0)), (0, .ref b)] [] (LW E ad tr T X am M oa g, k, n) := by
  obtain ⟨r, X2, M2, ex, em, hR2⟩ := R_fault hR
  obtain ⟨ex, rfl⟩ := mapE ex
  refine nx_aload_n h dL_law_298 3 rfl ?_
  refine nx_cX h (As := []) (c_P_fault_0 l (EX E ad tr) T ex) rfl lwv_29 ⟨by decide, by decide⟩ hkn rfl (Nat.le_of_ble_eq_true rfl) dL_law_299 ?_
  refine nx_aload_n h dL_law_302 2 rfl ?_
  refine nx_cM h (As := []) (c_M_fault_0 l (EX E am .null) [] em) rfl lwv_33 ⟨by decide, by decide⟩ hkn rfl (Nat.le_of_ble_eq_true rfl) dL_law_303 ?_
  exact nx_icmp_eq h 1391 dL_law_306 rfl (fun _ => nxt _ _ hR2) (fun hc => absurd rfl hc)
theorem lcs_3 (h : NX l E RL code 7 (some .boolean) room_1 (XFl E b L xs) G) (hk1 : vp_in (x4 + 1) L) (hk2 : vp_in (x4 + 2) L) (hk3 : vp_in (x4 + 3) L) (hk4 : vp_in (x4 + 4) L) (hk5 : vp_in (x4 + 5) L) (hR : Rel X M) (hkn : k ≤ room_1.cells ∧ n ≤ room_1.slots) (nxt : ∀ X2 M2, Rel X2 M2 → G 1391 [(4, .int x4), (3, .ref oa), (2, .ref (am 0)), (1, .ref (ad 0)), (0, .ref b)] [] (LW E ad tr T X2 am M2 oa g, k, n)) : G 311 [(4, .int x4), (3, .ref oa), (2, .ref (am 0)), (1, .ref (ad 0)), (0, .ref b)] [] (LW E ad tr T X am M oa g, k, n) := by
  obtain ⟨r, X2, M2, ex, em, hR2⟩ := R_where hR
  obtain ⟨ex, rfl⟩ := mapE ex
  refine nx_aload_n h dL_law_311 3 rfl ?_
  refine nx_cX h (As := []) (c_P_where_0 l (EX E ad tr) T ex) rfl lwv_34 ⟨by decide, by decide⟩ hkn rfl (Nat.le_of_ble_eq_true rfl) dL_law_312 ?_
  refine nx_aload_n h dL_law_315 2 rfl ?_
  refine nx_cM h (As := []) (c_M_where_0 l (EX E am .null) [] em) rfl lwv_37 ⟨by decide, by decide⟩ hkn rfl (Nat.le_of_ble_eq_true rfl) dL_law_316 ?_
  exact nx_icmp_eq h 1391 dL_law_319 rfl (fun _ => nxt _ _ hR2) (fun hc => absurd rfl hc)
theorem lcs_4 (h : NX l E RL code 7 (some .boolean) room_1 (XFl E b L xs) G) (hk1 : vp_in (x4 + 1) L) (hk2 : vp_in (x4 + 2) L) (hk3 : vp_in (x4 + 3) L) (hk4 : vp_in (x4 + 4) L) (hk5 : vp_in (x4 + 5) L) (hR : Rel X M) (hkn : k ≤ room_1.cells ∧ n ≤ room_1.slots) (nxt : ∀ X2 M2, Rel X2 M2 → G 1391 [(4, .int x4), (3, .ref oa), (2, .ref (am 0)), (1, .ref (ad 0)), (0, .ref b)] [] (LW E ad tr T X2 am M2 oa g, k, n)) : G 324 [(4, .int x4), (3, .ref oa), (2, .ref (am 0)), (1, .ref (ad 0)), (0, .ref b)] [] (LW E ad tr T X am M oa g, k, n) := by
  obtain ⟨r, X2, M2, ex, em, hR2⟩ := R_about hR (xs (x4 + 1).toNatClampNeg)
  refine nx_aload_n h dL_law_324 3 rfl ?_
  refine nx_aload_n h dL_law_325 4 rfl ?_
  refine nx_iload h dL_law_326 0 rfl ?_
  refine nx_iconst h 1 dL_law_328 rfl ?_
  refine nx_iadd h dL_law_329 ?_
  refine nx_sld h hk1 dL_law_330 ?_
  refine nx_cX h (As := [.int (xs (x4 + 1).toNatClampNeg)]) (c_P_about_0 l (EX E ad tr) T (xs (x4 + 1).toNatClampNeg) ex) rfl lwv_38 ⟨by decide, by decide⟩ hkn rfl (Nat.le_of_ble_eq_true rfl) dL_law_331 ?_
  refine nx_aload_n h dL_law_334 2 rfl ?_
  refine nx_aload_n h dL_law_335 4 rfl ?_
  refine nx_iload h dL_law_336 0 rfl ?_
  refine nx_iconst h 1 dL_law_338 rfl ?_
  refine nx_iadd h dL_law_339 ?_
  refine nx_sld h hk1 dL_law_340 ?_
  refine nx_cM h (As := [.int (xs (x4 + 1).toNatClampNeg)]) (c_M_about_0 l (EX E am .null) [] (xs (x4 + 1).toNatClampNeg) em) rfl lwv_41 ⟨by decide, by decide⟩ hkn rfl (Nat.le_of_ble_eq_true rfl) dL_law_341 ?_
  exact nx_icmp_eq h 1391 dL_law_344 rfl (fun _ => nxt _ _ hR2) (fun hc => absurd rfl hc)
theorem lcs_5 (h : NX l E RL code 7 (some .boolean) room_1 (XFl E b L xs) G) (hk1 : vp_in (x4 + 1) L) (hk2 : vp_in (x4 + 2) L) (hk3 : vp_in (x4 + 3) L) (hk4 : vp_in (x4 + 4) L) (hk5 : vp_in (x4 + 5) L) (hR : Rel X M) (hkn : k ≤ room_1.cells ∧ n ≤ room_1.slots) (nxt : ∀ X2 M2, Rel X2 M2 → G 1391 [(4, .int x4), (3, .ref oa), (2, .ref (am 0)), (1, .ref (ad 0)), (0, .ref b)] [] (LW E ad tr T X2 am M2 oa g, k, n)) : G 349 [(4, .int x4), (3, .ref oa), (2, .ref (am 0)), (1, .ref (ad 0)), (0, .ref b)] [] (LW E ad tr T X am M oa g, k, n) := by
  obtain ⟨r, X2, M2, ex, em, hR2⟩ := R_bench hR (xs (x4 + 1).toNatClampNeg) (xs (x4 + 2).toNatClampNeg)
  refine nx_aload_n h dL_law_349 3 rfl ?_
  refine nx_aload_n h dL_law_350 4 rfl ?_
  refine nx_iload h dL_law_351 0 rfl ?_
  refine nx_iconst h 1 dL_law_353 rfl ?_
  refine nx_iadd h dL_law_354 ?_
  refine nx_sld h hk1 dL_law_355 ?_
  refine nx_aload_n h dL_law_356 4 rfl ?_
  refine nx_iload h dL_law_357 0 rfl ?_
  refine nx_iconst h 2 dL_law_359 rfl ?_
  refine nx_iadd h dL_law_360 ?_
  refine nx_sld h hk2 dL_law_361 ?_
  refine nx_cX h (As := [.int (xs (x4 + 1).toNatClampNeg), .int (xs (x4 + 2).toNatClampNeg)]) (c_P_bench_0 l (EX E ad tr) T (xs (x4 + 1).toNatClampNeg) (xs (x4 + 2).toNatClampNeg) ex) rfl lwv_42 ⟨by decide, by decide⟩ hkn rfl (Nat.le_of_ble_eq_true rfl) dL_law_362 ?_
  refine nx_aload_n h dL_law_365 2 rfl ?_
  refine nx_aload_n h dL_law_366 4 rfl ?_
  refine nx_iload h dL_law_367 0 rfl ?_
  refine nx_iconst h 1 dL_law_369 rfl ?_
  refine nx_iadd h dL_law_370 ?_
  refine nx_sld h hk1 dL_law_371 ?_
  refine nx_aload_n h dL_law_372 4 rfl ?_
  refine nx_iload h dL_law_373 0 rfl ?_
  refine nx_iconst h 2 dL_law_375 rfl ?_
  refine nx_iadd h dL_law_376 ?_
  refine nx_sld h hk2 dL_law_377 ?_
  refine nx_cM h (As := [.int (xs (x4 + 1).toNatClampNeg), .int (xs (x4 + 2).toNatClampNeg)]) (c_M_bench_0 l (EX E am .null) [] (xs (x4 + 1).toNatClampNeg) (xs (x4 + 2).toNatClampNeg) em) rfl lwv_46 ⟨by decide, by decide⟩ hkn rfl (Nat.le_of_ble_eq_true rfl) dL_law_378 ?_
  exact nx_icmp_eq h 1391 dL_law_381 rfl (fun _ => nxt _ _ hR2) (fun hc => absurd rfl hc)
theorem lcs_6 (h : NX l E RL code 7 (some .boolean) room_1 (XFl E b L xs) G) (hk1 : vp_in (x4 + 1) L) (hk2 : vp_in (x4 + 2) L) (hk3 : vp_in (x4 + 3) L) (hk4 : vp_in (x4 + 4) L) (hk5 : vp_in (x4 + 5) L) (hR : Rel X M) (hkn : k ≤ room_1.cells ∧ n ≤ room_1.slots) (nxt : ∀ X2 M2, Rel X2 M2 → G 1391 [(4, .int x4), (3, .ref oa), (2, .ref (am 0)), (1, .ref (ad 0)), (0, .ref b)] [] (LW E ad tr T X2 am M2 oa g, k, n)) : G 386 [(4, .int x4), (3, .ref oa), (2, .ref (am 0)), (1, .ref (ad 0)), (0, .ref b)] [] (LW E ad tr T X am M oa g, k, n) := by
  obtain ⟨r, X2, M2, ex, em, hR2⟩ := R_timeOf hR (xs (x4 + 1).toNatClampNeg) (xs (x4 + 2).toNatClampNeg)
  refine nx_aload_n h dL_law_386 3 rfl ?_
  refine nx_aload_n h dL_law_387 4 rfl ?_
  refine nx_iload h dL_law_388 0 rfl ?_
  refine nx_iconst h 1 dL_law_390 rfl ?_
  refine nx_iadd h dL_law_391 ?_
  refine nx_sld h hk1 dL_law_392 ?_
  refine nx_aload_n h dL_law_393 4 rfl ?_
  refine nx_iload h dL_law_394 0 rfl ?_
  refine nx_iconst h 2 dL_law_396 rfl ?_
  refine nx_iadd h dL_law_397 ?_
  refine nx_sld h hk2 dL_law_398 ?_
  refine nx_cX h (As := [.int (xs (x4 + 1).toNatClampNeg), .int (xs (x4 + 2).toNatClampNeg)]) (c_P_timeOf_0 l (EX E ad tr) T (xs (x4 + 1).toNatClampNeg) (xs (x4 + 2).toNatClampNeg) ex) rfl lwv_47 ⟨by decide, by decide⟩ hkn rfl (Nat.le_of_ble_eq_true rfl) dL_law_399 ?_
  refine nx_aload_n h dL_law_402 2 rfl ?_
  refine nx_aload_n h dL_law_403 4 rfl ?_
  refine nx_iload h dL_law_404 0 rfl ?_
  refine nx_iconst h 1 dL_law_406 rfl ?_
  refine nx_iadd h dL_law_407 ?_
  refine nx_sld h hk1 dL_law_408 ?_
  refine nx_aload_n h dL_law_409 4 rfl ?_
  refine nx_iload h dL_law_410 0 rfl ?_
  refine nx_iconst h 2 dL_law_412 rfl ?_
  refine nx_iadd h dL_law_413 ?_
  refine nx_sld h hk2 dL_law_414 ?_
  refine nx_cM h (As := [.int (xs (x4 + 1).toNatClampNeg), .int (xs (x4 + 2).toNatClampNeg)]) (c_M_timeOf_0 l (EX E am .null) [] (xs (x4 + 1).toNatClampNeg) (xs (x4 + 2).toNatClampNeg) em) rfl lwv_50 ⟨by decide, by decide⟩ hkn rfl (Nat.le_of_ble_eq_true rfl) dL_law_415 ?_
  exact nx_icmp_eq h 1391 dL_law_418 rfl (fun _ => nxt _ _ hR2) (fun hc => absurd rfl hc)
theorem lcs_7 (h : NX l E RL code 7 (some .boolean) room_1 (XFl E b L xs) G) (hk1 : vp_in (x4 + 1) L) (hk2 : vp_in (x4 + 2) L) (hk3 : vp_in (x4 + 3) L) (hk4 : vp_in (x4 + 4) L) (hk5 : vp_in (x4 + 5) L) (hR : Rel X M) (hkn : k ≤ room_1.cells ∧ n ≤ room_1.slots) (nxt : ∀ X2 M2, Rel X2 M2 → G 1391 [(4, .int x4), (3, .ref oa), (2, .ref (am 0)), (1, .ref (ad 0)), (0, .ref b)] [] (LW E ad tr T X2 am M2 oa g, k, n)) : G 423 [(4, .int x4), (3, .ref oa), (2, .ref (am 0)), (1, .ref (ad 0)), (0, .ref b)] [] (LW E ad tr T X am M oa g, k, n) := by
  obtain ⟨r, X2, M2, ex, em, hR2⟩ := R_stream hR (xs (x4 + 1).toNatClampNeg) (xs (x4 + 2).toNatClampNeg)
  refine nx_aload_n h dL_law_423 3 rfl ?_
  refine nx_aload_n h dL_law_424 4 rfl ?_
  refine nx_iload h dL_law_425 0 rfl ?_
  refine nx_iconst h 1 dL_law_427 rfl ?_
  refine nx_iadd h dL_law_428 ?_
  refine nx_sld h hk1 dL_law_429 ?_
  refine nx_aload_n h dL_law_430 4 rfl ?_
  refine nx_iload h dL_law_431 0 rfl ?_
  refine nx_iconst h 2 dL_law_433 rfl ?_
  refine nx_iadd h dL_law_434 ?_
  refine nx_sld h hk2 dL_law_435 ?_
  refine nx_cX h (As := [.int (xs (x4 + 1).toNatClampNeg), .int (xs (x4 + 2).toNatClampNeg)]) (c_P_stream_0 l (EX E ad tr) T (xs (x4 + 1).toNatClampNeg) (xs (x4 + 2).toNatClampNeg) ex) rfl lwv_51 ⟨by decide, by decide⟩ hkn rfl (Nat.le_of_ble_eq_true rfl) dL_law_436 ?_
  refine nx_aload_n h dL_law_439 2 rfl ?_
  refine nx_aload_n h dL_law_440 4 rfl ?_
  refine nx_iload h dL_law_441 0 rfl ?_
  refine nx_iconst h 1 dL_law_443 rfl ?_
  refine nx_iadd h dL_law_444 ?_
  refine nx_sld h hk1 dL_law_445 ?_
  refine nx_aload_n h dL_law_446 4 rfl ?_
  refine nx_iload h dL_law_447 0 rfl ?_
  refine nx_iconst h 2 dL_law_449 rfl ?_
  refine nx_iadd h dL_law_450 ?_
  refine nx_sld h hk2 dL_law_451 ?_
  refine nx_cM h (As := [.int (xs (x4 + 1).toNatClampNeg), .int (xs (x4 + 2).toNatClampNeg)]) (c_M_stream_0 l (EX E am .null) [] (xs (x4 + 1).toNatClampNeg) (xs (x4 + 2).toNatClampNeg) em) rfl lwv_54 ⟨by decide, by decide⟩ hkn rfl (Nat.le_of_ble_eq_true rfl) dL_law_452 ?_
  exact nx_icmp_eq h 1391 dL_law_455 rfl (fun _ => nxt _ _ hR2) (fun hc => absurd rfl hc)
theorem lcs_8 (h : NX l E RL code 7 (some .boolean) room_1 (XFl E b L xs) G) (hk1 : vp_in (x4 + 1) L) (hk2 : vp_in (x4 + 2) L) (hk3 : vp_in (x4 + 3) L) (hk4 : vp_in (x4 + 4) L) (hk5 : vp_in (x4 + 5) L) (hR : Rel X M) (hkn : k ≤ room_1.cells ∧ n ≤ room_1.slots) (nxt : ∀ X2 M2, Rel X2 M2 → G 1391 [(4, .int x4), (3, .ref oa), (2, .ref (am 0)), (1, .ref (ad 0)), (0, .ref b)] [] (LW E ad tr T X2 am M2 oa g, k, n)) : G 460 [(4, .int x4), (3, .ref oa), (2, .ref (am 0)), (1, .ref (ad 0)), (0, .ref b)] [] (LW E ad tr T X am M oa g, k, n) := by
  obtain ⟨r, X2, M2, ex, em, hR2⟩ := R_cardsOf hR (xs (x4 + 1).toNatClampNeg) (xs (x4 + 2).toNatClampNeg) (xs (x4 + 3).toNatClampNeg)
  refine nx_aload_n h dL_law_460 3 rfl ?_
  refine nx_aload_n h dL_law_461 4 rfl ?_
  refine nx_iload h dL_law_462 0 rfl ?_
  refine nx_iconst h 1 dL_law_464 rfl ?_
  refine nx_iadd h dL_law_465 ?_
  refine nx_sld h hk1 dL_law_466 ?_
  refine nx_aload_n h dL_law_467 4 rfl ?_
  refine nx_iload h dL_law_468 0 rfl ?_
  refine nx_iconst h 2 dL_law_470 rfl ?_
  refine nx_iadd h dL_law_471 ?_
  refine nx_sld h hk2 dL_law_472 ?_
  refine nx_aload_n h dL_law_473 4 rfl ?_
  refine nx_iload h dL_law_474 0 rfl ?_
  refine nx_iconst h 3 dL_law_476 rfl ?_
  refine nx_iadd h dL_law_477 ?_
  refine nx_sld h hk3 dL_law_478 ?_
  refine nx_cX h (As := [.int (xs (x4 + 1).toNatClampNeg), .int (xs (x4 + 2).toNatClampNeg), .int (xs (x4 + 3).toNatClampNeg)]) (c_P_cardsOf_0 l (EX E ad tr) T (xs (x4 + 1).toNatClampNeg) (xs (x4 + 2).toNatClampNeg) (xs (x4 + 3).toNatClampNeg) ex) rfl lwv_55 ⟨by decide, by decide⟩ hkn rfl (Nat.le_of_ble_eq_true rfl) dL_law_479 ?_
  refine nx_aload_n h dL_law_482 2 rfl ?_
  refine nx_aload_n h dL_law_483 4 rfl ?_
  refine nx_iload h dL_law_484 0 rfl ?_
  refine nx_iconst h 1 dL_law_486 rfl ?_
  refine nx_iadd h dL_law_487 ?_
  refine nx_sld h hk1 dL_law_488 ?_
  refine nx_aload_n h dL_law_489 4 rfl ?_
  refine nx_iload h dL_law_490 0 rfl ?_
  refine nx_iconst h 2 dL_law_492 rfl ?_
  refine nx_iadd h dL_law_493 ?_
  refine nx_sld h hk2 dL_law_494 ?_
  refine nx_aload_n h dL_law_495 4 rfl ?_
  refine nx_iload h dL_law_496 0 rfl ?_
  refine nx_iconst h 3 dL_law_498 rfl ?_
  refine nx_iadd h dL_law_499 ?_
  refine nx_sld h hk3 dL_law_500 ?_
  refine nx_cM h (As := [.int (xs (x4 + 1).toNatClampNeg), .int (xs (x4 + 2).toNatClampNeg), .int (xs (x4 + 3).toNatClampNeg)]) (c_M_cardsOf_0 l (EX E am .null) [] (xs (x4 + 1).toNatClampNeg) (xs (x4 + 2).toNatClampNeg) (xs (x4 + 3).toNatClampNeg) em) rfl lwv_59 ⟨by decide, by decide⟩ hkn rfl (Nat.le_of_ble_eq_true rfl) dL_law_501 ?_
  exact nx_icmp_eq h 1391 dL_law_504 rfl (fun _ => nxt _ _ hR2) (fun hc => absurd rfl hc)
theorem lcs_9 (h : NX l E RL code 7 (some .boolean) room_1 (XFl E b L xs) G) (hk1 : vp_in (x4 + 1) L) (hk2 : vp_in (x4 + 2) L) (hk3 : vp_in (x4 + 3) L) (hk4 : vp_in (x4 + 4) L) (hk5 : vp_in (x4 + 5) L) (hR : Rel X M) (hkn : k ≤ room_1.cells ∧ n ≤ room_1.slots) (nxt : ∀ X2 M2, Rel X2 M2 → G 1391 [(4, .int x4), (3, .ref oa), (2, .ref (am 0)), (1, .ref (ad 0)), (0, .ref b)] [] (LW E ad tr T X2 am M2 oa g, k, n)) : G 509 [(4, .int x4), (3, .ref oa), (2, .ref (am 0)), (1, .ref (ad 0)), (0, .ref b)] [] (LW E ad tr T X am M oa g, k, n) := by
  obtain ⟨r, X2, M2, ex, em, hR2⟩ := R_begin hR (if xs (x4 + 1).toNatClampNeg = 0 then 0 else 1)
  refine nx_aload_n h dL_law_509 3 rfl ?_
  refine nx_aload_n h dL_law_510 4 rfl ?_
  refine nx_iload h dL_law_511 0 rfl ?_
  refine nx_iconst h 1 dL_law_513 rfl ?_
  refine nx_iadd h dL_law_514 ?_
  refine nx_sld h hk1 dL_law_515 ?_
  refine nx_bool h dL_law_516 dL_law_519 dL_law_520 dL_law_523 ?_
  refine nx_cX h (As := [.int (if xs (x4 + 1).toNatClampNeg = 0 then 0 else 1)]) (c_P_begin_0 l (EX E ad tr) T (if xs (x4 + 1).toNatClampNeg = 0 then 0 else 1) ex) rfl lwv_60 ⟨by decide, by decide⟩ hkn rfl (Nat.le_of_ble_eq_true rfl) dL_law_524 ?_
  refine nx_aload_n h dL_law_527 2 rfl ?_
  refine nx_aload_n h dL_law_528 4 rfl ?_
  refine nx_iload h dL_law_529 0 rfl ?_
  refine nx_iconst h 1 dL_law_531 rfl ?_
  refine nx_iadd h dL_law_532 ?_
  refine nx_sld h hk1 dL_law_533 ?_
  refine nx_bool h dL_law_534 dL_law_537 dL_law_538 dL_law_541 ?_
  refine nx_cM h (As := [.int (if xs (x4 + 1).toNatClampNeg = 0 then 0 else 1)]) (c_M_begin_0 l (EX E am .null) [] (if xs (x4 + 1).toNatClampNeg = 0 then 0 else 1) em) rfl lwv_64 ⟨by decide, by decide⟩ hkn rfl (Nat.le_of_ble_eq_true rfl) dL_law_542 ?_
  exact nx_icmp_eq h 1391 dL_law_545 rfl (fun _ => nxt _ _ hR2) (fun hc => absurd rfl hc)
theorem lcs_10 (h : NX l E RL code 7 (some .boolean) room_1 (XFl E b L xs) G) (hk1 : vp_in (x4 + 1) L) (hk2 : vp_in (x4 + 2) L) (hk3 : vp_in (x4 + 3) L) (hk4 : vp_in (x4 + 4) L) (hk5 : vp_in (x4 + 5) L) (hR : Rel X M) (hkn : k ≤ room_1.cells ∧ n ≤ room_1.slots) (nxt : ∀ X2 M2, Rel X2 M2 → G 1391 [(4, .int x4), (3, .ref oa), (2, .ref (am 0)), (1, .ref (ad 0)), (0, .ref b)] [] (LW E ad tr T X2 am M2 oa g, k, n)) : G 550 [(4, .int x4), (3, .ref oa), (2, .ref (am 0)), (1, .ref (ad 0)), (0, .ref b)] [] (LW E ad tr T X am M oa g, k, n) := by
  obtain ⟨r, X2, M2, ex, em, hR2⟩ := R_run hR (xs (x4 + 1).toNatClampNeg)
  refine nx_aload_n h dL_law_550 3 rfl ?_
  refine nx_aload_n h dL_law_551 4 rfl ?_
  refine nx_iload h dL_law_552 0 rfl ?_
  refine nx_iconst h 1 dL_law_554 rfl ?_
  refine nx_iadd h dL_law_555 ?_
  refine nx_sld h hk1 dL_law_556 ?_
  refine nx_cX h (As := [.int (xs (x4 + 1).toNatClampNeg)]) (c_P_run_0 l (EX E ad tr) T (xs (x4 + 1).toNatClampNeg) ex) rfl lwv_65 ⟨by decide, by decide⟩ hkn rfl (Nat.le_of_ble_eq_true rfl) dL_law_557 ?_
  refine nx_aload_n h dL_law_560 2 rfl ?_
  refine nx_aload_n h dL_law_561 4 rfl ?_
  refine nx_iload h dL_law_562 0 rfl ?_
  refine nx_iconst h 1 dL_law_564 rfl ?_
  refine nx_iadd h dL_law_565 ?_
  refine nx_sld h hk1 dL_law_566 ?_
  refine nx_cM h (As := [.int (xs (x4 + 1).toNatClampNeg)]) (c_M_run_0 l (EX E am .null) [] (xs (x4 + 1).toNatClampNeg) em) rfl lwv_68 ⟨by decide, by decide⟩ hkn rfl (Nat.le_of_ble_eq_true rfl) dL_law_567 ?_
  exact nx_icmp_eq h 1391 dL_law_570 rfl (fun _ => nxt _ _ hR2) (fun hc => absurd rfl hc)
theorem lcs_11 (h : NX l E RL code 7 (some .boolean) room_1 (XFl E b L xs) G) (hk1 : vp_in (x4 + 1) L) (hk2 : vp_in (x4 + 2) L) (hk3 : vp_in (x4 + 3) L) (hk4 : vp_in (x4 + 4) L) (hk5 : vp_in (x4 + 5) L) (hR : Rel X M) (hkn : k ≤ room_1.cells ∧ n ≤ room_1.slots) (nxt : ∀ X2 M2, Rel X2 M2 → G 1391 [(4, .int x4), (3, .ref oa), (2, .ref (am 0)), (1, .ref (ad 0)), (0, .ref b)] [] (LW E ad tr T X2 am M2 oa g, k, n)) : G 575 [(4, .int x4), (3, .ref oa), (2, .ref (am 0)), (1, .ref (ad 0)), (0, .ref b)] [] (LW E ad tr T X am M oa g, k, n) := by
  obtain ⟨r, X2, M2, ex, em, hR2⟩ := R_does hR (xs (x4 + 1).toNatClampNeg) (xs (x4 + 2).toNatClampNeg)
  refine nx_aload_n h dL_law_575 3 rfl ?_
  refine nx_aload_n h dL_law_576 4 rfl ?_
  refine nx_iload h dL_law_577 0 rfl ?_
  refine nx_iconst h 1 dL_law_579 rfl ?_
  refine nx_iadd h dL_law_580 ?_
  refine nx_sld h hk1 dL_law_581 ?_
  refine nx_aload_n h dL_law_582 4 rfl ?_
  refine nx_iload h dL_law_583 0 rfl ?_
  refine nx_iconst h 2 dL_law_585 rfl ?_
  refine nx_iadd h dL_law_586 ?_
  refine nx_sld h hk2 dL_law_587 ?_
  refine nx_cX h (As := [.int (xs (x4 + 1).toNatClampNeg), .int (xs (x4 + 2).toNatClampNeg)]) (c_P_does_0 l (EX E ad tr) T (xs (x4 + 1).toNatClampNeg) (xs (x4 + 2).toNatClampNeg) ex) rfl lwv_69 ⟨by decide, by decide⟩ hkn rfl (Nat.le_of_ble_eq_true rfl) dL_law_588 ?_
  refine nx_aload_n h dL_law_591 2 rfl ?_
  refine nx_aload_n h dL_law_592 4 rfl ?_
  refine nx_iload h dL_law_593 0 rfl ?_
  refine nx_iconst h 1 dL_law_595 rfl ?_
  refine nx_iadd h dL_law_596 ?_
  refine nx_sld h hk1 dL_law_597 ?_
  refine nx_aload_n h dL_law_598 4 rfl ?_
  refine nx_iload h dL_law_599 0 rfl ?_
  refine nx_iconst h 2 dL_law_601 rfl ?_
  refine nx_iadd h dL_law_602 ?_
  refine nx_sld h hk2 dL_law_603 ?_
  refine nx_cM h (As := [.int (xs (x4 + 1).toNatClampNeg), .int (xs (x4 + 2).toNatClampNeg)]) (c_M_does_0 l (EX E am .null) [] (xs (x4 + 1).toNatClampNeg) (xs (x4 + 2).toNatClampNeg) em) rfl lwv_72 ⟨by decide, by decide⟩ hkn rfl (Nat.le_of_ble_eq_true rfl) dL_law_604 ?_
  exact nx_icmp_eq h 1391 dL_law_607 rfl (fun _ => nxt _ _ hR2) (fun hc => absurd rfl hc)
theorem lcs_12 (h : NX l E RL code 7 (some .boolean) room_1 (XFl E b L xs) G) (hk1 : vp_in (x4 + 1) L) (hk2 : vp_in (x4 + 2) L) (hk3 : vp_in (x4 + 3) L) (hk4 : vp_in (x4 + 4) L) (hk5 : vp_in (x4 + 5) L) (hR : Rel X M) (hkn : k ≤ room_1.cells ∧ n ≤ room_1.slots) (nxt : ∀ X2 M2, Rel X2 M2 → G 1391 [(4, .int x4), (3, .ref oa), (2, .ref (am 0)), (1, .ref (ad 0)), (0, .ref b)] [] (LW E ad tr T X2 am M2 oa g, k, n)) : G 612 [(4, .int x4), (3, .ref oa), (2, .ref (am 0)), (1, .ref (ad 0)), (0, .ref b)] [] (LW E ad tr T X am M oa g, k, n) := by
  obtain ⟨r, X2, M2, ex, em, hR2⟩ := R_counts hR (xs (x4 + 1).toNatClampNeg) (xs (x4 + 2).toNatClampNeg)
  refine nx_aload_n h dL_law_612 3 rfl ?_
  refine nx_aload_n h dL_law_613 4 rfl ?_
  refine nx_iload h dL_law_614 0 rfl ?_
  refine nx_iconst h 1 dL_law_616 rfl ?_
  refine nx_iadd h dL_law_617 ?_
  refine nx_sld h hk1 dL_law_618 ?_
  refine nx_aload_n h dL_law_619 4 rfl ?_
  refine nx_iload h dL_law_620 0 rfl ?_
  refine nx_iconst h 2 dL_law_622 rfl ?_
  refine nx_iadd h dL_law_623 ?_
  refine nx_sld h hk2 dL_law_624 ?_
  refine nx_cX h (As := [.int (xs (x4 + 1).toNatClampNeg), .int (xs (x4 + 2).toNatClampNeg)]) (c_P_counts_0 l (EX E ad tr) T (xs (x4 + 1).toNatClampNeg) (xs (x4 + 2).toNatClampNeg) ex) rfl lwv_73 ⟨by decide, by decide⟩ hkn rfl (Nat.le_of_ble_eq_true rfl) dL_law_625 ?_
  refine nx_aload_n h dL_law_628 2 rfl ?_
  refine nx_aload_n h dL_law_629 4 rfl ?_
  refine nx_iload h dL_law_630 0 rfl ?_
  refine nx_iconst h 1 dL_law_632 rfl ?_
  refine nx_iadd h dL_law_633 ?_
  refine nx_sld h hk1 dL_law_634 ?_
  refine nx_aload_n h dL_law_635 4 rfl ?_
  refine nx_iload h dL_law_636 0 rfl ?_
  refine nx_iconst h 2 dL_law_638 rfl ?_
  refine nx_iadd h dL_law_639 ?_
  refine nx_sld h hk2 dL_law_640 ?_
  refine nx_cM h (As := [.int (xs (x4 + 1).toNatClampNeg), .int (xs (x4 + 2).toNatClampNeg)]) (c_M_counts_0 l (EX E am .null) [] (xs (x4 + 1).toNatClampNeg) (xs (x4 + 2).toNatClampNeg) em) rfl lwv_76 ⟨by decide, by decide⟩ hkn rfl (Nat.le_of_ble_eq_true rfl) dL_law_641 ?_
  exact nx_icmp_eq h 1391 dL_law_644 rfl (fun _ => nxt _ _ hR2) (fun hc => absurd rfl hc)
theorem lcs_13 (h : NX l E RL code 7 (some .boolean) room_1 (XFl E b L xs) G) (hk1 : vp_in (x4 + 1) L) (hk2 : vp_in (x4 + 2) L) (hk3 : vp_in (x4 + 3) L) (hk4 : vp_in (x4 + 4) L) (hk5 : vp_in (x4 + 5) L) (hR : Rel X M) (hkn : k ≤ room_1.cells ∧ n ≤ room_1.slots) (nxt : ∀ X2 M2, Rel X2 M2 → G 1391 [(4, .int x4), (3, .ref oa), (2, .ref (am 0)), (1, .ref (ad 0)), (0, .ref b)] [] (LW E ad tr T X2 am M2 oa g, k, n)) : G 649 [(4, .int x4), (3, .ref oa), (2, .ref (am 0)), (1, .ref (ad 0)), (0, .ref b)] [] (LW E ad tr T X am M oa g, k, n) := by
  obtain ⟨r, X2, M2, ex, em, hR2⟩ := R_orders hR (xs (x4 + 1).toNatClampNeg) (xs (x4 + 2).toNatClampNeg)
  refine nx_aload_n h dL_law_649 3 rfl ?_
  refine nx_aload_n h dL_law_650 4 rfl ?_
  refine nx_iload h dL_law_651 0 rfl ?_
  refine nx_iconst h 1 dL_law_653 rfl ?_
  refine nx_iadd h dL_law_654 ?_
  refine nx_sld h hk1 dL_law_655 ?_
  refine nx_aload_n h dL_law_656 4 rfl ?_
  refine nx_iload h dL_law_657 0 rfl ?_
  refine nx_iconst h 2 dL_law_659 rfl ?_
  refine nx_iadd h dL_law_660 ?_
  refine nx_sld h hk2 dL_law_661 ?_
  refine nx_cX h (As := [.int (xs (x4 + 1).toNatClampNeg), .int (xs (x4 + 2).toNatClampNeg)]) (c_P_orders_0 l (EX E ad tr) T (xs (x4 + 1).toNatClampNeg) (xs (x4 + 2).toNatClampNeg) ex) rfl lwv_77 ⟨by decide, by decide⟩ hkn rfl (Nat.le_of_ble_eq_true rfl) dL_law_662 ?_
  refine nx_aload_n h dL_law_665 2 rfl ?_
  refine nx_aload_n h dL_law_666 4 rfl ?_
  refine nx_iload h dL_law_667 0 rfl ?_
  refine nx_iconst h 1 dL_law_669 rfl ?_
  refine nx_iadd h dL_law_670 ?_
  refine nx_sld h hk1 dL_law_671 ?_
  refine nx_aload_n h dL_law_672 4 rfl ?_
  refine nx_iload h dL_law_673 0 rfl ?_
  refine nx_iconst h 2 dL_law_675 rfl ?_
  refine nx_iadd h dL_law_676 ?_
  refine nx_sld h hk2 dL_law_677 ?_
  refine nx_cM h (As := [.int (xs (x4 + 1).toNatClampNeg), .int (xs (x4 + 2).toNatClampNeg)]) (c_M_orders_0 l (EX E am .null) [] (xs (x4 + 1).toNatClampNeg) (xs (x4 + 2).toNatClampNeg) em) rfl lwv_80 ⟨by decide, by decide⟩ hkn rfl (Nat.le_of_ble_eq_true rfl) dL_law_678 ?_
  exact nx_icmp_eq h 1391 dL_law_681 rfl (fun _ => nxt _ _ hR2) (fun hc => absurd rfl hc)
theorem lcs_14 (h : NX l E RL code 7 (some .boolean) room_1 (XFl E b L xs) G) (hk1 : vp_in (x4 + 1) L) (hk2 : vp_in (x4 + 2) L) (hk3 : vp_in (x4 + 3) L) (hk4 : vp_in (x4 + 4) L) (hk5 : vp_in (x4 + 5) L) (hR : Rel X M) (hkn : k ≤ room_1.cells ∧ n ≤ room_1.slots) (nxt : ∀ X2 M2, Rel X2 M2 → G 1391 [(4, .int x4), (3, .ref oa), (2, .ref (am 0)), (1, .ref (ad 0)), (0, .ref b)] [] (LW E ad tr T X2 am M2 oa g, k, n)) : G 686 [(4, .int x4), (3, .ref oa), (2, .ref (am 0)), (1, .ref (ad 0)), (0, .ref b)] [] (LW E ad tr T X am M oa g, k, n) := by
  obtain ⟨r, X2, M2, ex, em, hR2⟩ := R_starved hR (xs (x4 + 1).toNatClampNeg)
  refine nx_aload_n h dL_law_686 3 rfl ?_
  refine nx_aload_n h dL_law_687 4 rfl ?_
  refine nx_iload h dL_law_688 0 rfl ?_
  refine nx_iconst h 1 dL_law_690 rfl ?_
  refine nx_iadd h dL_law_691 ?_
  refine nx_sld h hk1 dL_law_692 ?_
  refine nx_cX h (As := [.int (xs (x4 + 1).toNatClampNeg)]) (c_P_starved_0 l (EX E ad tr) T (xs (x4 + 1).toNatClampNeg) ex) rfl lwv_81 ⟨by decide, by decide⟩ hkn rfl (Nat.le_of_ble_eq_true rfl) dL_law_693 ?_
  refine nx_aload_n h dL_law_696 2 rfl ?_
  refine nx_aload_n h dL_law_697 4 rfl ?_
  refine nx_iload h dL_law_698 0 rfl ?_
  refine nx_iconst h 1 dL_law_700 rfl ?_
  refine nx_iadd h dL_law_701 ?_
  refine nx_sld h hk1 dL_law_702 ?_
  refine nx_cM h (As := [.int (xs (x4 + 1).toNatClampNeg)]) (c_M_starved_0 l (EX E am .null) [] (xs (x4 + 1).toNatClampNeg) em) rfl lwv_84 ⟨by decide, by decide⟩ hkn rfl (Nat.le_of_ble_eq_true rfl) dL_law_703 ?_
  exact nx_icmp_eq h 1391 dL_law_706 rfl (fun _ => nxt _ _ hR2) (fun hc => absurd rfl hc)
theorem lcs_15 (h : NX l E RL code 7 (some .boolean) room_1 (XFl E b L xs) G) (hk1 : vp_in (x4 + 1) L) (hk2 : vp_in (x4 + 2) L) (hk3 : vp_in (x4 + 3) L) (hk4 : vp_in (x4 + 4) L) (hk5 : vp_in (x4 + 5) L) (hR : Rel X M) (hkn : k ≤ room_1.cells ∧ n ≤ room_1.slots) (nxt : ∀ X2 M2, Rel X2 M2 → G 1391 [(4, .int x4), (3, .ref oa), (2, .ref (am 0)), (1, .ref (ad 0)), (0, .ref b)] [] (LW E ad tr T X2 am M2 oa g, k, n)) : G 711 [(4, .int x4), (3, .ref oa), (2, .ref (am 0)), (1, .ref (ad 0)), (0, .ref b)] [] (LW E ad tr T X am M oa g, k, n) := by
  obtain ⟨r, X2, M2, ex, em, hR2⟩ := R_peak hR (xs (x4 + 1).toNatClampNeg)
  refine nx_aload_n h dL_law_711 3 rfl ?_
  refine nx_aload_n h dL_law_712 4 rfl ?_
  refine nx_iload h dL_law_713 0 rfl ?_
  refine nx_iconst h 1 dL_law_715 rfl ?_
  refine nx_iadd h dL_law_716 ?_
  refine nx_sld h hk1 dL_law_717 ?_
  refine nx_cX h (As := [.int (xs (x4 + 1).toNatClampNeg)]) (c_P_peak_0 l (EX E ad tr) T (xs (x4 + 1).toNatClampNeg) ex) rfl lwv_85 ⟨by decide, by decide⟩ hkn rfl (Nat.le_of_ble_eq_true rfl) dL_law_718 ?_
  refine nx_aload_n h dL_law_721 2 rfl ?_
  refine nx_aload_n h dL_law_722 4 rfl ?_
  refine nx_iload h dL_law_723 0 rfl ?_
  refine nx_iconst h 1 dL_law_725 rfl ?_
  refine nx_iadd h dL_law_726 ?_
  refine nx_sld h hk1 dL_law_727 ?_
  refine nx_cM h (As := [.int (xs (x4 + 1).toNatClampNeg)]) (c_M_peak_0 l (EX E am .null) [] (xs (x4 + 1).toNatClampNeg) em) rfl lwv_88 ⟨by decide, by decide⟩ hkn rfl (Nat.le_of_ble_eq_true rfl) dL_law_728 ?_
  exact nx_icmp_eq h 1391 dL_law_731 rfl (fun _ => nxt _ _ hR2) (fun hc => absurd rfl hc)
theorem lcs_16 (h : NX l E RL code 7 (some .boolean) room_1 (XFl E b L xs) G) (hk1 : vp_in (x4 + 1) L) (hk2 : vp_in (x4 + 2) L) (hk3 : vp_in (x4 + 3) L) (hk4 : vp_in (x4 + 4) L) (hk5 : vp_in (x4 + 5) L) (hR : Rel X M) (hkn : k ≤ room_1.cells ∧ n ≤ room_1.slots) (nxt : ∀ X2 M2, Rel X2 M2 → G 1391 [(4, .int x4), (3, .ref oa), (2, .ref (am 0)), (1, .ref (ad 0)), (0, .ref b)] [] (LW E ad tr T X2 am M2 oa g, k, n)) : G 736 [(4, .int x4), (3, .ref oa), (2, .ref (am 0)), (1, .ref (ad 0)), (0, .ref b)] [] (LW E ad tr T X am M oa g, k, n) := by
  obtain ⟨r, X2, M2, ex, em, hR2⟩ := R_firstOf hR (xs (x4 + 1).toNatClampNeg)
  refine nx_aload_n h dL_law_736 3 rfl ?_
  refine nx_aload_n h dL_law_737 4 rfl ?_
  refine nx_iload h dL_law_738 0 rfl ?_
  refine nx_iconst h 1 dL_law_740 rfl ?_
  refine nx_iadd h dL_law_741 ?_
  refine nx_sld h hk1 dL_law_742 ?_
  refine nx_cX h (As := [.int (xs (x4 + 1).toNatClampNeg)]) (c_P_firstOf_0 l (EX E ad tr) T (xs (x4 + 1).toNatClampNeg) ex) rfl lwv_89 ⟨by decide, by decide⟩ hkn rfl (Nat.le_of_ble_eq_true rfl) dL_law_743 ?_
  refine nx_aload_n h dL_law_746 2 rfl ?_
  refine nx_aload_n h dL_law_747 4 rfl ?_
  refine nx_iload h dL_law_748 0 rfl ?_
  refine nx_iconst h 1 dL_law_750 rfl ?_
  refine nx_iadd h dL_law_751 ?_
  refine nx_sld h hk1 dL_law_752 ?_
  refine nx_cM h (As := [.int (xs (x4 + 1).toNatClampNeg)]) (c_M_firstOf_0 l (EX E am .null) [] (xs (x4 + 1).toNatClampNeg) em) rfl lwv_92 ⟨by decide, by decide⟩ hkn rfl (Nat.le_of_ble_eq_true rfl) dL_law_753 ?_
  exact nx_icmp_eq h 1391 dL_law_756 rfl (fun _ => nxt _ _ hR2) (fun hc => absurd rfl hc)
theorem lcs_17 (h : NX l E RL code 7 (some .boolean) room_1 (XFl E b L xs) G) (hk1 : vp_in (x4 + 1) L) (hk2 : vp_in (x4 + 2) L) (hk3 : vp_in (x4 + 3) L) (hk4 : vp_in (x4 + 4) L) (hk5 : vp_in (x4 + 5) L) (hR : Rel X M) (hkn : k ≤ room_1.cells ∧ n ≤ room_1.slots) (nxt : ∀ X2 M2, Rel X2 M2 → G 1391 [(4, .int x4), (3, .ref oa), (2, .ref (am 0)), (1, .ref (ad 0)), (0, .ref b)] [] (LW E ad tr T X2 am M2 oa g, k, n)) : G 761 [(4, .int x4), (3, .ref oa), (2, .ref (am 0)), (1, .ref (ad 0)), (0, .ref b)] [] (LW E ad tr T X am M oa g, k, n) := by
  obtain ⟨r, X2, M2, ex, em, hR2⟩ := R_rate hR (xs (x4 + 1).toNatClampNeg)
  refine nx_aload_n h dL_law_761 3 rfl ?_
  refine nx_aload_n h dL_law_762 4 rfl ?_
  refine nx_iload h dL_law_763 0 rfl ?_
  refine nx_iconst h 1 dL_law_765 rfl ?_
  refine nx_iadd h dL_law_766 ?_
  refine nx_sld h hk1 dL_law_767 ?_
  refine nx_cX h (As := [.int (xs (x4 + 1).toNatClampNeg)]) (c_P_rate_0 l (EX E ad tr) T (xs (x4 + 1).toNatClampNeg) ex) rfl lwv_93 ⟨by decide, by decide⟩ hkn rfl (Nat.le_of_ble_eq_true rfl) dL_law_768 ?_
  refine nx_aload_n h dL_law_771 2 rfl ?_
  refine nx_aload_n h dL_law_772 4 rfl ?_
  refine nx_iload h dL_law_773 0 rfl ?_
  refine nx_iconst h 1 dL_law_775 rfl ?_
  refine nx_iadd h dL_law_776 ?_
  refine nx_sld h hk1 dL_law_777 ?_
  refine nx_cM h (As := [.int (xs (x4 + 1).toNatClampNeg)]) (c_M_rate_0 l (EX E am .null) [] (xs (x4 + 1).toNatClampNeg) em) rfl lwv_96 ⟨by decide, by decide⟩ hkn rfl (Nat.le_of_ble_eq_true rfl) dL_law_778 ?_
  exact nx_icmp_eq h 1391 dL_law_781 rfl (fun _ => nxt _ _ hR2) (fun hc => absurd rfl hc)
theorem lcs_18 (h : NX l E RL code 7 (some .boolean) room_1 (XFl E b L xs) G) (hk1 : vp_in (x4 + 1) L) (hk2 : vp_in (x4 + 2) L) (hk3 : vp_in (x4 + 3) L) (hk4 : vp_in (x4 + 4) L) (hk5 : vp_in (x4 + 5) L) (hR : Rel X M) (hkn : k ≤ room_1.cells ∧ n ≤ room_1.slots) (nxt : ∀ X2 M2, Rel X2 M2 → G 1391 [(4, .int x4), (3, .ref oa), (2, .ref (am 0)), (1, .ref (ad 0)), (0, .ref b)] [] (LW E ad tr T X2 am M2 oa g, k, n)) : G 786 [(4, .int x4), (3, .ref oa), (2, .ref (am 0)), (1, .ref (ad 0)), (0, .ref b)] [] (LW E ad tr T X am M oa g, k, n) := by
  obtain ⟨r, X2, M2, ex, em, hR2⟩ := R_busiest hR
  refine nx_aload_n h dL_law_786 3 rfl ?_
  refine nx_cX h (As := []) (c_P_busiest_0 l (EX E ad tr) T ex) rfl lwv_97 ⟨by decide, by decide⟩ hkn rfl (Nat.le_of_ble_eq_true rfl) dL_law_787 ?_
  refine nx_aload_n h dL_law_790 2 rfl ?_
  refine nx_cM h (As := []) (c_M_busiest_0 l (EX E am .null) [] em) rfl lwv_100 ⟨by decide, by decide⟩ hkn rfl (Nat.le_of_ble_eq_true rfl) dL_law_791 ?_
  exact nx_icmp_eq h 1391 dL_law_794 rfl (fun _ => nxt _ _ hR2) (fun hc => absurd rfl hc)
theorem lcs_19 (h : NX l E RL code 7 (some .boolean) room_1 (XFl E b L xs) G) (hk1 : vp_in (x4 + 1) L) (hk2 : vp_in (x4 + 2) L) (hk3 : vp_in (x4 + 3) L) (hk4 : vp_in (x4 + 4) L) (hk5 : vp_in (x4 + 5) L) (hR : Rel X M) (hkn : k ≤ room_1.cells ∧ n ≤ room_1.slots) (nxt : ∀ X2 M2, Rel X2 M2 → G 1391 [(4, .int x4), (3, .ref oa), (2, .ref (am 0)), (1, .ref (ad 0)), (0, .ref b)] [] (LW E ad tr T X2 am M2 oa g, k, n)) : G 799 [(4, .int x4), (3, .ref oa), (2, .ref (am 0)), (1, .ref (ad 0)), (0, .ref b)] [] (LW E ad tr T X am M oa g, k, n) := by
  obtain ⟨r, X2, M2, ex, em, hR2⟩ := R_yields hR (xs (x4 + 1).toNatClampNeg)
  refine nx_aload_n h dL_law_799 3 rfl ?_
  refine nx_aload_n h dL_law_800 4 rfl ?_
  refine nx_iload h dL_law_801 0 rfl ?_
  refine nx_iconst h 1 dL_law_803 rfl ?_
  refine nx_iadd h dL_law_804 ?_
  refine nx_sld h hk1 dL_law_805 ?_
  refine nx_cX h (As := [.int (xs (x4 + 1).toNatClampNeg)]) (c_P_yields_0 l (EX E ad tr) T (xs (x4 + 1).toNatClampNeg) ex) rfl lwv_101 ⟨by decide, by decide⟩ hkn rfl (Nat.le_of_ble_eq_true rfl) dL_law_806 ?_
  refine nx_aload_n h dL_law_809 2 rfl ?_
  refine nx_aload_n h dL_law_810 4 rfl ?_
  refine nx_iload h dL_law_811 0 rfl ?_
  refine nx_iconst h 1 dL_law_813 rfl ?_
  refine nx_iadd h dL_law_814 ?_
  refine nx_sld h hk1 dL_law_815 ?_
  refine nx_cM h (As := [.int (xs (x4 + 1).toNatClampNeg)]) (c_M_yields_0 l (EX E am .null) [] (xs (x4 + 1).toNatClampNeg) em) rfl lwv_104 ⟨by decide, by decide⟩ hkn rfl (Nat.le_of_ble_eq_true rfl) dL_law_816 ?_
  exact nx_icmp_eq h 1391 dL_law_819 rfl (fun _ => nxt _ _ hR2) (fun hc => absurd rfl hc)
theorem lcs_20 (h : NX l E RL code 7 (some .boolean) room_1 (XFl E b L xs) G) (hk1 : vp_in (x4 + 1) L) (hk2 : vp_in (x4 + 2) L) (hk3 : vp_in (x4 + 3) L) (hk4 : vp_in (x4 + 4) L) (hk5 : vp_in (x4 + 5) L) (hR : Rel X M) (hkn : k ≤ room_1.cells ∧ n ≤ room_1.slots) (nxt : ∀ X2 M2, Rel X2 M2 → G 1391 [(4, .int x4), (3, .ref oa), (2, .ref (am 0)), (1, .ref (ad 0)), (0, .ref b)] [] (LW E ad tr T X2 am M2 oa g, k, n)) : G 824 [(4, .int x4), (3, .ref oa), (2, .ref (am 0)), (1, .ref (ad 0)), (0, .ref b)] [] (LW E ad tr T X am M oa g, k, n) := by
  obtain ⟨r, X2, M2, ex, em, hR2⟩ := R_would hR (xs (x4 + 1).toNatClampNeg) (xs (x4 + 2).toNatClampNeg) (xs (x4 + 3).toNatClampNeg) (xs (x4 + 4).toNatClampNeg)
  refine nx_aload_n h dL_law_824 3 rfl ?_
  refine nx_aload_n h dL_law_825 4 rfl ?_
  refine nx_iload h dL_law_826 0 rfl ?_
  refine nx_iconst h 1 dL_law_828 rfl ?_
  refine nx_iadd h dL_law_829 ?_
  refine nx_sld h hk1 dL_law_830 ?_
  refine nx_aload_n h dL_law_831 4 rfl ?_
  refine nx_iload h dL_law_832 0 rfl ?_
  refine nx_iconst h 2 dL_law_834 rfl ?_
  refine nx_iadd h dL_law_835 ?_
  refine nx_sld h hk2 dL_law_836 ?_
  refine nx_aload_n h dL_law_837 4 rfl ?_
  refine nx_iload h dL_law_838 0 rfl ?_
  refine nx_iconst h 3 dL_law_840 rfl ?_
  refine nx_iadd h dL_law_841 ?_
  refine nx_sld h hk3 dL_law_842 ?_
  refine nx_aload_n h dL_law_843 4 rfl ?_
  refine nx_iload h dL_law_844 0 rfl ?_
  refine nx_iconst h 4 dL_law_846 rfl ?_
  refine nx_iadd h dL_law_847 ?_
  refine nx_sld h hk4 dL_law_848 ?_
  refine nx_cX h (As := [.int (xs (x4 + 1).toNatClampNeg), .int (xs (x4 + 2).toNatClampNeg), .int (xs (x4 + 3).toNatClampNeg), .int (xs (x4 + 4).toNatClampNeg)]) (c_P_would_0 l (EX E ad tr) T (xs (x4 + 1).toNatClampNeg) (xs (x4 + 2).toNatClampNeg) (xs (x4 + 3).toNatClampNeg) (xs (x4 + 4).toNatClampNeg) ex) rfl lwv_105 ⟨by decide, by decide⟩ hkn rfl (Nat.le_of_ble_eq_true rfl) dL_law_849 ?_
  refine nx_aload_n h dL_law_852 2 rfl ?_
  refine nx_aload_n h dL_law_853 4 rfl ?_
  refine nx_iload h dL_law_854 0 rfl ?_
  refine nx_iconst h 1 dL_law_856 rfl ?_
  refine nx_iadd h dL_law_857 ?_
  refine nx_sld h hk1 dL_law_858 ?_
  refine nx_aload_n h dL_law_859 4 rfl ?_
  refine nx_iload h dL_law_860 0 rfl ?_
  refine nx_iconst h 2 dL_law_862 rfl ?_
  refine nx_iadd h dL_law_863 ?_
  refine nx_sld h hk2 dL_law_864 ?_
  refine nx_aload_n h dL_law_865 4 rfl ?_
  refine nx_iload h dL_law_866 0 rfl ?_
  refine nx_iconst h 3 dL_law_868 rfl ?_
  refine nx_iadd h dL_law_869 ?_
  refine nx_sld h hk3 dL_law_870 ?_
  refine nx_aload_n h dL_law_871 4 rfl ?_
  refine nx_iload h dL_law_872 0 rfl ?_
  refine nx_iconst h 4 dL_law_874 rfl ?_
  refine nx_iadd h dL_law_875 ?_
  refine nx_sld h hk4 dL_law_876 ?_
  refine nx_cM h (As := [.int (xs (x4 + 1).toNatClampNeg), .int (xs (x4 + 2).toNatClampNeg), .int (xs (x4 + 3).toNatClampNeg), .int (xs (x4 + 4).toNatClampNeg)]) (c_M_would_0 l (EX E am .null) [] (xs (x4 + 1).toNatClampNeg) (xs (x4 + 2).toNatClampNeg) (xs (x4 + 3).toNatClampNeg) (xs (x4 + 4).toNatClampNeg) em) rfl lwv_109 ⟨by decide, by decide⟩ hkn rfl (Nat.le_of_ble_eq_true rfl) dL_law_877 ?_
  exact nx_icmp_eq h 1391 dL_law_880 rfl (fun _ => nxt _ _ hR2) (fun hc => absurd rfl hc)
theorem lcs_21 (h : NX l E RL code 7 (some .boolean) room_1 (XFl E b L xs) G) (hk1 : vp_in (x4 + 1) L) (hk2 : vp_in (x4 + 2) L) (hk3 : vp_in (x4 + 3) L) (hk4 : vp_in (x4 + 4) L) (hk5 : vp_in (x4 + 5) L) (hR : Rel X M) (hkn : k ≤ room_1.cells ∧ n ≤ room_1.slots) (nxt : ∀ X2 M2, Rel X2 M2 → G 1391 [(4, .int x4), (3, .ref oa), (2, .ref (am 0)), (1, .ref (ad 0)), (0, .ref b)] [] (LW E ad tr T X2 am M2 oa g, k, n)) : G 885 [(4, .int x4), (3, .ref oa), (2, .ref (am 0)), (1, .ref (ad 0)), (0, .ref b)] [] (LW E ad tr T X am M oa g, k, n) := by
  obtain ⟨r, X2, M2, ex, em, hR2⟩ := R_fewest hR (xs (x4 + 1).toNatClampNeg) (xs (x4 + 2).toNatClampNeg)
  refine nx_aload_n h dL_law_885 3 rfl ?_
  refine nx_aload_n h dL_law_886 4 rfl ?_
  refine nx_iload h dL_law_887 0 rfl ?_
  refine nx_iconst h 1 dL_law_889 rfl ?_
  refine nx_iadd h dL_law_890 ?_
  refine nx_sld h hk1 dL_law_891 ?_
  refine nx_aload_n h dL_law_892 4 rfl ?_
  refine nx_iload h dL_law_893 0 rfl ?_
  refine nx_iconst h 2 dL_law_895 rfl ?_
  refine nx_iadd h dL_law_896 ?_
  refine nx_sld h hk2 dL_law_897 ?_
  refine nx_cX h (As := [.int (xs (x4 + 1).toNatClampNeg), .int (xs (x4 + 2).toNatClampNeg)]) (c_P_fewest_0 l (EX E ad tr) T (xs (x4 + 1).toNatClampNeg) (xs (x4 + 2).toNatClampNeg) ex) rfl lwv_110 ⟨by decide, by decide⟩ hkn rfl (Nat.le_of_ble_eq_true rfl) dL_law_898 ?_
  refine nx_aload_n h dL_law_901 2 rfl ?_
  refine nx_aload_n h dL_law_902 4 rfl ?_
  refine nx_iload h dL_law_903 0 rfl ?_
  refine nx_iconst h 1 dL_law_905 rfl ?_
  refine nx_iadd h dL_law_906 ?_
  refine nx_sld h hk1 dL_law_907 ?_
  refine nx_aload_n h dL_law_908 4 rfl ?_
  refine nx_iload h dL_law_909 0 rfl ?_
  refine nx_iconst h 2 dL_law_911 rfl ?_
  refine nx_iadd h dL_law_912 ?_
  refine nx_sld h hk2 dL_law_913 ?_
  refine nx_cM h (As := [.int (xs (x4 + 1).toNatClampNeg), .int (xs (x4 + 2).toNatClampNeg)]) (c_M_fewest_0 l (EX E am .null) [] (xs (x4 + 1).toNatClampNeg) (xs (x4 + 2).toNatClampNeg) em) rfl lwv_113 ⟨by decide, by decide⟩ hkn rfl (Nat.le_of_ble_eq_true rfl) dL_law_914 ?_
  exact nx_icmp_eq h 1391 dL_law_917 rfl (fun _ => nxt _ _ hR2) (fun hc => absurd rfl hc)
theorem lcs_22 (h : NX l E RL code 7 (some .boolean) room_1 (XFl E b L xs) G) (hk1 : vp_in (x4 + 1) L) (hk2 : vp_in (x4 + 2) L) (hk3 : vp_in (x4 + 3) L) (hk4 : vp_in (x4 + 4) L) (hk5 : vp_in (x4 + 5) L) (hR : Rel X M) (hkn : k ≤ room_1.cells ∧ n ≤ room_1.slots) (nxt : ∀ X2 M2, Rel X2 M2 → G 1391 [(4, .int x4), (3, .ref oa), (2, .ref (am 0)), (1, .ref (ad 0)), (0, .ref b)] [] (LW E ad tr T X2 am M2 oa g, k, n)) : G 922 [(4, .int x4), (3, .ref oa), (2, .ref (am 0)), (1, .ref (ad 0)), (0, .ref b)] [] (LW E ad tr T X am M oa g, k, n) := by
  obtain ⟨r, X2, M2, ex, em, hR2⟩ := R_thin hR (xs (x4 + 1).toNatClampNeg)
  refine nx_aload_n h dL_law_922 3 rfl ?_
  refine nx_aload_n h dL_law_923 4 rfl ?_
  refine nx_iload h dL_law_924 0 rfl ?_
  refine nx_iconst h 1 dL_law_926 rfl ?_
  refine nx_iadd h dL_law_927 ?_
  refine nx_sld h hk1 dL_law_928 ?_
  refine nx_cX h (As := [.int (xs (x4 + 1).toNatClampNeg)]) (c_P_thin_0 l (EX E ad tr) T (xs (x4 + 1).toNatClampNeg) ex) rfl lwv_114 ⟨by decide, by decide⟩ hkn rfl (Nat.le_of_ble_eq_true rfl) dL_law_929 ?_
  refine nx_aload_n h dL_law_932 2 rfl ?_
  refine nx_aload_n h dL_law_933 4 rfl ?_
  refine nx_iload h dL_law_934 0 rfl ?_
  refine nx_iconst h 1 dL_law_936 rfl ?_
  refine nx_iadd h dL_law_937 ?_
  refine nx_sld h hk1 dL_law_938 ?_
  refine nx_cM h (As := [.int (xs (x4 + 1).toNatClampNeg)]) (c_M_thin_0 l (EX E am .null) [] (xs (x4 + 1).toNatClampNeg) em) rfl lwv_117 ⟨by decide, by decide⟩ hkn rfl (Nat.le_of_ble_eq_true rfl) dL_law_939 ?_
  exact nx_icmp_eq h 1391 dL_law_942 rfl (fun _ => nxt _ _ hR2) (fun hc => absurd rfl hc)
theorem lcs_23 (h : NX l E RL code 7 (some .boolean) room_1 (XFl E b L xs) G) (hk1 : vp_in (x4 + 1) L) (hk2 : vp_in (x4 + 2) L) (hk3 : vp_in (x4 + 3) L) (hk4 : vp_in (x4 + 4) L) (hk5 : vp_in (x4 + 5) L) (hR : Rel X M) (hkn : k ≤ room_1.cells ∧ n ≤ room_1.slots) (nxt : ∀ X2 M2, Rel X2 M2 → G 1391 [(4, .int x4), (3, .ref oa), (2, .ref (am 0)), (1, .ref (ad 0)), (0, .ref b)] [] (LW E ad tr T X2 am M2 oa g, k, n)) : G 947 [(4, .int x4), (3, .ref oa), (2, .ref (am 0)), (1, .ref (ad 0)), (0, .ref b)] [] (LW E ad tr T X am M oa g, k, n) := by
  obtain ⟨r, X2, M2, ex, em, hR2⟩ := R_thinAt hR (xs (x4 + 1).toNatClampNeg) (xs (x4 + 2).toNatClampNeg) (xs (x4 + 3).toNatClampNeg)
  refine nx_aload_n h dL_law_947 3 rfl ?_
  refine nx_aload_n h dL_law_948 4 rfl ?_
  refine nx_iload h dL_law_949 0 rfl ?_
  refine nx_iconst h 1 dL_law_951 rfl ?_
  refine nx_iadd h dL_law_952 ?_
  refine nx_sld h hk1 dL_law_953 ?_
  refine nx_aload_n h dL_law_954 4 rfl ?_
  refine nx_iload h dL_law_955 0 rfl ?_
  refine nx_iconst h 2 dL_law_957 rfl ?_
  refine nx_iadd h dL_law_958 ?_
  refine nx_sld h hk2 dL_law_959 ?_
  refine nx_aload_n h dL_law_960 4 rfl ?_
  refine nx_iload h dL_law_961 0 rfl ?_
  refine nx_iconst h 3 dL_law_963 rfl ?_
  refine nx_iadd h dL_law_964 ?_
  refine nx_sld h hk3 dL_law_965 ?_
  refine nx_cX h (As := [.int (xs (x4 + 1).toNatClampNeg), .int (xs (x4 + 2).toNatClampNeg), .int (xs (x4 + 3).toNatClampNeg)]) (c_P_thinAt_0 l (EX E ad tr) T (xs (x4 + 1).toNatClampNeg) (xs (x4 + 2).toNatClampNeg) (xs (x4 + 3).toNatClampNeg) ex) rfl lwv_118 ⟨by decide, by decide⟩ hkn rfl (Nat.le_of_ble_eq_true rfl) dL_law_966 ?_
  refine nx_aload_n h dL_law_969 2 rfl ?_
  refine nx_aload_n h dL_law_970 4 rfl ?_
  refine nx_iload h dL_law_971 0 rfl ?_
  refine nx_iconst h 1 dL_law_973 rfl ?_
  refine nx_iadd h dL_law_974 ?_
  refine nx_sld h hk1 dL_law_975 ?_
  refine nx_aload_n h dL_law_976 4 rfl ?_
  refine nx_iload h dL_law_977 0 rfl ?_
  refine nx_iconst h 2 dL_law_979 rfl ?_
  refine nx_iadd h dL_law_980 ?_
  refine nx_sld h hk2 dL_law_981 ?_
  refine nx_aload_n h dL_law_982 4 rfl ?_
  refine nx_iload h dL_law_983 0 rfl ?_
  refine nx_iconst h 3 dL_law_985 rfl ?_
  refine nx_iadd h dL_law_986 ?_
  refine nx_sld h hk3 dL_law_987 ?_
  refine nx_cM h (As := [.int (xs (x4 + 1).toNatClampNeg), .int (xs (x4 + 2).toNatClampNeg), .int (xs (x4 + 3).toNatClampNeg)]) (c_M_thinAt_0 l (EX E am .null) [] (xs (x4 + 1).toNatClampNeg) (xs (x4 + 2).toNatClampNeg) (xs (x4 + 3).toNatClampNeg) em) rfl lwv_121 ⟨by decide, by decide⟩ hkn rfl (Nat.le_of_ble_eq_true rfl) dL_law_988 ?_
  exact nx_icmp_eq h 1391 dL_law_991 rfl (fun _ => nxt _ _ hR2) (fun hc => absurd rfl hc)
theorem lcs_24 (h : NX l E RL code 7 (some .boolean) room_1 (XFl E b L xs) G) (hk1 : vp_in (x4 + 1) L) (hk2 : vp_in (x4 + 2) L) (hk3 : vp_in (x4 + 3) L) (hk4 : vp_in (x4 + 4) L) (hk5 : vp_in (x4 + 5) L) (hR : Rel X M) (hkn : k ≤ room_1.cells ∧ n ≤ room_1.slots) (nxt : ∀ X2 M2, Rel X2 M2 → G 1391 [(4, .int x4), (3, .ref oa), (2, .ref (am 0)), (1, .ref (ad 0)), (0, .ref b)] [] (LW E ad tr T X2 am M2 oa g, k, n)) : G 996 [(4, .int x4), (3, .ref oa), (2, .ref (am 0)), (1, .ref (ad 0)), (0, .ref b)] [] (LW E ad tr T X am M oa g, k, n) := by
  obtain ⟨r, X2, M2, ex, em, hR2⟩ := R_helps hR (xs (x4 + 1).toNatClampNeg)
  refine nx_aload_n h dL_law_996 3 rfl ?_
  refine nx_aload_n h dL_law_997 4 rfl ?_
  refine nx_iload h dL_law_998 0 rfl ?_
  refine nx_iconst h 1 dL_law_1000 rfl ?_
  refine nx_iadd h dL_law_1001 ?_
  refine nx_sld h hk1 dL_law_1002 ?_
  refine nx_cX h (As := [.int (xs (x4 + 1).toNatClampNeg)]) (c_P_helps_0 l (EX E ad tr) T (xs (x4 + 1).toNatClampNeg) ex) rfl lwv_122 ⟨by decide, by decide⟩ hkn rfl (Nat.le_of_ble_eq_true rfl) dL_law_1003 ?_
  refine nx_aload_n h dL_law_1006 2 rfl ?_
  refine nx_aload_n h dL_law_1007 4 rfl ?_
  refine nx_iload h dL_law_1008 0 rfl ?_
  refine nx_iconst h 1 dL_law_1010 rfl ?_
  refine nx_iadd h dL_law_1011 ?_
  refine nx_sld h hk1 dL_law_1012 ?_
  refine nx_cM h (As := [.int (xs (x4 + 1).toNatClampNeg)]) (c_M_helps_0 l (EX E am .null) [] (xs (x4 + 1).toNatClampNeg) em) rfl lwv_125 ⟨by decide, by decide⟩ hkn rfl (Nat.le_of_ble_eq_true rfl) dL_law_1013 ?_
  exact nx_icmp_eq h 1391 dL_law_1016 rfl (fun _ => nxt _ _ hR2) (fun hc => absurd rfl hc)
theorem lcs_25 (h : NX l E RL code 7 (some .boolean) room_1 (XFl E b L xs) G) (hk1 : vp_in (x4 + 1) L) (hk2 : vp_in (x4 + 2) L) (hk3 : vp_in (x4 + 3) L) (hk4 : vp_in (x4 + 4) L) (hk5 : vp_in (x4 + 5) L) (hR : Rel X M) (hkn : k ≤ room_1.cells ∧ n ≤ room_1.slots) (nxt : ∀ X2 M2, Rel X2 M2 → G 1391 [(4, .int x4), (3, .ref oa), (2, .ref (am 0)), (1, .ref (ad 0)), (0, .ref b)] [] (LW E ad tr T X2 am M2 oa g, k, n)) : G 1021 [(4, .int x4), (3, .ref oa), (2, .ref (am 0)), (1, .ref (ad 0)), (0, .ref b)] [] (LW E ad tr T X am M oa g, k, n) := by
  obtain ⟨r, X2, M2, ex, em, hR2⟩ := R_holds hR (xs (x4 + 1).toNatClampNeg)
  refine nx_aload_n h dL_law_1021 3 rfl ?_
  refine nx_aload_n h dL_law_1022 4 rfl ?_
  refine nx_iload h dL_law_1023 0 rfl ?_
  refine nx_iconst h 1 dL_law_1025 rfl ?_
  refine nx_iadd h dL_law_1026 ?_
  refine nx_sld h hk1 dL_law_1027 ?_
  refine nx_cX h (As := [.int (xs (x4 + 1).toNatClampNeg)]) (c_P_holds_0 l (EX E ad tr) T (xs (x4 + 1).toNatClampNeg) ex) rfl lwv_126 ⟨by decide, by decide⟩ hkn rfl (Nat.le_of_ble_eq_true rfl) dL_law_1028 ?_
  refine nx_aload_n h dL_law_1031 2 rfl ?_
  refine nx_aload_n h dL_law_1032 4 rfl ?_
  refine nx_iload h dL_law_1033 0 rfl ?_
  refine nx_iconst h 1 dL_law_1035 rfl ?_
  refine nx_iadd h dL_law_1036 ?_
  refine nx_sld h hk1 dL_law_1037 ?_
  refine nx_cM h (As := [.int (xs (x4 + 1).toNatClampNeg)]) (c_M_holds_0 l (EX E am .null) [] (xs (x4 + 1).toNatClampNeg) em) rfl lwv_129 ⟨by decide, by decide⟩ hkn rfl (Nat.le_of_ble_eq_true rfl) dL_law_1038 ?_
  exact nx_icmp_eq h 1391 dL_law_1041 rfl (fun _ => nxt _ _ hR2) (fun hc => absurd rfl hc)
theorem lcs_27 (h : NX l E RL code 7 (some .boolean) room_1 (XFl E b L xs) G) (hk1 : vp_in (x4 + 1) L) (hk2 : vp_in (x4 + 2) L) (hk3 : vp_in (x4 + 3) L) (hk4 : vp_in (x4 + 4) L) (hk5 : vp_in (x4 + 5) L) (hR : Rel X M) (hkn : k ≤ room_1.cells ∧ n ≤ room_1.slots) (nxt : ∀ X2 M2, Rel X2 M2 → G 1391 [(4, .int x4), (3, .ref oa), (2, .ref (am 0)), (1, .ref (ad 0)), (0, .ref b)] [] (LW E ad tr T X2 am M2 oa g, k, n)) : G 1083 [(4, .int x4), (3, .ref oa), (2, .ref (am 0)), (1, .ref (ad 0)), (0, .ref b)] [] (LW E ad tr T X am M oa g, k, n) := by
  obtain ⟨r, X2, M2, ex, em, hR2⟩ := R_cards hR (xs (x4 + 1).toNatClampNeg) (xs (x4 + 2).toNatClampNeg) (xs (x4 + 3).toNatClampNeg)
  refine nx_aload_n h dL_law_1083 3 rfl ?_
  refine nx_aload_n h dL_law_1084 4 rfl ?_
  refine nx_iload h dL_law_1085 0 rfl ?_
  refine nx_iconst h 1 dL_law_1087 rfl ?_
  refine nx_iadd h dL_law_1088 ?_
  refine nx_sld h hk1 dL_law_1089 ?_
  refine nx_aload_n h dL_law_1090 4 rfl ?_
  refine nx_iload h dL_law_1091 0 rfl ?_
  refine nx_iconst h 2 dL_law_1093 rfl ?_
  refine nx_iadd h dL_law_1094 ?_
  refine nx_sld h hk2 dL_law_1095 ?_
  refine nx_aload_n h dL_law_1096 4 rfl ?_
  refine nx_iload h dL_law_1097 0 rfl ?_
  refine nx_iconst h 3 dL_law_1099 rfl ?_
  refine nx_iadd h dL_law_1100 ?_
  refine nx_sld h hk3 dL_law_1101 ?_
  refine nx_cX h (As := [.int (xs (x4 + 1).toNatClampNeg), .int (xs (x4 + 2).toNatClampNeg), .int (xs (x4 + 3).toNatClampNeg)]) (c_P_cards_0 l (EX E ad tr) T (xs (x4 + 1).toNatClampNeg) (xs (x4 + 2).toNatClampNeg) (xs (x4 + 3).toNatClampNeg) ex) rfl lwv_134 ⟨by decide, by decide⟩ hkn rfl (Nat.le_of_ble_eq_true rfl) dL_law_1102 ?_
  refine nx_aload_n h dL_law_1105 2 rfl ?_
  refine nx_aload_n h dL_law_1106 4 rfl ?_
  refine nx_iload h dL_law_1107 0 rfl ?_
  refine nx_iconst h 1 dL_law_1109 rfl ?_
  refine nx_iadd h dL_law_1110 ?_
  refine nx_sld h hk1 dL_law_1111 ?_
  refine nx_aload_n h dL_law_1112 4 rfl ?_
  refine nx_iload h dL_law_1113 0 rfl ?_
  refine nx_iconst h 2 dL_law_1115 rfl ?_
  refine nx_iadd h dL_law_1116 ?_
  refine nx_sld h hk2 dL_law_1117 ?_
  refine nx_aload_n h dL_law_1118 4 rfl ?_
  refine nx_iload h dL_law_1119 0 rfl ?_
  refine nx_iconst h 3 dL_law_1121 rfl ?_
  refine nx_iadd h dL_law_1122 ?_
  refine nx_sld h hk3 dL_law_1123 ?_
  refine nx_cM h (As := [.int (xs (x4 + 1).toNatClampNeg), .int (xs (x4 + 2).toNatClampNeg), .int (xs (x4 + 3).toNatClampNeg)]) (c_M_cards_0 l (EX E am .null) [] (xs (x4 + 1).toNatClampNeg) (xs (x4 + 2).toNatClampNeg) (xs (x4 + 3).toNatClampNeg) em) rfl lwv_137 ⟨by decide, by decide⟩ hkn rfl (Nat.le_of_ble_eq_true rfl) dL_law_1124 ?_
  exact nx_icmp_eq h 1391 dL_law_1127 rfl (fun _ => nxt _ _ hR2) (fun hc => absurd rfl hc)
theorem lcs_28 (h : NX l E RL code 7 (some .boolean) room_1 (XFl E b L xs) G) (hk1 : vp_in (x4 + 1) L) (hk2 : vp_in (x4 + 2) L) (hk3 : vp_in (x4 + 3) L) (hk4 : vp_in (x4 + 4) L) (hk5 : vp_in (x4 + 5) L) (hR : Rel X M) (hkn : k ≤ room_1.cells ∧ n ≤ room_1.slots) (nxt : ∀ X2 M2, Rel X2 M2 → G 1391 [(4, .int x4), (3, .ref oa), (2, .ref (am 0)), (1, .ref (ad 0)), (0, .ref b)] [] (LW E ad tr T X2 am M2 oa g, k, n)) : G 1132 [(4, .int x4), (3, .ref oa), (2, .ref (am 0)), (1, .ref (ad 0)), (0, .ref b)] [] (LW E ad tr T X am M oa g, k, n) := by
  obtain ⟨r, X2, M2, ex, em, hR2⟩ := R_time hR (xs (x4 + 1).toNatClampNeg) (xs (x4 + 2).toNatClampNeg) (xs (x4 + 3).toNatClampNeg)
  refine nx_aload_n h dL_law_1132 3 rfl ?_
  refine nx_aload_n h dL_law_1133 4 rfl ?_
  refine nx_iload h dL_law_1134 0 rfl ?_
  refine nx_iconst h 1 dL_law_1136 rfl ?_
  refine nx_iadd h dL_law_1137 ?_
  refine nx_sld h hk1 dL_law_1138 ?_
  refine nx_aload_n h dL_law_1139 4 rfl ?_
  refine nx_iload h dL_law_1140 0 rfl ?_
  refine nx_iconst h 2 dL_law_1142 rfl ?_
  refine nx_iadd h dL_law_1143 ?_
  refine nx_sld h hk2 dL_law_1144 ?_
  refine nx_aload_n h dL_law_1145 4 rfl ?_
  refine nx_iload h dL_law_1146 0 rfl ?_
  refine nx_iconst h 3 dL_law_1148 rfl ?_
  refine nx_iadd h dL_law_1149 ?_
  refine nx_sld h hk3 dL_law_1150 ?_
  refine nx_cX h (As := [.int (xs (x4 + 1).toNatClampNeg), .int (xs (x4 + 2).toNatClampNeg), .int (xs (x4 + 3).toNatClampNeg)]) (c_P_time_0 l (EX E ad tr) T (xs (x4 + 1).toNatClampNeg) (xs (x4 + 2).toNatClampNeg) (xs (x4 + 3).toNatClampNeg) ex) rfl lwv_138 ⟨by decide, by decide⟩ hkn rfl (Nat.le_of_ble_eq_true rfl) dL_law_1151 ?_
  refine nx_aload_n h dL_law_1154 2 rfl ?_
  refine nx_aload_n h dL_law_1155 4 rfl ?_
  refine nx_iload h dL_law_1156 0 rfl ?_
  refine nx_iconst h 1 dL_law_1158 rfl ?_
  refine nx_iadd h dL_law_1159 ?_
  refine nx_sld h hk1 dL_law_1160 ?_
  refine nx_aload_n h dL_law_1161 4 rfl ?_
  refine nx_iload h dL_law_1162 0 rfl ?_
  refine nx_iconst h 2 dL_law_1164 rfl ?_
  refine nx_iadd h dL_law_1165 ?_
  refine nx_sld h hk2 dL_law_1166 ?_
  refine nx_aload_n h dL_law_1167 4 rfl ?_
  refine nx_iload h dL_law_1168 0 rfl ?_
  refine nx_iconst h 3 dL_law_1170 rfl ?_
  refine nx_iadd h dL_law_1171 ?_
  refine nx_sld h hk3 dL_law_1172 ?_
  refine nx_cM h (As := [.int (xs (x4 + 1).toNatClampNeg), .int (xs (x4 + 2).toNatClampNeg), .int (xs (x4 + 3).toNatClampNeg)]) (c_M_time_0 l (EX E am .null) [] (xs (x4 + 1).toNatClampNeg) (xs (x4 + 2).toNatClampNeg) (xs (x4 + 3).toNatClampNeg) em) rfl lwv_141 ⟨by decide, by decide⟩ hkn rfl (Nat.le_of_ble_eq_true rfl) dL_law_1173 ?_
  exact nx_icmp_eq h 1391 dL_law_1176 rfl (fun _ => nxt _ _ hR2) (fun hc => absurd rfl hc)
theorem lcs_29 (h : NX l E RL code 7 (some .boolean) room_1 (XFl E b L xs) G) (hk1 : vp_in (x4 + 1) L) (hk2 : vp_in (x4 + 2) L) (hk3 : vp_in (x4 + 3) L) (hk4 : vp_in (x4 + 4) L) (hk5 : vp_in (x4 + 5) L) (hR : Rel X M) (hkn : k ≤ room_1.cells ∧ n ≤ room_1.slots) (nxt : ∀ X2 M2, Rel X2 M2 → G 1391 [(4, .int x4), (3, .ref oa), (2, .ref (am 0)), (1, .ref (ad 0)), (0, .ref b)] [] (LW E ad tr T X2 am M2 oa g, k, n)) : G 1181 [(4, .int x4), (3, .ref oa), (2, .ref (am 0)), (1, .ref (ad 0)), (0, .ref b)] [] (LW E ad tr T X am M oa g, k, n) := by
  obtain ⟨r, X2, M2, ex, em, hR2⟩ := R_rule hR (xs (x4 + 1).toNatClampNeg)
  refine nx_aload_n h dL_law_1181 3 rfl ?_
  refine nx_aload_n h dL_law_1182 4 rfl ?_
  refine nx_iload h dL_law_1183 0 rfl ?_
  refine nx_iconst h 1 dL_law_1185 rfl ?_
  refine nx_iadd h dL_law_1186 ?_
  refine nx_sld h hk1 dL_law_1187 ?_
  refine nx_cX h (As := [.int (xs (x4 + 1).toNatClampNeg)]) (c_P_rule_0 l (EX E ad tr) T (xs (x4 + 1).toNatClampNeg) ex) rfl lwv_142 ⟨by decide, by decide⟩ hkn rfl (Nat.le_of_ble_eq_true rfl) dL_law_1188 ?_
  refine nx_aload_n h dL_law_1191 2 rfl ?_
  refine nx_aload_n h dL_law_1192 4 rfl ?_
  refine nx_iload h dL_law_1193 0 rfl ?_
  refine nx_iconst h 1 dL_law_1195 rfl ?_
  refine nx_iadd h dL_law_1196 ?_
  refine nx_sld h hk1 dL_law_1197 ?_
  refine nx_cM h (As := [.int (xs (x4 + 1).toNatClampNeg)]) (c_M_rule_0 l (EX E am .null) [] (xs (x4 + 1).toNatClampNeg) em) rfl lwv_145 ⟨by decide, by decide⟩ hkn rfl (Nat.le_of_ble_eq_true rfl) dL_law_1198 ?_
  exact nx_icmp_eq h 1391 dL_law_1201 rfl (fun _ => nxt _ _ hR2) (fun hc => absurd rfl hc)
theorem lcs_30 (h : NX l E RL code 7 (some .boolean) room_1 (XFl E b L xs) G) (hk1 : vp_in (x4 + 1) L) (hk2 : vp_in (x4 + 2) L) (hk3 : vp_in (x4 + 3) L) (hk4 : vp_in (x4 + 4) L) (hk5 : vp_in (x4 + 5) L) (hR : Rel X M) (hkn : k ≤ room_1.cells ∧ n ≤ room_1.slots) (nxt : ∀ X2 M2, Rel X2 M2 → G 1391 [(4, .int x4), (3, .ref oa), (2, .ref (am 0)), (1, .ref (ad 0)), (0, .ref b)] [] (LW E ad tr T X2 am M2 oa g, k, n)) : G 1206 [(4, .int x4), (3, .ref oa), (2, .ref (am 0)), (1, .ref (ad 0)), (0, .ref b)] [] (LW E ad tr T X am M oa g, k, n) := by
  obtain ⟨r, X2, M2, ex, em, hR2⟩ := R_undo hR
  refine nx_aload_n h dL_law_1206 3 rfl ?_
  refine nx_cX h (As := []) (c_P_undo_0 l (EX E ad tr) T ex) rfl lwv_146 ⟨by decide, by decide⟩ hkn rfl (Nat.le_of_ble_eq_true rfl) dL_law_1207 ?_
  refine nx_aload_n h dL_law_1210 2 rfl ?_
  refine nx_cM h (As := []) (c_M_undo_0 l (EX E am .null) [] em) rfl lwv_149 ⟨by decide, by decide⟩ hkn rfl (Nat.le_of_ble_eq_true rfl) dL_law_1211 ?_
  exact nx_icmp_eq h 1391 dL_law_1214 rfl (fun _ => nxt _ _ hR2) (fun hc => absurd rfl hc)
theorem lcs_31 (h : NX l E RL code 7 (some .boolean) room_1 (XFl E b L xs) G) (hk1 : vp_in (x4 + 1) L) (hk2 : vp_in (x4 + 2) L) (hk3 : vp_in (x4 + 3) L) (hk4 : vp_in (x4 + 4) L) (hk5 : vp_in (x4 + 5) L) (hR : Rel X M) (hkn : k ≤ room_1.cells ∧ n ≤ room_1.slots) (nxt : ∀ X2 M2, Rel X2 M2 → G 1391 [(4, .int x4), (3, .ref oa), (2, .ref (am 0)), (1, .ref (ad 0)), (0, .ref b)] [] (LW E ad tr T X2 am M2 oa g, k, n)) : G 1219 [(4, .int x4), (3, .ref oa), (2, .ref (am 0)), (1, .ref (ad 0)), (0, .ref b)] [] (LW E ad tr T X am M oa g, k, n) := by
  obtain ⟨r, X2, M2, ex, em, hR2⟩ := R_keep hR (xs (x4 + 1).toNatClampNeg)
  refine nx_aload_n h dL_law_1219 3 rfl ?_
  refine nx_aload_n h dL_law_1220 4 rfl ?_
  refine nx_iload h dL_law_1221 0 rfl ?_
  refine nx_iconst h 1 dL_law_1223 rfl ?_
  refine nx_iadd h dL_law_1224 ?_
  refine nx_sld h hk1 dL_law_1225 ?_
  refine nx_cX h (As := [.int (xs (x4 + 1).toNatClampNeg)]) (c_P_keep_0 l (EX E ad tr) T (xs (x4 + 1).toNatClampNeg) ex) rfl lwv_150 ⟨by decide, by decide⟩ hkn rfl (Nat.le_of_ble_eq_true rfl) dL_law_1226 ?_
  refine nx_aload_n h dL_law_1229 2 rfl ?_
  refine nx_aload_n h dL_law_1230 4 rfl ?_
  refine nx_iload h dL_law_1231 0 rfl ?_
  refine nx_iconst h 1 dL_law_1233 rfl ?_
  refine nx_iadd h dL_law_1234 ?_
  refine nx_sld h hk1 dL_law_1235 ?_
  refine nx_cM h (As := [.int (xs (x4 + 1).toNatClampNeg)]) (c_M_keep_0 l (EX E am .null) [] (xs (x4 + 1).toNatClampNeg) em) rfl lwv_154 ⟨by decide, by decide⟩ hkn rfl (Nat.le_of_ble_eq_true rfl) dL_law_1236 ?_
  exact nx_icmp_eq h 1391 dL_law_1239 rfl (fun _ => nxt _ _ hR2) (fun hc => absurd rfl hc)
theorem lcs_32 (h : NX l E RL code 7 (some .boolean) room_1 (XFl E b L xs) G) (hk1 : vp_in (x4 + 1) L) (hk2 : vp_in (x4 + 2) L) (hk3 : vp_in (x4 + 3) L) (hk4 : vp_in (x4 + 4) L) (hk5 : vp_in (x4 + 5) L) (hR : Rel X M) (hkn : k ≤ room_1.cells ∧ n ≤ room_1.slots) (nxt : ∀ X2 M2, Rel X2 M2 → G 1391 [(4, .int x4), (3, .ref oa), (2, .ref (am 0)), (1, .ref (ad 0)), (0, .ref b)] [] (LW E ad tr T X2 am M2 oa g, k, n)) : G 1244 [(4, .int x4), (3, .ref oa), (2, .ref (am 0)), (1, .ref (ad 0)), (0, .ref b)] [] (LW E ad tr T X am M oa g, k, n) := by
  obtain ⟨r, X2, M2, ex, em, hR2⟩ := R_back hR (xs (x4 + 1).toNatClampNeg)
  refine nx_aload_n h dL_law_1244 3 rfl ?_
  refine nx_aload_n h dL_law_1245 4 rfl ?_
  refine nx_iload h dL_law_1246 0 rfl ?_
  refine nx_iconst h 1 dL_law_1248 rfl ?_
  refine nx_iadd h dL_law_1249 ?_
  refine nx_sld h hk1 dL_law_1250 ?_
  refine nx_cX h (As := [.int (xs (x4 + 1).toNatClampNeg)]) (c_P_back_0 l (EX E ad tr) T (xs (x4 + 1).toNatClampNeg) ex) rfl lwv_155 ⟨by decide, by decide⟩ hkn rfl (Nat.le_of_ble_eq_true rfl) dL_law_1251 ?_
  refine nx_aload_n h dL_law_1254 2 rfl ?_
  refine nx_aload_n h dL_law_1255 4 rfl ?_
  refine nx_iload h dL_law_1256 0 rfl ?_
  refine nx_iconst h 1 dL_law_1258 rfl ?_
  refine nx_iadd h dL_law_1259 ?_
  refine nx_sld h hk1 dL_law_1260 ?_
  refine nx_cM h (As := [.int (xs (x4 + 1).toNatClampNeg)]) (c_M_back_0 l (EX E am .null) [] (xs (x4 + 1).toNatClampNeg) em) rfl lwv_158 ⟨by decide, by decide⟩ hkn rfl (Nat.le_of_ble_eq_true rfl) dL_law_1261 ?_
  exact nx_icmp_eq h 1391 dL_law_1264 rfl (fun _ => nxt _ _ hR2) (fun hc => absurd rfl hc)
theorem lcs_34 (h : NX l E RL code 7 (some .boolean) room_1 (XFl E b L xs) G) (hk1 : vp_in (x4 + 1) L) (hk2 : vp_in (x4 + 2) L) (hk3 : vp_in (x4 + 3) L) (hk4 : vp_in (x4 + 4) L) (hk5 : vp_in (x4 + 5) L) (hR : Rel X M) (hkn : k ≤ room_1.cells ∧ n ≤ room_1.slots) (nxt : ∀ X2 M2, Rel X2 M2 → G 1391 [(4, .int x4), (3, .ref oa), (2, .ref (am 0)), (1, .ref (ad 0)), (0, .ref b)] [] (LW E ad tr T X2 am M2 oa g, k, n)) : G 1365 [(4, .int x4), (3, .ref oa), (2, .ref (am 0)), (1, .ref (ad 0)), (0, .ref b)] [] (LW E ad tr T X am M oa g, k, n) := by
  obtain ⟨r, X2, M2, ex, em, hR2⟩ := R_bytes hR
  obtain ⟨ex, rfl⟩ := mapE ex
  refine nx_aload_n h dL_law_1365 3 rfl ?_
  refine nx_cX h (As := []) (c_P_bytes_0 l (EX E ad tr) T ex) rfl lwv_168 ⟨by decide, by decide⟩ hkn rfl (Nat.le_of_ble_eq_true rfl) dL_law_1366 ?_
  refine nx_aload_n h dL_law_1369 2 rfl ?_
  refine nx_cM h (As := []) (c_M_bytes_0 l (EX E am .null) [] em) rfl lwv_171 ⟨by decide, by decide⟩ hkn rfl (Nat.le_of_ble_eq_true rfl) dL_law_1370 ?_
  exact nx_icmp_eq h 1391 dL_law_1373 rfl (fun _ => nxt _ _ hR2) (fun hc => absurd rfl hc)
theorem lcs_35 (h : NX l E RL code 7 (some .boolean) room_1 (XFl E b L xs) G) (hk1 : vp_in (x4 + 1) L) (hk2 : vp_in (x4 + 2) L) (hk3 : vp_in (x4 + 3) L) (hk4 : vp_in (x4 + 4) L) (hk5 : vp_in (x4 + 5) L) (hR : Rel X M) (hkn : k ≤ room_1.cells ∧ n ≤ room_1.slots) (nxt : ∀ X2 M2, Rel X2 M2 → G 1391 [(4, .int x4), (3, .ref oa), (2, .ref (am 0)), (1, .ref (ad 0)), (0, .ref b)] [] (LW E ad tr T X2 am M2 oa g, k, n)) : G 1378 [(4, .int x4), (3, .ref oa), (2, .ref (am 0)), (1, .ref (ad 0)), (0, .ref b)] [] (LW E ad tr T X am M oa g, k, n) := by
  obtain ⟨r, X2, M2, ex, em, hR2⟩ := R_trouble hR
  obtain ⟨ex, rfl⟩ := mapE ex
  refine nx_aload_n h dL_law_1378 3 rfl ?_
  refine nx_cX h (As := []) (c_P_trouble_0 l (EX E ad tr) T ex) rfl lwv_172 ⟨by decide, by decide⟩ hkn rfl (Nat.le_of_ble_eq_true rfl) dL_law_1379 ?_
  refine nx_aload_n h dL_law_1382 2 rfl ?_
  refine nx_cM h (As := []) (c_M_trouble_0 l (EX E am .null) [] em) rfl lwv_175 ⟨by decide, by decide⟩ hkn rfl (Nat.le_of_ble_eq_true rfl) dL_law_1383 ?_
  exact nx_icmp_eq h 1391 dL_law_1386 rfl (fun _ => nxt _ _ hR2) (fun hc => absurd rfl hc)
end CASES

theorem nx_mono {l : Launch} {E : En} {own : String} {cc : ByteArray} {nL : Nat} {ret : Option FieldType} {R : Room} {XF YF : XFt} {G : Nat → List (Nat × Value) → List Value → NW → Prop} (h : NX l E own cc nL ret R XF G) (hxy : ∀ s args below meth A Q, XF s args below meth A Q → YF s args below meth A Q) : NX l E own cc nL ret R YF G := by
  obtain ⟨p, e, s, m, args, below, meth, c, A, Q, hx, hb, hml, hr, hlo, hown, hts, hK, hA, hO, hX, rfl⟩ := h
  exact ⟨p, e, s, m, args, below, meth, c, A, Q, hx, hb, hml, hr, hlo, hown, hts, hK, hA, hO, hxy _ _ _ _ _ _ hX, rfl⟩
def XFL (E : En) (b L : Nat) (xs : Nat → Int32) : XFt := fun s args below meth A Q => XFl E b L xs s args below meth A Q ∧ exS A s s.heap
theorem va_P.swp {D : va_G} {cl : List vw_C} {wa wb wc : va_W} {H : Heap} (h : va_P D cl (wa ++ (wb ++ wc)) H) : va_P D cl (wa ++ (wc ++ wb)) H := h.spl.1.app (h.spl.2.spl.2.app h.spl.2.spl.1)
theorem va_D.swp {A : Nat → Prop} {wa wb wc : va_W} (h : va_D A (wa ++ (wb ++ wc))) : va_D A (wa ++ (wc ++ wb)) := by
  obtain ⟨da, dbc, xa⟩ := h.spl
  obtain ⟨db, dc, xb⟩ := dbc.spl
  refine va_D.app da (va_D.app dc db (fun i j p q hp hq e => xb j i q p hq hp e.symm)) (fun i j p q hp hq e => ?_)
  have hm : q ∈ wb ++ wc := by
    rcases List.mem_append.mp (List.mem_of_getElem? hq) with h | h
    · exact List.mem_append_right _ h
    · exact List.mem_append_left _ h
  obtain ⟨k, hk⟩ := List.getElem?_of_mem hm
  exact xa i k p q hp hk e
theorem TB_inW : GoodIn TB (va_wsS RL 159 yL_letter (Cond.codeWith yL_letter cL_letter 6 (some .int) [(0, 12, 15, 13)] :: TB)) := by
  intro w hw
  unfold va_wsS at hw
  rcases List.mem_append.mp hw with h | h
  · rcases List.mem_cons.mp h with rfl | h
    · exact TB_good _ ex_w6
    · rcases List.mem_cons.mp h with rfl | h
      · exact TB_good _ ex_w5
      · rcases List.mem_cons.mp h with rfl | h
        · exact TB_good _ ex_w7
        · cases h
  · rcases List.mem_cons.mp h with rfl | h
    · exact TB_good _ ex_w4
    · exact TB_good _ h
theorem ll_d : yL_letter.cls ≠ "java/lang/invoke/MethodHandle" ∧ yL_letter.cls ≠ "java/lang/invoke/VarHandle" ∧ (parseMethodDescriptor yL_letter.desc).map (fun d => d.parameters.length) = some 5 := by decide +kernel
section LOOP
variable {l : Launch} {E : En} {b L : Nat} {xs : Nat → Int32} {G : Nat → List (Nat × Value) → List Value → NW → Prop} {ad am : Nat → Nat} {tr : Value} {T : List Sk} {X M : Mm} {oa : Nat} {g : Nat → Int64} {k n : Nat} {x4 : Int32}
theorem nx_cL (hst : l.stackTraces = false) (h : NX l E RL code 7 (some .boolean) room_1 (XFL E b L xs) G) {lv : List (Nat × Value)} {p0 p1 p2 : Int32} {P : Int32 → (Nat → Int64) → Prop} (hc : (∃ r, f_P_letter_0 p0 p1 p2 X = some r ∧ ∀ g', g' 0 = r.toInt64 → P 0 g') ∨ (LT p0 p1 p2 X ∧ P 1 g)) (hkn : k + 1 ≤ room_1.cells ∧ n + 6 ≤ room_1.slots)
    (kk : ∀ k1 g', P k1 g' → G 1300 lv [.int k1] (LW E ad tr T X am M oa g', k + 1, n + 6)) : G 1297 lv [.ref oa, .int p2, .int p1, .int p0, .ref (ad 0)] (LW E ad tr T X am M oa g, k, n) := by
  obtain ⟨p, e, s, m, args, below, meth, c, A, Q, hx, hb, hml, hr, hlo, hown, hts, hK, hA, hO, ⟨⟨rfl, rfl, rfl, hX, hbl, hE⟩, hXs⟩, rfl⟩ := h
  intro H locs hP hD hS ls hl
  have hP0 : va_P E.2.2.2.1 vwCl ([] ++ ((wE (SKX ++ T) (EX E ad tr) X ++ [ou E oa g]) ++ wE (SKM ++ []) (EX E am .null) M)) H := by rw [List.nil_append, List.append_assoc]; exact va_P.swp hP
  have hD0 : va_D (fun q : Nat => s.heap.size ≤ q) ([] ++ ((wE (SKX ++ T) (EX E ad tr) X ++ [ou E oa g]) ++ wE (SKM ++ []) (EX E am .null) M)) := by rw [List.nil_append, List.append_assoc]; exact va_D.swp hD
  have hPc := hP0.spl.2.spl.1
  have hDc := hD0.spl.2.1.spl.1
  have hF := wfree hDc hS hA
  refine va_calli (vx_runSW (As := [.ref (ad 0), .int p0, .int p1, .int p2, .ref oa]) (rest := []) ⟨hx, hb, hml, hown, hts⟩ (c_Llet l hst E ad tr T p0 p1 p2 X oa g P hc H.size) (vx_cwSW 5 hts TB_inW rfl rfl rfl ll_d ⟨by decide, by decide⟩) ⟨LtP_blind, fun U hU hW => ⟨rfl, by rw [hU], by rw [hU]; exact hPc, va_K.moved hW.alike hK, hDc.weaken (fun _ _ _ _ => trivial), strE_use hE hS hW hU hF, va_AO.moved hW.alike hO, exS_use hXs hS hW hU hF⟩⟩ rfl rfl hl.1 rfl (lv_room (Nat.le_of_ble_eq_true rfl)) dL_law_1297 ⟨hkn.1, hkn.2⟩) hS (fun q _ h => hF q h) hF (fun k1 g' t H1 locs1 ht hvm hp hB hz1 hk1 hS1 => ?_)
  obtain ⟨hP1, hD1⟩ := hB
  rw [ht] at hP1
  obtain ⟨hP2, hD2⟩ := join3 hP0 hD0 hk1 hF hP1 hD1
  rw [List.nil_append, List.append_assoc] at hP2 hD2
  exact kk k1 g' hp H1 locs1 (va_P.swp hP2) (va_D.swp hD2) hS1 ls hl
theorem xfL_l : ∀ s args below meth A Q, XFL E b L xs s args below meth A Q → XFl E b L xs s args below meth A Q := fun _ _ _ _ _ _ h => h.1
theorem lg_cmp_self (x : Int64) : lg_cmp x x = 0 := by simp [lg_cmp]
theorem lcs_33 (hst : l.stackTraces = false) (h' : NX l E RL code 7 (some .boolean) room_1 (XFL E b L xs) G) (hk1 : vp_in (x4 + 1) L) (hk2 : vp_in (x4 + 2) L) (hk3 : vp_in (x4 + 3) L) (hR : Rel X M) (hkn : k + 1 ≤ room_1.cells ∧ n + 6 ≤ room_1.slots) (nxt : ∀ X2 M2 g2, Rel X2 M2 → G 1391 [(4, .int x4), (3, .ref oa), (2, .ref (am 0)), (1, .ref (ad 0)), (0, .ref b)] [] (LW E ad tr T X2 am M2 oa g2, k + 1, n + 6)) : G 1269 [(4, .int x4), (3, .ref oa), (2, .ref (am 0)), (1, .ref (ad 0)), (0, .ref b)] [] (LW E ad tr T X am M oa g, k, n) := by
  have h := nx_mono h' xfL_l
  obtain ⟨P, N, k0, rb, hc, hM, hN0, hRN, hP⟩ : ∃ (P : Int32 → (Nat → Int64) → Prop) (N : Mm) (k0 rb : Int32), ((∃ r, f_P_letter_0 (if xs (x4 + 1).toNatClampNeg = 0 then 0 else 1) (xs (x4 + 2).toNatClampNeg) (xs (x4 + 3).toNatClampNeg) X = some r ∧ ∀ g', g' 0 = r.toInt64 → P 0 g') ∨ (LT (if xs (x4 + 1).toNatClampNeg = 0 then 0 else 1) (xs (x4 + 2).toNatClampNeg) (xs (x4 + 3).toNatClampNeg) X ∧ P 1 g)) ∧ f_M_letter_0 (if xs (x4 + 1).toNatClampNeg = 0 then 0 else 1) (xs (x4 + 2).toNatClampNeg) (xs (x4 + 3).toNatClampNeg) M = some (rb, N) ∧ N.1 0 0 = k0 ∧ Rel X N ∧ ∀ k1 g', P k1 g' → k1 = k0 ∧ (k0 = 0 → g' 0 = rb.toInt64) := by
    rcases R_letter hR (if xs (x4 + 1).toNatClampNeg = 0 then 0 else 1) (xs (x4 + 2).toNatClampNeg) (xs (x4 + 3).toNatClampNeg) with ⟨r, N, h1, h2, h3, h4⟩ | ⟨h1, N, h2, h3, h4⟩
    · exact ⟨fun k1 g' => k1 = 0 ∧ g' 0 = r.toInt64, N, 0, r, Or.inl ⟨r, h1, fun g' e => ⟨rfl, e⟩⟩, h2, h3, h4, fun k1 g' q => ⟨q.1, fun _ => q.2⟩⟩
    · exact ⟨fun k1 _ => k1 = 1, N, 1, 0, Or.inr ⟨h1, rfl⟩, h2, h3, h4, fun k1 g' q => ⟨q, fun e => absurd e (show ¬ (1 : Int32) = 0 by decide)⟩⟩
  refine nx_aload_n h dL_law_1269 3 rfl ?_
  refine nx_aload_n h dL_law_1270 4 rfl ?_
  refine nx_iload h dL_law_1271 0 rfl ?_
  refine nx_iconst h 1 dL_law_1273 rfl ?_
  refine nx_iadd h dL_law_1274 ?_
  refine nx_sld h hk1 dL_law_1275 ?_
  refine nx_bool h dL_law_1276 dL_law_1279 dL_law_1280 dL_law_1283 ?_
  refine nx_aload_n h dL_law_1284 4 rfl ?_
  refine nx_iload h dL_law_1285 0 rfl ?_
  refine nx_iconst h 2 dL_law_1287 rfl ?_
  refine nx_iadd h dL_law_1288 ?_
  refine nx_sld h hk2 dL_law_1289 ?_
  refine nx_aload_n h dL_law_1290 4 rfl ?_
  refine nx_iload h dL_law_1291 0 rfl ?_
  refine nx_iconst h 3 dL_law_1293 rfl ?_
  refine nx_iadd h dL_law_1294 ?_
  refine nx_sld h hk3 dL_law_1295 ?_
  refine nx_aload_n h dL_law_1296 1 rfl ?_
  refine nx_cL hst h' hc hkn (fun k1 g' hp => ?_)
  obtain ⟨rfl, hg⟩ := hP k1 g' hp
  refine nx_istore (lv2 := [(5, .int k1), (4, .int x4), (3, .ref oa), (2, .ref (am 0)), (1, .ref (ad 0)), (0, .ref b)]) h dL_law_1300 (by decide) rfl ?_
  refine nx_aload_n h dL_law_1302 3 rfl ?_
  refine nx_aload_n h dL_law_1303 5 rfl ?_
  refine nx_iload h dL_law_1304 1 rfl ?_
  refine nx_iconst h 1 dL_law_1306 rfl ?_
  refine nx_iadd h dL_law_1307 ?_
  refine nx_sld h hk1 dL_law_1308 ?_
  refine nx_bool h dL_law_1309 dL_law_1312 dL_law_1313 dL_law_1316 ?_
  refine nx_aload_n h dL_law_1317 5 rfl ?_
  refine nx_iload h dL_law_1318 1 rfl ?_
  refine nx_iconst h 2 dL_law_1320 rfl ?_
  refine nx_iadd h dL_law_1321 ?_
  refine nx_sld h hk2 dL_law_1322 ?_
  refine nx_aload_n h dL_law_1323 5 rfl ?_
  refine nx_iload h dL_law_1324 1 rfl ?_
  refine nx_iconst h 3 dL_law_1326 rfl ?_
  refine nx_iadd h dL_law_1327 ?_
  refine nx_sld h hk3 dL_law_1328 ?_
  refine nx_cM h (As := [.int (if xs (x4 + 1).toNatClampNeg = 0 then 0 else 1), .int (xs (x4 + 2).toNatClampNeg), .int (xs (x4 + 3).toNatClampNeg)]) (c_M_letter_0 l (EX E am .null) [] (if xs (x4 + 1).toNatClampNeg = 0 then 0 else 1) (xs (x4 + 2).toNatClampNeg) (xs (x4 + 3).toNatClampNeg) hM) rfl lwv_164 ⟨by decide, by decide⟩ hkn rfl (Nat.le_of_ble_eq_true rfl) dL_law_1329 ?_
  refine nx_istore (lv2 := [(6, .int rb), (5, .int k1), (4, .int x4), (3, .ref oa), (2, .ref (am 0)), (1, .ref (ad 0)), (0, .ref b)]) h dL_law_1332 (by decide) rfl ?_
  refine nx_aload_n h dL_law_1334 4 rfl ?_
  refine nx_cM h (As := []) (c_M_thrown_0 l (EX E am .null) [] (M := N) (r := N.1 0 0) rfl) rfl lwv_165 ⟨by decide, by decide⟩ hkn rfl (Nat.le_of_ble_eq_true rfl) dL_law_1335 ?_
  refine nx_iload h dL_law_1338 1 rfl ?_
  have hend : G 1362 [(6, .int rb), (5, .int k1), (4, .int x4), (3, .ref oa), (2, .ref (am 0)), (1, .ref (ad 0)), (0, .ref b)] [] (LW E ad tr T X am N oa g', k + 1, n + 6) := by
    refine nx_goto h 1391 dL_law_1362 rfl ?_
    exact nx_sub h [2, 3, 4, 5, 6] rfl (nxt X N g' hRN)
  refine nx_icmp_eq h 1345 dL_law_1340 rfl (fun _ => ?_) (fun hc => absurd hN0 hc)
  refine nx_iload h dL_law_1345 1 rfl ?_
  refine nx_if_ne h 1362 dL_law_1347 rfl (fun _ => hend) (fun c0 => ?_)
  refine nx_aload_n h dL_law_1350 3 rfl ?_
  refine nx_iconst h 0 dL_law_1351 rfl ?_
  refine nx_re h (w2 := (wE (SKX ++ T) (EX E ad tr) X ++ wE (SKM ++ []) (EX E am .null) N) ++ [ou E oa g']) (List.append_assoc _ _ _).symm ?_
  refine nx_laldW h (n := 1) (f := g') gl_last ⟨by decide, by decide⟩ dL_law_1352 ?_
  refine nx_re h (w2 := LW E ad tr T X am N oa g') (List.append_assoc _ _ _) ?_
  refine nx_iload h dL_law_1353 0 rfl ?_
  refine nx_i2l h dL_law_1355 ?_
  refine nx_lcmp h dL_law_1356 ?_
  refine nx_if_eq h 1362 dL_law_1357 rfl (fun _ => hend) (fun hne => absurd ?_ hne)
  rw [show g' (Int32.toNatClampNeg 0) = rb.toInt64 from hg c0]
  exact lg_cmp_self _
theorem lcs_26 (h : NX l E RL code 7 (some .boolean) room_1 (XFl E b L xs) G) (hk1 : vp_in (x4 + 1) L) (hk2 : vp_in (x4 + 2) L) (hR : Rel X M) (hT : TrOk T tr ad) (hkn : k + 4 ≤ room_1.cells ∧ n + 13027 ≤ room_1.slots) (nxt : ∀ T2 tr2 an X2 M2, TrOk T2 tr2 an → Rel X2 M2 → G 1391 [(4, .int x4), (3, .ref oa), (2, .ref (am 0)), (1, .ref (an 0)), (0, .ref b)] [] (LW E an tr2 T2 X2 am M2 oa g, k + 4, n + 13027)) : G 1046 [(4, .int x4), (3, .ref oa), (2, .ref (am 0)), (1, .ref (ad 0)), (0, .ref b)] [] (LW E ad tr T X am M oa g, k, n) := by
  have tail : ∀ T2 tr2 an X2 M2 (r : Int32), TrOk T2 tr2 an → f_M_comesAgain_0 (xs (x4 + 1).toNatClampNeg) (xs (x4 + 2).toNatClampNeg) M = some (r, M2) → Rel X2 M2 → G 1062 [(4, .int x4), (3, .ref oa), (2, .ref (am 0)), (1, .ref (an 0)), (0, .ref b)] [.int r] (LW E an tr2 T2 X2 am M oa g, k + 4, n + 13027) := by
    intro T2 tr2 an X2 M2 r hT2 em hR2
    refine nx_aload_n h dL_law_1062 2 rfl ?_
    refine nx_aload_n h dL_law_1063 4 rfl ?_
    refine nx_iload h dL_law_1064 0 rfl ?_
    refine nx_iconst h 1 dL_law_1066 rfl ?_
    refine nx_iadd h dL_law_1067 ?_
    refine nx_sld h hk1 dL_law_1068 ?_
    refine nx_aload_n h dL_law_1069 4 rfl ?_
    refine nx_iload h dL_law_1070 0 rfl ?_
    refine nx_iconst h 2 dL_law_1072 rfl ?_
    refine nx_iadd h dL_law_1073 ?_
    refine nx_sld h hk2 dL_law_1074 ?_
    refine nx_cM h (As := [.int (xs (x4 + 1).toNatClampNeg), .int (xs (x4 + 2).toNatClampNeg)]) (c_M_comesAgain_0 l (EX E am .null) [] (xs (x4 + 1).toNatClampNeg) (xs (x4 + 2).toNatClampNeg) em) rfl lwv_133 ⟨by decide, by decide⟩ hkn rfl (Nat.le_of_ble_eq_true rfl) dL_law_1075 ?_
    exact nx_icmp_eq h 1391 dL_law_1078 rfl (fun _ => nxt _ _ _ _ _ hT2 hR2) (fun hc => absurd rfl hc)
  refine nx_aload_n h dL_law_1046 3 rfl ?_
  refine nx_aload_n h dL_law_1047 4 rfl ?_
  refine nx_iload h dL_law_1048 0 rfl ?_
  refine nx_iconst h 1 dL_law_1050 rfl ?_
  refine nx_iadd h dL_law_1051 ?_
  refine nx_sld h hk1 dL_law_1052 ?_
  refine nx_aload_n h dL_law_1053 4 rfl ?_
  refine nx_iload h dL_law_1054 0 rfl ?_
  refine nx_iconst h 2 dL_law_1056 rfl ?_
  refine nx_iadd h dL_law_1057 ?_
  refine nx_sld h hk2 dL_law_1058 ?_
  rcases hT with ⟨rfl, rfl⟩ | ⟨rfl, rfl⟩
  · have hRz : Rel (Zr X) M := Rel.pap hR (fun q hq => if_neg (by omega)) (fun _ _ _ _ => rfl) rfl
    obtain ⟨r, X2, M2, ex, em, hR2⟩ := R_comesAgain hRz (xs (x4 + 1).toNatClampNeg) (xs (x4 + 2).toNatClampNeg)
    refine nx_re h (w2 := wE (SKX ++ []) (EX E ad .null) (Zr X) ++ (wE (SKM ++ []) (EX E am .null) M ++ [ou E oa g])) rfl ?_
    refine nx_cN (k2 := k + 4) (n2 := n + 13027) (ci := 9) (T := TX9) (N := 13) (q0 := 0) (As := [.int (xs (x4 + 1).toNatClampNeg), .int (xs (x4 + 2).toNatClampNeg)]) h xfl_E (c_P_comesAgain_null l E ad _ _ ex) rfl (skX0 []) rfl rfl lwv_130 ⟨by decide, by decide⟩ rfl rfl hkn rfl (Nat.le_of_ble_eq_true rfl) dL_law_1059 (fun T2 tr2 an hT2 ha => ?_)
    rw [show ad 0 = an 0 from (ha 0 (by decide)).symm]
    exact tail _ _ _ _ _ _ hT2 em hR2
  · obtain ⟨r, X2, M2, ex, em, hR2⟩ := R_comesAgain hR (xs (x4 + 1).toNatClampNeg) (xs (x4 + 2).toNatClampNeg)
    refine nx_cX h (As := [.int (xs (x4 + 1).toNatClampNeg), .int (xs (x4 + 2).toNatClampNeg)]) (c_P_comesAgain_0 l (EX E ad (.ref (ad 103))) [] rfl _ _ ex) rfl lwv_130 ⟨by decide, by decide⟩ ⟨by have := hkn.1; omega, by have := hkn.2; omega⟩ rfl (Nat.le_of_ble_eq_true rfl) dL_law_1059 ?_
    refine nx_widen h (k2 := k + 4) (n2 := n + 13027) (by omega) (by omega) ?_
    exact tail _ _ _ _ _ _ (Or.inr ⟨rfl, rfl⟩) em hR2
end LOOP

theorem lp_le {L i : Nat} (hL : L ≤ 3072) (hi : i ≤ 4000) (h : ¬ (Int32.ofNat L - 6 < nI i)) : i + 6 ≤ L := by
  rw [show Int32.ofNat L = iI (L : Int) from nI_iI L, li 6, iI_sub, nI_iI, iI_lt (by omega) (by omega) (by omega) (by omega)] at h
  omega
theorem nI_k (i : Nat) (k : Nat) : nI i + (OfNat.ofNat k : Int32) = nI (i + k) := by
  rw [li k, nI_iI, iI_add, nI_iI, show ((i : Int) + (k : Int)) = ((i + k : Nat) : Int) by omega]
theorem law_loop {l : Launch} {E : En} {b L : Nat} {xs : Nat → Int32} {G : Nat → List (Nat × Value) → List Value → NW → Prop} (hst : l.stackTraces = false) (hL : L ≤ 3072) (h' : NX l E RL code 7 (some .boolean) room_1 (XFL E b L xs) G) : ∀ (f j : Nat), L + 6 ≤ 6 * j + 6 * f → 6 * j ≤ L → ∀ (ad am : Nat → Nat) (tr : Value) (T : List Sk) (X M : Mm) (oa : Nat) (g : Nat → Int64), TrOk T tr ad → Rel X M → G 23 [(4, .int (nI (6 * j))), (3, .ref oa), (2, .ref (am 0)), (1, .ref (ad 0)), (0, .ref b)] [] (LW E ad tr T X am M oa g, 124 + 1173 * j, 103662 + 14041 * j) := by
  have h := nx_mono h' xfL_l
  intro f
  induction f with
  | zero => intro j h1 h2; omega
  | succ f ih =>
    intro j h1 h2 ad am tr T X M oa g hT hR
    refine nx_iload h dL_law_23 0 rfl ?_
    refine nx_aload_n h dL_law_25 4 rfl ?_
    refine nx_slen h dL_law_26 ?_
    refine nx_bipush h 6 dL_law_27 rfl ?_
    refine nx_isub h dL_law_29 ?_
    refine nx_icmp_gt h 1397 dL_law_30 rfl (fun _ => ?_) (fun hc => ?_)
    · refine nx_iconst h 1 dL_law_1397 rfl ?_
      refine nx_widen h (k2 := 601024) (n2 := 7293034) (by omega) (by omega) ?_
      exact nx_lend h dL_law_1398
    · have hi : 6 * j + 6 ≤ L := lp_le hL (by omega) hc
      have hk0 : vp_in (nI (6 * j)) L := vp_in_nI (by omega) (by omega)
      have hk1 : vp_in (nI (6 * j) + 1) L := by rw [nI_k (6 * j) 1]; exact vp_in_nI (by omega) (by omega)
      have hk2 : vp_in (nI (6 * j) + 2) L := by rw [nI_k (6 * j) 2]; exact vp_in_nI (by omega) (by omega)
      have hk3 : vp_in (nI (6 * j) + 3) L := by rw [nI_k (6 * j) 3]; exact vp_in_nI (by omega) (by omega)
      have hk4 : vp_in (nI (6 * j) + 4) L := by rw [nI_k (6 * j) 4]; exact vp_in_nI (by omega) (by omega)
      have hk5 : vp_in (nI (6 * j) + 5) L := by rw [nI_k (6 * j) 5]; exact vp_in_nI (by omega) (by omega)
      have hkn : 124 + 1173 * j ≤ room_1.cells ∧ 103662 + 14041 * j ≤ room_1.slots := ⟨show _ ≤ 601024 by omega, show _ ≤ 7293034 by omega⟩
      have back : ∀ (ad : Nat → Nat) (tr : Value) (T : List Sk) (X M : Mm) (g : Nat → Int64) (k n : Nat), TrOk T tr ad → Rel X M → k ≤ 124 + 1173 * (j + 1) → n ≤ 103662 + 14041 * (j + 1) → G 1391 [(4, .int (nI (6 * j))), (3, .ref oa), (2, .ref (am 0)), (1, .ref (ad 0)), (0, .ref b)] [] (LW E ad tr T X am M oa g, k, n) := by
        intro ad tr T X M g k n hT hR q1 q2
        refine nx_iinc (lv2 := [(4, .int (nI (6 * j) + 6)), (3, .ref oa), (2, .ref (am 0)), (1, .ref (ad 0)), (0, .ref b)]) h 6 dL_law_1391 rfl 0 rfl (by decide) rfl ?_
        refine nx_goto h 23 dL_law_1394 rfl ?_
        refine nx_widen h q1 q2 ?_
        rw [show nI (6 * j) + 6 = nI (6 * (j + 1)) from nI_k (6 * j) 6]
        exact ih (j + 1) (by omega) (by omega) ad am tr T X M oa g hT hR
      have nxt : ∀ X2 M2, Rel X2 M2 → G 1391 [(4, .int (nI (6 * j))), (3, .ref oa), (2, .ref (am 0)), (1, .ref (ad 0)), (0, .ref b)] [] (LW E ad tr T X2 am M2 oa g, 124 + 1173 * j, 103662 + 14041 * j) := fun X2 M2 hR2 => back ad tr T X2 M2 g _ _ hT hR2 (by omega) (by omega)
      refine nx_aload_n h dL_law_33 4 rfl ?_
      refine nx_iload h dL_law_34 0 rfl ?_
      refine nx_sld h hk0 dL_law_36 ?_
      refine nx_bipush h 63 dL_law_37 rfl ?_
      refine nx_iand h dL_law_39 ?_
      generalize hv : xs (nI (6 * j)).toNatClampNeg &&& 63 = v
      by_cases hz : v.toInt < 0 ∨ 35 < v.toInt
      · exact nx_tableOut h 1391 dL_law_40 hz rfl (nxt X M hR)
      · obtain ⟨z, hz0⟩ : ∃ z, v.toInt = z := ⟨_, rfl⟩
        rw [hz0] at hz
        rcases (show z = 0 ∨ z = 1 ∨ z = 2 ∨ z = 3 ∨ z = 4 ∨ z = 5 ∨ z = 6 ∨ z = 7 ∨ z = 8 ∨ z = 9 ∨ z = 10 ∨ z = 11 ∨ z = 12 ∨ z = 13 ∨ z = 14 ∨ z = 15 ∨ z = 16 ∨ z = 17 ∨ z = 18 ∨ z = 19 ∨ z = 20 ∨ z = 21 ∨ z = 22 ∨ z = 23 ∨ z = 24 ∨ z = 25 ∨ z = 26 ∨ z = 27 ∨ z = 28 ∨ z = 29 ∨ z = 30 ∨ z = 31 ∨ z = 32 ∨ z = 33 ∨ z = 34 ∨ z = 35 by omega) with rfl | rfl | rfl | rfl | rfl | rfl | rfl | rfl | rfl | rfl | rfl | rfl | rfl | rfl | rfl | rfl | rfl | rfl | rfl | rfl | rfl | rfl | rfl | rfl | rfl | rfl | rfl | rfl | rfl | rfl | rfl | rfl | rfl | rfl | rfl | rfl
        · exact nx_tableIn h 200 0 hz0 dL_law_40 (by decide) (by decide) (off := 160) rfl rfl (lcs_0 h hk1 hk2 hk3 hk4 hk5 hR hkn nxt)
        · exact nx_tableIn h 273 1 hz0 dL_law_40 (by decide) (by decide) (off := 233) rfl rfl (lcs_1 h hk1 hk2 hk3 hk4 hk5 hR hkn nxt)
        · exact nx_tableIn h 298 2 hz0 dL_law_40 (by decide) (by decide) (off := 258) rfl rfl (lcs_2 h hk1 hk2 hk3 hk4 hk5 hR hkn nxt)
        · exact nx_tableIn h 311 3 hz0 dL_law_40 (by decide) (by decide) (off := 271) rfl rfl (lcs_3 h hk1 hk2 hk3 hk4 hk5 hR hkn nxt)
        · exact nx_tableIn h 324 4 hz0 dL_law_40 (by decide) (by decide) (off := 284) rfl rfl (lcs_4 h hk1 hk2 hk3 hk4 hk5 hR hkn nxt)
        · exact nx_tableIn h 349 5 hz0 dL_law_40 (by decide) (by decide) (off := 309) rfl rfl (lcs_5 h hk1 hk2 hk3 hk4 hk5 hR hkn nxt)
        · exact nx_tableIn h 386 6 hz0 dL_law_40 (by decide) (by decide) (off := 346) rfl rfl (lcs_6 h hk1 hk2 hk3 hk4 hk5 hR hkn nxt)
        · exact nx_tableIn h 423 7 hz0 dL_law_40 (by decide) (by decide) (off := 383) rfl rfl (lcs_7 h hk1 hk2 hk3 hk4 hk5 hR hkn nxt)
        · exact nx_tableIn h 460 8 hz0 dL_law_40 (by decide) (by decide) (off := 420) rfl rfl (lcs_8 h hk1 hk2 hk3 hk4 hk5 hR hkn nxt)
        · exact nx_tableIn h 509 9 hz0 dL_law_40 (by decide) (by decide) (off := 469) rfl rfl (lcs_9 h hk1 hk2 hk3 hk4 hk5 hR hkn nxt)
        · exact nx_tableIn h 550 10 hz0 dL_law_40 (by decide) (by decide) (off := 510) rfl rfl (lcs_10 h hk1 hk2 hk3 hk4 hk5 hR hkn nxt)
        · exact nx_tableIn h 575 11 hz0 dL_law_40 (by decide) (by decide) (off := 535) rfl rfl (lcs_11 h hk1 hk2 hk3 hk4 hk5 hR hkn nxt)
        · exact nx_tableIn h 612 12 hz0 dL_law_40 (by decide) (by decide) (off := 572) rfl rfl (lcs_12 h hk1 hk2 hk3 hk4 hk5 hR hkn nxt)
        · exact nx_tableIn h 649 13 hz0 dL_law_40 (by decide) (by decide) (off := 609) rfl rfl (lcs_13 h hk1 hk2 hk3 hk4 hk5 hR hkn nxt)
        · exact nx_tableIn h 686 14 hz0 dL_law_40 (by decide) (by decide) (off := 646) rfl rfl (lcs_14 h hk1 hk2 hk3 hk4 hk5 hR hkn nxt)
        · exact nx_tableIn h 711 15 hz0 dL_law_40 (by decide) (by decide) (off := 671) rfl rfl (lcs_15 h hk1 hk2 hk3 hk4 hk5 hR hkn nxt)
        · exact nx_tableIn h 736 16 hz0 dL_law_40 (by decide) (by decide) (off := 696) rfl rfl (lcs_16 h hk1 hk2 hk3 hk4 hk5 hR hkn nxt)
        · exact nx_tableIn h 761 17 hz0 dL_law_40 (by decide) (by decide) (off := 721) rfl rfl (lcs_17 h hk1 hk2 hk3 hk4 hk5 hR hkn nxt)
        · exact nx_tableIn h 786 18 hz0 dL_law_40 (by decide) (by decide) (off := 746) rfl rfl (lcs_18 h hk1 hk2 hk3 hk4 hk5 hR hkn nxt)
        · exact nx_tableIn h 799 19 hz0 dL_law_40 (by decide) (by decide) (off := 759) rfl rfl (lcs_19 h hk1 hk2 hk3 hk4 hk5 hR hkn nxt)
        · exact nx_tableIn h 824 20 hz0 dL_law_40 (by decide) (by decide) (off := 784) rfl rfl (lcs_20 h hk1 hk2 hk3 hk4 hk5 hR hkn nxt)
        · exact nx_tableIn h 885 21 hz0 dL_law_40 (by decide) (by decide) (off := 845) rfl rfl (lcs_21 h hk1 hk2 hk3 hk4 hk5 hR hkn nxt)
        · exact nx_tableIn h 922 22 hz0 dL_law_40 (by decide) (by decide) (off := 882) rfl rfl (lcs_22 h hk1 hk2 hk3 hk4 hk5 hR hkn nxt)
        · exact nx_tableIn h 947 23 hz0 dL_law_40 (by decide) (by decide) (off := 907) rfl rfl (lcs_23 h hk1 hk2 hk3 hk4 hk5 hR hkn nxt)
        · exact nx_tableIn h 996 24 hz0 dL_law_40 (by decide) (by decide) (off := 956) rfl rfl (lcs_24 h hk1 hk2 hk3 hk4 hk5 hR hkn nxt)
        · exact nx_tableIn h 1021 25 hz0 dL_law_40 (by decide) (by decide) (off := 981) rfl rfl (lcs_25 h hk1 hk2 hk3 hk4 hk5 hR hkn nxt)
        · exact nx_tableIn h 1046 26 hz0 dL_law_40 (by decide) (by decide) (off := 1006) rfl rfl (lcs_26 h hk1 hk2 hR hT ⟨show _ ≤ 601024 by omega, show _ ≤ 7293034 by omega⟩ (fun T2 tr2 an X2 M2 hT2 hR2 => back an tr2 T2 X2 M2 g _ _ hT2 hR2 (by omega) (by omega)))
        · exact nx_tableIn h 1083 27 hz0 dL_law_40 (by decide) (by decide) (off := 1043) rfl rfl (lcs_27 h hk1 hk2 hk3 hk4 hk5 hR hkn nxt)
        · exact nx_tableIn h 1132 28 hz0 dL_law_40 (by decide) (by decide) (off := 1092) rfl rfl (lcs_28 h hk1 hk2 hk3 hk4 hk5 hR hkn nxt)
        · exact nx_tableIn h 1181 29 hz0 dL_law_40 (by decide) (by decide) (off := 1141) rfl rfl (lcs_29 h hk1 hk2 hk3 hk4 hk5 hR hkn nxt)
        · exact nx_tableIn h 1206 30 hz0 dL_law_40 (by decide) (by decide) (off := 1166) rfl rfl (lcs_30 h hk1 hk2 hk3 hk4 hk5 hR hkn nxt)
        · exact nx_tableIn h 1219 31 hz0 dL_law_40 (by decide) (by decide) (off := 1179) rfl rfl (lcs_31 h hk1 hk2 hk3 hk4 hk5 hR hkn nxt)
        · exact nx_tableIn h 1244 32 hz0 dL_law_40 (by decide) (by decide) (off := 1204) rfl rfl (lcs_32 h hk1 hk2 hk3 hk4 hk5 hR hkn nxt)
        · exact nx_tableIn h 1269 33 hz0 dL_law_40 (by decide) (by decide) (off := 1229) rfl rfl (lcs_33 hst h' hk1 hk2 hk3 hR ⟨show _ ≤ 601024 by omega, show _ ≤ 7293034 by omega⟩ (fun X2 M2 g2 hR2 => back ad tr T X2 M2 g2 _ _ hT hR2 (by omega) (by omega)))
        · exact nx_tableIn h 1365 34 hz0 dL_law_40 (by decide) (by decide) (off := 1325) rfl rfl (lcs_34 h hk1 hk2 hk3 hk4 hk5 hR hkn nxt)
        · exact nx_tableIn h 1378 35 hz0 dL_law_40 (by decide) (by decide) (off := 1338) rfl rfl (lcs_35 h hk1 hk2 hk3 hk4 hk5 hR hkn nxt)

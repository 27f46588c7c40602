set_option maxHeartbeats 4000000 in
set_option maxRecDepth 100000 in
theorem c_M_about_0 (l : Launch) (E : En) (T : List Sk) (p0 : Int32) {M M' : Mm} {r : Int32} (h : f_M_about_0 p0 M = some (r, M')) : Ct l (SKM ++ T) E yX10_about cX10_about 2 (some .int) 3 67 [.ref (adr E 0), .int p0] M (some (.int r)) M' := by
  refine ct_of (by decide) (Nat.le_of_ble_eq_true rfl) ?_
  intro G hG
  show G 0 [(0, .ref (adr E 0)), (1, .int p0)] [] M
  have hf := h
  unfold f_M_about_0 at hf
  refine rx_aload_n hG dX10_about_0 0 rfl ?_
  refine rx_iconst hG 0 dX10_about_1 ic_0 ?_
  obtain ⟨M1, hM1, hf⟩ := bindE hf
  refine pfM_M_74_0 l E T hG hM1 dX10_about_2 ?_
  refine rx_aload_n hG dX10_about_5 0 rfl ?_
  refine gfM_M_257_0 l E T hG dX10_about_6 ?_
  refine rx_if_ne hG 18 dX10_about_9 rfl (fun c2 => ?_) (fun c2 => ?_)
  · have hf := ifF hf c2
    refine rx_iload_n hG dX10_about_18 1 rfl ?_
    by_cases c3 : p0 = 0
    · have hf := ifT hf c3
      refine rx_tableIn hG 64 0 (by rw [c3]; rfl) dX10_about_19 (by decide) (by decide) rfl rfl ?_
      refine rx_aload_n hG dX10_about_64 0 rfl ?_
      refine rx_aload_n hG dX10_about_65 0 rfl ?_
      refine gfM_M_248_0 l E T hG dX10_about_66 ?_
      obtain ⟨q4, hq4, hf⟩ := bindE hf
      refine rx_cVi hG (c_M_good_0 l E T (M1.1 0 22) hq4) (skM0 T) rfl rfl kw_M_245 ⟨Nat.le_of_ble_eq_true rfl, Nat.le_of_ble_eq_true rfl⟩ rfl (Nat.le_of_ble_eq_true rfl) dX10_about_69 ?_
      cases hf
      exact rx_iret hG dX10_about_72
    have hf := ifF hf c3
    by_cases c5 : p0 = 1
    · have hf := ifT hf c5
      refine rx_tableIn hG 73 1 (by rw [c5]; rfl) dX10_about_19 (by decide) (by decide) rfl rfl ?_
      refine rx_aload_n hG dX10_about_73 0 rfl ?_
      refine rx_aload_n hG dX10_about_74 0 rfl ?_
      refine gfM_M_242_0 l E T hG dX10_about_75 ?_
      obtain ⟨q6, hq6, hf⟩ := bindE hf
      refine rx_cVi hG (c_M_good_0 l E T (M1.1 0 23) hq6) (skM0 T) rfl rfl kw_M_245 ⟨Nat.le_of_ble_eq_true rfl, Nat.le_of_ble_eq_true rfl⟩ rfl (Nat.le_of_ble_eq_true rfl) dX10_about_78 ?_
      cases hf
      exact rx_iret hG dX10_about_81
    have hf := ifF hf c5
    by_cases c7 : p0 = 2
    · have hf := ifT hf c7
      refine rx_tableIn hG 82 2 (by rw [c7]; rfl) dX10_about_19 (by decide) (by decide) rfl rfl ?_
      refine rx_aload_n hG dX10_about_82 0 rfl ?_
      refine rx_aload_n hG dX10_about_83 0 rfl ?_
      refine gfM_M_251_0 l E T hG dX10_about_84 ?_
      obtain ⟨q8, hq8, hf⟩ := bindE hf
      refine rx_cVi hG (c_M_good_0 l E T (M1.1 0 24) hq8) (skM0 T) rfl rfl kw_M_245 ⟨Nat.le_of_ble_eq_true rfl, Nat.le_of_ble_eq_true rfl⟩ rfl (Nat.le_of_ble_eq_true rfl) dX10_about_87 ?_
      cases hf
      exact rx_iret hG dX10_about_90
    have hf := ifF hf c7
    by_cases c9 : p0 = 3
    · have hf := ifT hf c9
      refine rx_tableIn hG 91 3 (by rw [c9]; rfl) dX10_about_19 (by decide) (by decide) rfl rfl ?_
      refine rx_aload_n hG dX10_about_91 0 rfl ?_
      refine rx_aload_n hG dX10_about_92 0 rfl ?_
      refine gfM_M_42_0 l E T hG dX10_about_93 ?_
      refine rx_bipush hG 36 dX10_about_96 bp_36 ?_
      obtain ⟨v10, hv10, hf⟩ := bindE hf
      refine rx_iald hG (skM10 T) hv10 dX10_about_98 ?_
      obtain ⟨q11, hq11, hf⟩ := bindE hf
      refine rx_cVi hG (c_M_good_0 l E T v10 hq11) (skM0 T) rfl rfl kw_M_245 ⟨Nat.le_of_ble_eq_true rfl, Nat.le_of_ble_eq_true rfl⟩ rfl (Nat.le_of_ble_eq_true rfl) dX10_about_99 ?_
      cases hf
      exact rx_iret hG dX10_about_102
    have hf := ifF hf c9
    by_cases c12 : p0 = 4
    · have hf := ifT hf c12
      refine rx_tableIn hG 103 4 (by rw [c12]; rfl) dX10_about_19 (by decide) (by decide) rfl rfl ?_
      refine rx_aload_n hG dX10_about_103 0 rfl ?_
      refine rx_aload_n hG dX10_about_104 0 rfl ?_
      refine gfM_M_57_0 l E T hG dX10_about_105 ?_
      refine rx_iconst hG 0 dX10_about_108 ic_0 ?_
      obtain ⟨v13, hv13, hf⟩ := bindE hf
      refine rx_iald hG (skM15 T) hv13 dX10_about_109 ?_
      obtain ⟨q14, hq14, hf⟩ := bindE hf
      refine rx_cVi hG (c_M_good_0 l E T v13 hq14) (skM0 T) rfl rfl kw_M_245 ⟨Nat.le_of_ble_eq_true rfl, Nat.le_of_ble_eq_true rfl⟩ rfl (Nat.le_of_ble_eq_true rfl) dX10_about_110 ?_
      cases hf
      exact rx_iret hG dX10_about_113
    have hf := ifF hf c12
    by_cases c15 : p0 = 5
    · have hf := ifT hf c15
      refine rx_tableIn hG 114 5 (by rw [c15]; rfl) dX10_about_19 (by decide) (by decide) rfl rfl ?_
      refine rx_aload_n hG dX10_about_114 0 rfl ?_
      refine rx_aload_n hG dX10_about_115 0 rfl ?_
      obtain ⟨v16, hv16, hf⟩ := bindE hf
      refine rx_cVi hG (c_M_toldCards_0 l E T  hv16) (skM0 T) rfl rfl kw_M_310 ⟨Nat.le_of_ble_eq_true rfl, Nat.le_of_ble_eq_true rfl⟩ rfl (Nat.le_of_ble_eq_true rfl) dX10_about_116 ?_
      obtain ⟨q17, hq17, hf⟩ := bindE hf
      refine rx_cVi hG (c_M_good_0 l E T v16 hq17) (skM0 T) rfl rfl kw_M_245 ⟨Nat.le_of_ble_eq_true rfl, Nat.le_of_ble_eq_true rfl⟩ rfl (Nat.le_of_ble_eq_true rfl) dX10_about_119 ?_
      cases hf
      exact rx_iret hG dX10_about_122
    have hf := ifF hf c15
    by_cases c18 : p0 = 6
    · have hf := ifT hf c18
      refine rx_tableIn hG 123 6 (by rw [c18]; rfl) dX10_about_19 (by decide) (by decide) rfl rfl ?_
      refine rx_aload_n hG dX10_about_123 0 rfl ?_
      refine rx_aload_n hG dX10_about_124 0 rfl ?_
      obtain ⟨v19, hv19, hf⟩ := bindE hf
      refine rx_cVi hG (c_M_heldCards_0 l E T  hv19) (skM0 T) rfl rfl kw_M_313 ⟨Nat.le_of_ble_eq_true rfl, Nat.le_of_ble_eq_true rfl⟩ rfl (Nat.le_of_ble_eq_true rfl) dX10_about_125 ?_
      obtain ⟨q20, hq20, hf⟩ := bindE hf
      refine rx_cVi hG (c_M_good_0 l E T v19 hq20) (skM0 T) rfl rfl kw_M_245 ⟨Nat.le_of_ble_eq_true rfl, Nat.le_of_ble_eq_true rfl⟩ rfl (Nat.le_of_ble_eq_true rfl) dX10_about_128 ?_
      cases hf
      exact rx_iret hG dX10_about_131
    have hf := ifF hf c18
    by_cases c21 : p0 = 7
    · have hf := ifT hf c21
      refine rx_tableIn hG 132 7 (by rw [c21]; rfl) dX10_about_19 (by decide) (by decide) rfl rfl ?_
      refine rx_aload_n hG dX10_about_132 0 rfl ?_
      refine rx_aload_n hG dX10_about_133 0 rfl ?_
      refine gfM_M_254_0 l E T hG dX10_about_134 ?_
      obtain ⟨q22, hq22, hf⟩ := bindE hf
      refine rx_cVi hG (c_M_good_0 l E T (M1.1 0 35) hq22) (skM0 T) rfl rfl kw_M_245 ⟨Nat.le_of_ble_eq_true rfl, Nat.le_of_ble_eq_true rfl⟩ rfl (Nat.le_of_ble_eq_true rfl) dX10_about_137 ?_
      cases hf
      exact rx_iret hG dX10_about_140
    have hf := ifF hf c21
    refine rx_tableOut hG 141 dX10_about_19 (by have := tiN c3 (z := 0) rfl; have := tiN c5 (z := 1) rfl; have := tiN c7 (z := 2) rfl; have := tiN c9 (z := 3) rfl; have := tiN c12 (z := 4) rfl; have := tiN c15 (z := 5) rfl; have := tiN c18 (z := 6) rfl; have := tiN c21 (z := 7) rfl; omega) rfl ?_
    refine rx_aload_n hG dX10_about_141 0 rfl ?_
    refine rx_iconst hG 1 dX10_about_142 ic_1 ?_
    obtain ⟨q23, hq23, hf⟩ := bindE hf
    refine rx_cVi hG (c_M_refused_0 l E T 1 hq23) (skM0 T) rfl rfl kw_M_232 ⟨Nat.le_of_ble_eq_true rfl, Nat.le_of_ble_eq_true rfl⟩ rfl (Nat.le_of_ble_eq_true rfl) dX10_about_143 ?_
    cases hf
    exact rx_iret hG dX10_about_146
  · have hf := ifT hf c2
    refine rx_aload_n hG dX10_about_12 0 rfl ?_
    refine rx_iconst hG 1 dX10_about_13 ic_1 ?_
    obtain ⟨q24, hq24, hf⟩ := bindE hf
    refine rx_cVi hG (c_M_refused_0 l E T 1 hq24) (skM0 T) rfl rfl kw_M_232 ⟨Nat.le_of_ble_eq_true rfl, Nat.le_of_ble_eq_true rfl⟩ rfl (Nat.le_of_ble_eq_true rfl) dX10_about_14 ?_
    cases hf
    exact rx_iret hG dX10_about_17
set_option maxHeartbeats 4000000 in
set_option maxRecDepth 100000 in
theorem c_M_isBench_0 (l : Launch) (E : En) (T : List Sk) (p0 : Int32) {M : Mm} {r : Int32} (h : f_M_isBench_0 p0 M = some r) : Ct l (SKM ++ T) E yX10_isBench cX10_isBench 2 (some .boolean) 1 22 [.ref (adr E 0), .int p0] M (some (.int r)) M := by
  refine ct_of (by decide) (Nat.le_of_ble_eq_true rfl) ?_
  intro G hG
  show G 0 [(0, .ref (adr E 0)), (1, .int p0)] [] M
  have hf := h
  unfold f_M_isBench_0 at hf
  refine rx_aload_n hG dX10_isBench_0 0 rfl ?_
  refine gfM_M_257_0 l E T hG dX10_isBench_1 ?_
  refine rx_if_eq hG 25 dX10_isBench_4 rfl (fun c1 => ?_) (fun c1 => ?_)
  · have hf := ifT hf c1
    refine rx_iconst hG 0 dX10_isBench_25 ic_0 ?_
    cases hf
    exact rx_zret hG zr0 dX10_isBench_26
  · have hf := ifF hf c1
    refine rx_iload_n hG dX10_isBench_7 1 rfl ?_
    refine rx_iconst hG 0 dX10_isBench_8 ic_0 ?_
    refine rx_aload_n hG dX10_isBench_9 0 rfl ?_
    refine gfM_M_242_0 l E T hG dX10_isBench_10 ?_
    refine rx_iconst hG 1 dX10_isBench_13 ic_1 ?_
    refine rx_isub hG dX10_isBench_14 ?_
    obtain ⟨v2, hv2, hf⟩ := bindE hf
    refine rx_cSi hG (c_M_in l E (SKM ++ T) p0 0 ((M.1 0 23) - 1) hv2) kw_M_95 ⟨Nat.le_of_ble_eq_true rfl, Nat.le_of_ble_eq_true rfl⟩ rfl (Nat.le_of_ble_eq_true rfl) dX10_isBench_15 ?_
    refine rx_if_eq hG 25 dX10_isBench_18 rfl (fun c3 => ?_) (fun c3 => ?_)
    · have hf := ifT hf c3
      refine rx_iconst hG 0 dX10_isBench_25 ic_0 ?_
      cases hf
      exact rx_zret hG zr0 dX10_isBench_26
    · have hf := ifF hf c3
      refine rx_iconst hG 1 dX10_isBench_21 ic_1 ?_
      refine rx_goto hG 26 dX10_isBench_22 rfl ?_
      cases hf
      exact rx_zret hG zr1 dX10_isBench_26
set_option maxHeartbeats 4000000 in
set_option maxRecDepth 100000 in
theorem Lj_M_bench_0_65 (l : Launch) (E : En) (T : List Sk) {a0 b0 kc ks : Nat} {r : Int32} {M' : Mm} {G : Nat → List (Nat × Value) → List Value → Mm → Prop} (hG : RX l (SKM ++ T) E RX10 cX10_bench 5 (some .int) { frames := 2, cells := a0, slots := b0, locals := 43 } kc ks (some (.int r)) M' G)  : ∀ (x1 : Int32) (x2 : Int32) (x3 : Int32) (M : Mm), j_M_bench_0_65  x1 x2 x3 M = some (r, M') → G 65 [(0, .ref (adr E 0)), (1, .int x1), (2, .int x2), (3, .int x3)] [] M := by
  intro x1 x2 x3 M hf
  unfold j_M_bench_0_65 at hf
  refine rx_aload_n hG dX10_bench_65 0 rfl ?_
  refine rx_iload_n hG dX10_bench_66 2 rfl ?_
  refine rx_if_ne hG 79 dX10_bench_67 rfl (fun c1 => ?_) (fun c1 => ?_)
  · have hf := ifF hf c1
    refine rx_iload_n hG dX10_bench_79 2 rfl ?_
    refine rx_iconst hG 1 dX10_bench_80 ic_1 ?_
    refine rx_icmp_ne hG 93 dX10_bench_81 rfl (fun c2 => ?_) (fun c2 => ?_)
    · have hf := ifF hf c2
      refine rx_iload_n hG dX10_bench_93 2 rfl ?_
      refine rx_iconst hG 2 dX10_bench_94 ic_2 ?_
      refine rx_icmp_ne hG 107 dX10_bench_95 rfl (fun c3 => ?_) (fun c3 => ?_)
      · have hf := ifF hf c3
        refine rx_iload_n hG dX10_bench_107 3 rfl ?_
        obtain ⟨q4, hq4, hf⟩ := bindE hf
        refine rx_cVi hG (c_M_good_0 l E T x3 hq4) (skM0 T) rfl rfl kw_M_245 ⟨Nat.le_of_ble_eq_true rfl, Nat.le_of_ble_eq_true rfl⟩ rfl (Nat.le_of_ble_eq_true rfl) dX10_bench_108 ?_
        cases hf
        exact rx_iret hG dX10_bench_111
      · have hf := ifT hf c3
        refine rx_aload_n hG dX10_bench_98 0 rfl ?_
        refine gfM_M_30_0 l E T hG dX10_bench_99 ?_
        refine rx_iload_n hG dX10_bench_102 1 rfl ?_
        obtain ⟨v5, hv5, hf⟩ := bindE hf
        refine rx_iald hG (skM6 T) hv5 dX10_bench_103 ?_
        refine rx_goto hG 108 dX10_bench_104 rfl ?_
        obtain ⟨q6, hq6, hf⟩ := bindE hf
        refine rx_cVi hG (c_M_good_0 l E T v5 hq6) (skM0 T) rfl rfl kw_M_245 ⟨Nat.le_of_ble_eq_true rfl, Nat.le_of_ble_eq_true rfl⟩ rfl (Nat.le_of_ble_eq_true rfl) dX10_bench_108 ?_
        cases hf
        exact rx_iret hG dX10_bench_111
    · have hf := ifT hf c2
      refine rx_aload_n hG dX10_bench_84 0 rfl ?_
      refine gfM_M_27_0 l E T hG dX10_bench_85 ?_
      refine rx_iload_n hG dX10_bench_88 1 rfl ?_
      obtain ⟨v7, hv7, hf⟩ := bindE hf
      refine rx_iald hG (skM5 T) hv7 dX10_bench_89 ?_
      refine rx_goto hG 108 dX10_bench_90 rfl ?_
      obtain ⟨q8, hq8, hf⟩ := bindE hf
      refine rx_cVi hG (c_M_good_0 l E T v7 hq8) (skM0 T) rfl rfl kw_M_245 ⟨Nat.le_of_ble_eq_true rfl, Nat.le_of_ble_eq_true rfl⟩ rfl (Nat.le_of_ble_eq_true rfl) dX10_bench_108 ?_
      cases hf
      exact rx_iret hG dX10_bench_111
  · have hf := ifT hf c1
    refine rx_aload_n hG dX10_bench_70 0 rfl ?_
    refine gfM_M_24_0 l E T hG dX10_bench_71 ?_
    refine rx_iload_n hG dX10_bench_74 1 rfl ?_
    obtain ⟨v9, hv9, hf⟩ := bindE hf
    refine rx_iald hG (skM4 T) hv9 dX10_bench_75 ?_
    refine rx_goto hG 108 dX10_bench_76 rfl ?_
    obtain ⟨q10, hq10, hf⟩ := bindE hf
    refine rx_cVi hG (c_M_good_0 l E T v9 hq10) (skM0 T) rfl rfl kw_M_245 ⟨Nat.le_of_ble_eq_true rfl, Nat.le_of_ble_eq_true rfl⟩ rfl (Nat.le_of_ble_eq_true rfl) dX10_bench_108 ?_
    cases hf
    exact rx_iret hG dX10_bench_111
set_option maxHeartbeats 4000000 in
set_option maxRecDepth 100000 in
theorem Lblp_M_bench_0_33 (l : Launch) (E : En) (T : List Sk) {a0 b0 kc ks : Nat} {r : Int32} {M' : Mm} {G : Nat → List (Nat × Value) → List Value → Mm → Prop} (hG : RX l (SKM ++ T) E RX10 cX10_bench 5 (some .int) { frames := 2, cells := a0, slots := b0, locals := 43 } kc ks (some (.int r)) M' G) (rc33 : Int32 → Int32 → Int32 → Int32 → Mm → Option (Int32 × Mm)) (hrc33 : ∀ (x1 : Int32) (x2 : Int32) (x3 : Int32) (x4 : Int32) (M : Mm), rc33 x1 x2 x3 x4 M = some (r, M') → G 33 [(0, .ref (adr E 0)), (1, .int x1), (2, .int x2), (3, .int x3), (4, .int x4)] [] M) : ∀ (x1 : Int32) (x2 : Int32) (x3 : Int32) (x4 : Int32) (M : Mm), blp_M_bench_0_33 rc33 x1 x2 x3 x4 M = some (r, M') → G 33 [(0, .ref (adr E 0)), (1, .int x1), (2, .int x2), (3, .int x3), (4, .int x4)] [] M := by
  intro x1 x2 x3 x4 M hf
  unfold blp_M_bench_0_33 at hf
  refine rx_iload hG dX10_bench_33 4 rfl ?_
  refine rx_aload_n hG dX10_bench_35 0 rfl ?_
  refine gfM_M_248_0 l E T hG dX10_bench_36 ?_
  refine rx_icmp_ge hG 65 dX10_bench_39 rfl (fun c1 => ?_) (fun c1 => ?_)
  · have hf := ifT hf c1
    refine rx_sub hG [0, 1, 2, 3] (lv' := [(0, .ref (adr E 0)), (1, .int x1), (2, .int x2), (3, .int x3)]) rfl ?_
    exact Lj_M_bench_0_65 l E T hG  x1 x2 x3 M hf
  · have hf := ifF hf c1
    refine rx_iload_n hG dX10_bench_42 3 rfl ?_
    refine rx_aload_n hG dX10_bench_43 0 rfl ?_
    refine gfM_M_42_0 l E T hG dX10_bench_44 ?_
    refine rx_bipush hG 18 dX10_bench_47 bp_18 ?_
    refine rx_iconst hG 3 dX10_bench_49 ic_3 ?_
    refine rx_iload_n hG dX10_bench_50 1 rfl ?_
    refine rx_imul hG dX10_bench_51 ?_
    refine rx_iadd hG dX10_bench_52 ?_
    refine rx_iload hG dX10_bench_53 4 rfl ?_
    refine rx_iadd hG dX10_bench_55 ?_
    obtain ⟨v2, hv2, hf⟩ := bindE hf
    refine rx_iald hG (skM10 T) hv2 dX10_bench_56 ?_
    refine rx_iadd hG dX10_bench_57 ?_
    refine rx_istore_n (lv2 := [(3, .int (x3 + v2)), (0, .ref (adr E 0)), (1, .int x1), (2, .int x2), (4, .int x4)]) hG dX10_bench_58 (Nat.le_of_ble_eq_true rfl) rfl ?_
    refine rx_iinc (lv2 := [(4, .int (x4 + 1)), (3, .int (x3 + v2)), (0, .ref (adr E 0)), (1, .int x1), (2, .int x2)]) hG 1 dX10_bench_59 ic_1 4 rfl (Nat.le_of_ble_eq_true rfl) rfl ?_
    refine rx_goto hG 33 dX10_bench_62 rfl ?_
    refine rx_sub hG [2, 3, 4, 1, 0] (lv' := [(0, .ref (adr E 0)), (1, .int x1), (2, .int x2), (3, .int (x3 + v2)), (4, .int (x4 + 1))]) rfl ?_
    exact hrc33 x1 x2 (x3 + v2) (x4 + 1) M hf
theorem Llp_M_bench_0_33 (l : Launch) (E : En) (T : List Sk) {a0 b0 kc ks : Nat} {r : Int32} {M' : Mm} {G : Nat → List (Nat × Value) → List Value → Mm → Prop} (hG : RX l (SKM ++ T) E RX10 cX10_bench 5 (some .int) { frames := 2, cells := a0, slots := b0, locals := 43 } kc ks (some (.int r)) M' G)  : ∀ (n : Nat) (x1 : Int32) (x2 : Int32) (x3 : Int32) (x4 : Int32) (M : Mm), lp_M_bench_0_33  n x1 x2 x3 x4 M = some (r, M') → G 33 [(0, .ref (adr E 0)), (1, .int x1), (2, .int x2), (3, .int x3), (4, .int x4)] [] M := by
  intro n
  induction n with
  | zero => intro x1 x2 x3 x4 M hf; cases hf
  | succ n ih => intro x1 x2 x3 x4 M hf; exact Lblp_M_bench_0_33 l E T hG  (lp_M_bench_0_33  n) ih x1 x2 x3 x4 M hf
set_option maxHeartbeats 4000000 in
set_option maxRecDepth 100000 in
theorem c_M_bench_0 (l : Launch) (E : En) (T : List Sk) (p0 : Int32) (p1 : Int32) {M M' : Mm} {r : Int32} (h : f_M_bench_0 p0 p1 M = some (r, M')) : Ct l (SKM ++ T) E yX10_bench cX10_bench 5 (some .int) 2 43 [.ref (adr E 0), .int p0, .int p1] M (some (.int r)) M' := by
  refine ct_of (by decide) (Nat.le_of_ble_eq_true rfl) ?_
  intro G hG
  show G 0 [(0, .ref (adr E 0)), (1, .int p0), (2, .int p1)] [] M
  have hf := h
  unfold f_M_bench_0 at hf
  refine rx_aload_n hG dX10_bench_0 0 rfl ?_
  refine rx_iconst hG 0 dX10_bench_1 ic_0 ?_
  obtain ⟨M1, hM1, hf⟩ := bindE hf
  refine pfM_M_74_0 l E T hG hM1 dX10_bench_2 ?_
  refine rx_aload_n hG dX10_bench_5 0 rfl ?_
  refine rx_iload_n hG dX10_bench_6 1 rfl ?_
  obtain ⟨v2, hv2, hf⟩ := bindE hf
  refine rx_cVi hG (c_M_isBench_0 l E T p0 hv2) (skM0 T) rfl rfl kw_M_316 ⟨Nat.le_of_ble_eq_true rfl, Nat.le_of_ble_eq_true rfl⟩ rfl (Nat.le_of_ble_eq_true rfl) dX10_bench_7 ?_
  refine rx_if_eq hG 22 dX10_bench_10 rfl (fun c3 => ?_) (fun c3 => ?_)
  · have hf := ifT hf c3
    refine rx_aload_n hG dX10_bench_22 0 rfl ?_
    refine rx_iconst hG 1 dX10_bench_23 ic_1 ?_
    obtain ⟨q4, hq4, hf⟩ := bindE hf
    refine rx_cVi hG (c_M_refused_0 l E T 1 hq4) (skM0 T) rfl rfl kw_M_232 ⟨Nat.le_of_ble_eq_true rfl, Nat.le_of_ble_eq_true rfl⟩ rfl (Nat.le_of_ble_eq_true rfl) dX10_bench_24 ?_
    cases hf
    exact rx_iret hG dX10_bench_27
  · have hf := ifF hf c3
    refine rx_iload_n hG dX10_bench_13 2 rfl ?_
    refine rx_iconst hG 0 dX10_bench_14 ic_0 ?_
    refine rx_iconst hG 3 dX10_bench_15 ic_3 ?_
    obtain ⟨v5, hv5, hf⟩ := bindE hf
    refine rx_cSi hG (c_M_in l E (SKM ++ T) p1 0 3 hv5) kw_M_95 ⟨Nat.le_of_ble_eq_true rfl, Nat.le_of_ble_eq_true rfl⟩ rfl (Nat.le_of_ble_eq_true rfl) dX10_bench_16 ?_
    refine rx_if_ne hG 28 dX10_bench_19 rfl (fun c6 => ?_) (fun c6 => ?_)
    · have hf := ifF hf c6
      refine rx_iconst hG 0 dX10_bench_28 ic_0 ?_
      refine rx_istore_n (lv2 := [(3, .int 0), (0, .ref (adr E 0)), (1, .int p0), (2, .int p1)]) hG dX10_bench_29 (Nat.le_of_ble_eq_true rfl) rfl ?_
      refine rx_iconst hG 0 dX10_bench_30 ic_0 ?_
      refine rx_istore (lv2 := [(4, .int 0), (3, .int 0), (0, .ref (adr E 0)), (1, .int p0), (2, .int p1)]) hG dX10_bench_31 (Nat.le_of_ble_eq_true rfl) rfl ?_
      refine rx_sub hG [2, 3, 4, 1, 0] (lv' := [(0, .ref (adr E 0)), (1, .int p0), (2, .int p1), (3, .int 0), (4, .int 0)]) rfl ?_
      exact Llp_M_bench_0_33 l E T hG  FW p0 p1 0 0 M1 hf
    · have hf := ifT hf c6
      refine rx_aload_n hG dX10_bench_22 0 rfl ?_
      refine rx_iconst hG 1 dX10_bench_23 ic_1 ?_
      obtain ⟨q7, hq7, hf⟩ := bindE hf
      refine rx_cVi hG (c_M_refused_0 l E T 1 hq7) (skM0 T) rfl rfl kw_M_232 ⟨Nat.le_of_ble_eq_true rfl, Nat.le_of_ble_eq_true rfl⟩ rfl (Nat.le_of_ble_eq_true rfl) dX10_bench_24 ?_
      cases hf
      exact rx_iret hG dX10_bench_27
set_option maxHeartbeats 4000000 in
set_option maxRecDepth 100000 in
theorem c_M_isKind_0 (l : Launch) (E : En) (T : List Sk) (p0 : Int32) {M : Mm} {r : Int32} (h : f_M_isKind_0 p0 M = some r) : Ct l (SKM ++ T) E yX10_isKind cX10_isKind 2 (some .boolean) 1 22 [.ref (adr E 0), .int p0] M (some (.int r)) M := by
  refine ct_of (by decide) (Nat.le_of_ble_eq_true rfl) ?_
  intro G hG
  show G 0 [(0, .ref (adr E 0)), (1, .int p0)] [] M
  have hf := h
  unfold f_M_isKind_0 at hf
  refine rx_aload_n hG dX10_isKind_0 0 rfl ?_
  refine gfM_M_257_0 l E T hG dX10_isKind_1 ?_
  refine rx_if_eq hG 25 dX10_isKind_4 rfl (fun c1 => ?_) (fun c1 => ?_)
  · have hf := ifT hf c1
    refine rx_iconst hG 0 dX10_isKind_25 ic_0 ?_
    cases hf
    exact rx_zret hG zr0 dX10_isKind_26
  · have hf := ifF hf c1
    refine rx_iload_n hG dX10_isKind_7 1 rfl ?_
    refine rx_iconst hG 0 dX10_isKind_8 ic_0 ?_
    refine rx_aload_n hG dX10_isKind_9 0 rfl ?_
    refine gfM_M_248_0 l E T hG dX10_isKind_10 ?_
    refine rx_iconst hG 1 dX10_isKind_13 ic_1 ?_
    refine rx_isub hG dX10_isKind_14 ?_
    obtain ⟨v2, hv2, hf⟩ := bindE hf
    refine rx_cSi hG (c_M_in l E (SKM ++ T) p0 0 ((M.1 0 22) - 1) hv2) kw_M_95 ⟨Nat.le_of_ble_eq_true rfl, Nat.le_of_ble_eq_true rfl⟩ rfl (Nat.le_of_ble_eq_true rfl) dX10_isKind_15 ?_
    refine rx_if_eq hG 25 dX10_isKind_18 rfl (fun c3 => ?_) (fun c3 => ?_)
    · have hf := ifT hf c3
      refine rx_iconst hG 0 dX10_isKind_25 ic_0 ?_
      cases hf
      exact rx_zret hG zr0 dX10_isKind_26
    · have hf := ifF hf c3
      refine rx_iconst hG 1 dX10_isKind_21 ic_1 ?_
      refine rx_goto hG 26 dX10_isKind_22 rfl ?_
      cases hf
      exact rx_zret hG zr1 dX10_isKind_26
set_option maxHeartbeats 4000000 in
set_option maxRecDepth 100000 in
theorem c_M_timeOf_0 (l : Launch) (E : En) (T : List Sk) (p0 : Int32) (p1 : Int32) {M M' : Mm} {r : Int32} (h : f_M_timeOf_0 p0 p1 M = some (r, M')) : Ct l (SKM ++ T) E yX10_timeOf cX10_timeOf 3 (some .int) 2 43 [.ref (adr E 0), .int p0, .int p1] M (some (.int r)) M' := by
  refine ct_of (by decide) (Nat.le_of_ble_eq_true rfl) ?_
  intro G hG
  show G 0 [(0, .ref (adr E 0)), (1, .int p0), (2, .int p1)] [] M
  have hf := h
  unfold f_M_timeOf_0 at hf
  refine rx_aload_n hG dX10_timeOf_0 0 rfl ?_
  refine rx_iconst hG 0 dX10_timeOf_1 ic_0 ?_
  obtain ⟨M1, hM1, hf⟩ := bindE hf
  refine pfM_M_74_0 l E T hG hM1 dX10_timeOf_2 ?_
  refine rx_aload_n hG dX10_timeOf_5 0 rfl ?_
  refine rx_iload_n hG dX10_timeOf_6 1 rfl ?_
  obtain ⟨v2, hv2, hf⟩ := bindE hf
  refine rx_cVi hG (c_M_isBench_0 l E T p0 hv2) (skM0 T) rfl rfl kw_M_316 ⟨Nat.le_of_ble_eq_true rfl, Nat.le_of_ble_eq_true rfl⟩ rfl (Nat.le_of_ble_eq_true rfl) dX10_timeOf_7 ?_
  refine rx_if_eq hG 41 dX10_timeOf_10 rfl (fun c3 => ?_) (fun c3 => ?_)
  · have hf := ifT hf c3
    refine rx_aload_n hG dX10_timeOf_41 0 rfl ?_
    refine rx_iconst hG 1 dX10_timeOf_42 ic_1 ?_
    obtain ⟨q4, hq4, hf⟩ := bindE hf
    refine rx_cVi hG (c_M_refused_0 l E T 1 hq4) (skM0 T) rfl rfl kw_M_232 ⟨Nat.le_of_ble_eq_true rfl, Nat.le_of_ble_eq_true rfl⟩ rfl (Nat.le_of_ble_eq_true rfl) dX10_timeOf_43 ?_
    cases hf
    exact rx_iret hG dX10_timeOf_46
  · have hf := ifF hf c3
    refine rx_aload_n hG dX10_timeOf_13 0 rfl ?_
    refine rx_iload_n hG dX10_timeOf_14 2 rfl ?_
    obtain ⟨v5, hv5, hf⟩ := bindE hf
    refine rx_cVi hG (c_M_isKind_0 l E T p1 hv5) (skM0 T) rfl rfl kw_M_319 ⟨Nat.le_of_ble_eq_true rfl, Nat.le_of_ble_eq_true rfl⟩ rfl (Nat.le_of_ble_eq_true rfl) dX10_timeOf_15 ?_
    refine rx_if_eq hG 41 dX10_timeOf_18 rfl (fun c6 => ?_) (fun c6 => ?_)
    · have hf := ifT hf c6
      refine rx_aload_n hG dX10_timeOf_41 0 rfl ?_
      refine rx_iconst hG 1 dX10_timeOf_42 ic_1 ?_
      obtain ⟨q7, hq7, hf⟩ := bindE hf
      refine rx_cVi hG (c_M_refused_0 l E T 1 hq7) (skM0 T) rfl rfl kw_M_232 ⟨Nat.le_of_ble_eq_true rfl, Nat.le_of_ble_eq_true rfl⟩ rfl (Nat.le_of_ble_eq_true rfl) dX10_timeOf_43 ?_
      cases hf
      exact rx_iret hG dX10_timeOf_46
    · have hf := ifF hf c6
      refine rx_aload_n hG dX10_timeOf_21 0 rfl ?_
      refine rx_aload_n hG dX10_timeOf_22 0 rfl ?_
      refine gfM_M_42_0 l E T hG dX10_timeOf_23 ?_
      refine rx_bipush hG 18 dX10_timeOf_26 bp_18 ?_
      refine rx_iconst hG 3 dX10_timeOf_28 ic_3 ?_
      refine rx_iload_n hG dX10_timeOf_29 1 rfl ?_
      refine rx_imul hG dX10_timeOf_30 ?_
      refine rx_iadd hG dX10_timeOf_31 ?_
      refine rx_iload_n hG dX10_timeOf_32 2 rfl ?_
      refine rx_iadd hG dX10_timeOf_33 ?_
      obtain ⟨v8, hv8, hf⟩ := bindE hf
      refine rx_iald hG (skM10 T) hv8 dX10_timeOf_34 ?_
      obtain ⟨q9, hq9, hf⟩ := bindE hf
      refine rx_cVi hG (c_M_good_0 l E T v8 hq9) (skM0 T) rfl rfl kw_M_245 ⟨Nat.le_of_ble_eq_true rfl, Nat.le_of_ble_eq_true rfl⟩ rfl (Nat.le_of_ble_eq_true rfl) dX10_timeOf_35 ?_
      refine rx_goto hG 46 dX10_timeOf_38 rfl ?_
      cases hf
      exact rx_iret hG dX10_timeOf_46
set_option maxHeartbeats 4000000 in
set_option maxRecDepth 100000 in
theorem c_M_stream_0 (l : Launch) (E : En) (T : List Sk) (p0 : Int32) (p1 : Int32) {M M' : Mm} {r : Int32} (h : f_M_stream_0 p0 p1 M = some (r, M')) : Ct l (SKM ++ T) E yX10_stream cX10_stream 3 (some .int) 1 22 [.ref (adr E 0), .int p0, .int p1] M (some (.int r)) M' := by
  refine ct_of (by decide) (Nat.le_of_ble_eq_true rfl) ?_
  intro G hG
  show G 0 [(0, .ref (adr E 0)), (1, .int p0), (2, .int p1)] [] M
  have hf := h
  unfold f_M_stream_0 at hf
  refine rx_aload_n hG dX10_stream_0 0 rfl ?_
  refine rx_iconst hG 0 dX10_stream_1 ic_0 ?_
  obtain ⟨M1, hM1, hf⟩ := bindE hf
  refine pfM_M_74_0 l E T hG hM1 dX10_stream_2 ?_
  refine rx_aload_n hG dX10_stream_5 0 rfl ?_
  refine gfM_M_257_0 l E T hG dX10_stream_6 ?_
  refine rx_if_eq hG 35 dX10_stream_9 rfl (fun c2 => ?_) (fun c2 => ?_)
  · have hf := ifT hf c2
    refine rx_aload_n hG dX10_stream_35 0 rfl ?_
    refine rx_iconst hG 1 dX10_stream_36 ic_1 ?_
    obtain ⟨q3, hq3, hf⟩ := bindE hf
    refine rx_cVi hG (c_M_refused_0 l E T 1 hq3) (skM0 T) rfl rfl kw_M_232 ⟨Nat.le_of_ble_eq_true rfl, Nat.le_of_ble_eq_true rfl⟩ rfl (Nat.le_of_ble_eq_true rfl) dX10_stream_37 ?_
    cases hf
    exact rx_iret hG dX10_stream_40
  · have hf := ifF hf c2
    refine rx_iload_n hG dX10_stream_12 1 rfl ?_
    refine rx_iconst hG 0 dX10_stream_13 ic_0 ?_
    refine rx_aload_n hG dX10_stream_14 0 rfl ?_
    refine gfM_M_251_0 l E T hG dX10_stream_15 ?_
    refine rx_iconst hG 1 dX10_stream_18 ic_1 ?_
    refine rx_isub hG dX10_stream_19 ?_
    obtain ⟨v4, hv4, hf⟩ := bindE hf
    refine rx_cSi hG (c_M_in l E (SKM ++ T) p0 0 ((M1.1 0 24) - 1) hv4) kw_M_95 ⟨Nat.le_of_ble_eq_true rfl, Nat.le_of_ble_eq_true rfl⟩ rfl (Nat.le_of_ble_eq_true rfl) dX10_stream_20 ?_
    refine rx_if_eq hG 35 dX10_stream_23 rfl (fun c5 => ?_) (fun c5 => ?_)
    · have hf := ifT hf c5
      refine rx_aload_n hG dX10_stream_35 0 rfl ?_
      refine rx_iconst hG 1 dX10_stream_36 ic_1 ?_
      obtain ⟨q6, hq6, hf⟩ := bindE hf
      refine rx_cVi hG (c_M_refused_0 l E T 1 hq6) (skM0 T) rfl rfl kw_M_232 ⟨Nat.le_of_ble_eq_true rfl, Nat.le_of_ble_eq_true rfl⟩ rfl (Nat.le_of_ble_eq_true rfl) dX10_stream_37 ?_
      cases hf
      exact rx_iret hG dX10_stream_40
    · have hf := ifF hf c5
      refine rx_iload_n hG dX10_stream_26 2 rfl ?_
      refine rx_iconst hG 0 dX10_stream_27 ic_0 ?_
      refine rx_iconst hG 2 dX10_stream_28 ic_2 ?_
      obtain ⟨v7, hv7, hf⟩ := bindE hf
      refine rx_cSi hG (c_M_in l E (SKM ++ T) p1 0 2 hv7) kw_M_95 ⟨Nat.le_of_ble_eq_true rfl, Nat.le_of_ble_eq_true rfl⟩ rfl (Nat.le_of_ble_eq_true rfl) dX10_stream_29 ?_
      refine rx_if_ne hG 41 dX10_stream_32 rfl (fun c8 => ?_) (fun c8 => ?_)
      · have hf := ifF hf c8
        refine rx_aload_n hG dX10_stream_41 0 rfl ?_
        refine rx_iload_n hG dX10_stream_42 2 rfl ?_
        refine rx_if_ne hG 55 dX10_stream_43 rfl (fun c9 => ?_) (fun c9 => ?_)
        · have hf := ifF hf c9
          refine rx_iload_n hG dX10_stream_55 2 rfl ?_
          refine rx_iconst hG 1 dX10_stream_56 ic_1 ?_
          refine rx_icmp_ne hG 69 dX10_stream_57 rfl (fun c10 => ?_) (fun c10 => ?_)
          · have hf := ifF hf c10
            refine rx_aload_n hG dX10_stream_69 0 rfl ?_
            refine gfM_M_39_0 l E T hG dX10_stream_70 ?_
            refine rx_iload_n hG dX10_stream_73 1 rfl ?_
            obtain ⟨v11, hv11, hf⟩ := bindE hf
            refine rx_iald hG (skM9 T) hv11 dX10_stream_74 ?_
            obtain ⟨q12, hq12, hf⟩ := bindE hf
            refine rx_cVi hG (c_M_good_0 l E T v11 hq12) (skM0 T) rfl rfl kw_M_245 ⟨Nat.le_of_ble_eq_true rfl, Nat.le_of_ble_eq_true rfl⟩ rfl (Nat.le_of_ble_eq_true rfl) dX10_stream_75 ?_
            cases hf
            exact rx_iret hG dX10_stream_78
          · have hf := ifT hf c10
            refine rx_aload_n hG dX10_stream_60 0 rfl ?_
            refine gfM_M_36_0 l E T hG dX10_stream_61 ?_
            refine rx_iload_n hG dX10_stream_64 1 rfl ?_
            obtain ⟨v13, hv13, hf⟩ := bindE hf
            refine rx_iald hG (skM8 T) hv13 dX10_stream_65 ?_
            refine rx_goto hG 75 dX10_stream_66 rfl ?_
            obtain ⟨q14, hq14, hf⟩ := bindE hf
            refine rx_cVi hG (c_M_good_0 l E T v13 hq14) (skM0 T) rfl rfl kw_M_245 ⟨Nat.le_of_ble_eq_true rfl, Nat.le_of_ble_eq_true rfl⟩ rfl (Nat.le_of_ble_eq_true rfl) dX10_stream_75 ?_
            cases hf
            exact rx_iret hG dX10_stream_78
        · have hf := ifT hf c9
          refine rx_aload_n hG dX10_stream_46 0 rfl ?_
          refine gfM_M_33_0 l E T hG dX10_stream_47 ?_
          refine rx_iload_n hG dX10_stream_50 1 rfl ?_
          obtain ⟨v15, hv15, hf⟩ := bindE hf
          refine rx_iald hG (skM7 T) hv15 dX10_stream_51 ?_
          refine rx_goto hG 75 dX10_stream_52 rfl ?_
          obtain ⟨q16, hq16, hf⟩ := bindE hf
          refine rx_cVi hG (c_M_good_0 l E T v15 hq16) (skM0 T) rfl rfl kw_M_245 ⟨Nat.le_of_ble_eq_true rfl, Nat.le_of_ble_eq_true rfl⟩ rfl (Nat.le_of_ble_eq_true rfl) dX10_stream_75 ?_
          cases hf
          exact rx_iret hG dX10_stream_78
      · have hf := ifT hf c8
        refine rx_aload_n hG dX10_stream_35 0 rfl ?_
        refine rx_iconst hG 1 dX10_stream_36 ic_1 ?_
        obtain ⟨q17, hq17, hf⟩ := bindE hf
        refine rx_cVi hG (c_M_refused_0 l E T 1 hq17) (skM0 T) rfl rfl kw_M_232 ⟨Nat.le_of_ble_eq_true rfl, Nat.le_of_ble_eq_true rfl⟩ rfl (Nat.le_of_ble_eq_true rfl) dX10_stream_37 ?_
        cases hf
        exact rx_iret hG dX10_stream_40
set_option maxHeartbeats 4000000 in
set_option maxRecDepth 100000 in
theorem c_M_free_0_15_10 (l : Launch) (E : En) (T : List Sk) (p0 : Int32) (p1 : Int32) {M : Mm} {r : Int32} (h : f_M_free_0_15_10 p0 p1 M = some r) : Ct l (SKM ++ T) E yX10_free cX10_free 6 (some .int) 2 44 [.ref (adr E 0), .ref (adr E 15), .ref (adr E 10), .int p0, .int p1] M (some (.int r)) M := by
  refine ct_of (by decide) (Nat.le_of_ble_eq_true rfl) ?_
  intro G hG
  show G 0 [(0, .ref (adr E 0)), (1, .ref (adr E 15)), (2, .ref (adr E 10)), (3, .int p0), (4, .int p1)] [] M
  have hf := h
  unfold f_M_free_0_15_10 at hf
  refine rx_aload_n hG dX10_free_0 2 rfl ?_
  refine rx_iconst hG 3 dX10_free_1 ic_3 ?_
  refine rx_iload_n hG dX10_free_2 3 rfl ?_
  refine rx_imul hG dX10_free_3 ?_
  refine rx_iload hG dX10_free_4 4 rfl ?_
  refine rx_iadd hG dX10_free_6 ?_
  obtain ⟨v1, hv1, hf⟩ := bindE hf
  refine rx_iald hG (skM10 T) hv1 dX10_free_7 ?_
  refine rx_aload_n hG dX10_free_8 1 rfl ?_
  refine rx_iload_n hG dX10_free_9 3 rfl ?_
  refine rx_iload hG dX10_free_10 4 rfl ?_
  obtain ⟨v2, hv2, hf⟩ := bindE hf
  refine rx_cSi hG (c_M_store l E (SKM ++ T) p0 p1 hv2) kw_M_267 ⟨Nat.le_of_ble_eq_true rfl, Nat.le_of_ble_eq_true rfl⟩ rfl (Nat.le_of_ble_eq_true rfl) dX10_free_12 ?_
  obtain ⟨v3, hv3, hf⟩ := bindE hf
  refine rx_iald hG (skM15 T) hv3 dX10_free_15 ?_
  refine rx_isub hG dX10_free_16 ?_
  refine rx_aload_n hG dX10_free_17 0 rfl ?_
  refine rx_aload_n hG dX10_free_18 1 rfl ?_
  refine rx_iload_n hG dX10_free_19 3 rfl ?_
  refine rx_iload hG dX10_free_20 4 rfl ?_
  obtain ⟨v4, hv4, hf⟩ := bindE hf
  refine rx_cVi hG (c_M_atWork_0_15 l E T p0 p1 hv4) (skM0 T) rfl rfl kw_M_270 ⟨Nat.le_of_ble_eq_true rfl, Nat.le_of_ble_eq_true rfl⟩ rfl (Nat.le_of_ble_eq_true rfl) dX10_free_22 ?_
  refine rx_isub hG dX10_free_25 ?_
  refine rx_istore (lv2 := [(5, .int ((v1 - v3) - v4)), (0, .ref (adr E 0)), (1, .ref (adr E 15)), (2, .ref (adr E 10)), (3, .int p0), (4, .int p1)]) hG dX10_free_26 (Nat.le_of_ble_eq_true rfl) rfl ?_
  refine rx_iload hG dX10_free_28 0 rfl ?_
  refine rx_if_le hG 38 dX10_free_30 rfl (fun c5 => ?_) (fun c5 => ?_)
  · have hf := ifT hf c5
    refine rx_iconst hG 0 dX10_free_38 ic_0 ?_
    cases hf
    exact rx_iret hG dX10_free_39
  · have hf := ifF hf c5
    refine rx_iload hG dX10_free_33 0 rfl ?_
    refine rx_goto hG 39 dX10_free_35 rfl ?_
    cases hf
    exact rx_iret hG dX10_free_39
set_option maxHeartbeats 4000000 in
set_option maxRecDepth 100000 in
theorem c_M_cardsOf_0 (l : Launch) (E : En) (T : List Sk) (p0 : Int32) (p1 : Int32) (p2 : Int32) {M M' : Mm} {r : Int32} (h : f_M_cardsOf_0 p0 p1 p2 M = some (r, M')) : Ct l (SKM ++ T) E yX10_cardsOf cX10_cardsOf 4 (some .int) 3 69 [.ref (adr E 0), .int p0, .int p1, .int p2] M (some (.int r)) M' := by
  refine ct_of (by decide) (Nat.le_of_ble_eq_true rfl) ?_
  intro G hG
  show G 0 [(0, .ref (adr E 0)), (1, .int p0), (2, .int p1), (3, .int p2)] [] M
  have hf := h
  unfold f_M_cardsOf_0 at hf
  refine rx_aload_n hG dX10_cardsOf_0 0 rfl ?_
  refine rx_iconst hG 0 dX10_cardsOf_1 ic_0 ?_
  obtain ⟨M1, hM1, hf⟩ := bindE hf
  refine pfM_M_74_0 l E T hG hM1 dX10_cardsOf_2 ?_
  refine rx_aload_n hG dX10_cardsOf_5 0 rfl ?_
  refine rx_iload_n hG dX10_cardsOf_6 1 rfl ?_
  obtain ⟨v2, hv2, hf⟩ := bindE hf
  refine rx_cVi hG (c_M_isBench_0 l E T p0 hv2) (skM0 T) rfl rfl kw_M_316 ⟨Nat.le_of_ble_eq_true rfl, Nat.le_of_ble_eq_true rfl⟩ rfl (Nat.le_of_ble_eq_true rfl) dX10_cardsOf_7 ?_
  refine rx_if_eq hG 30 dX10_cardsOf_10 rfl (fun c3 => ?_) (fun c3 => ?_)
  · have hf := ifT hf c3
    refine rx_aload_n hG dX10_cardsOf_30 0 rfl ?_
    refine rx_iconst hG 1 dX10_cardsOf_31 ic_1 ?_
    obtain ⟨q4, hq4, hf⟩ := bindE hf
    refine rx_cVi hG (c_M_refused_0 l E T 1 hq4) (skM0 T) rfl rfl kw_M_232 ⟨Nat.le_of_ble_eq_true rfl, Nat.le_of_ble_eq_true rfl⟩ rfl (Nat.le_of_ble_eq_true rfl) dX10_cardsOf_32 ?_
    cases hf
    exact rx_iret hG dX10_cardsOf_35
  · have hf := ifF hf c3
    refine rx_aload_n hG dX10_cardsOf_13 0 rfl ?_
    refine rx_iload_n hG dX10_cardsOf_14 2 rfl ?_
    obtain ⟨v5, hv5, hf⟩ := bindE hf
    refine rx_cVi hG (c_M_isKind_0 l E T p1 hv5) (skM0 T) rfl rfl kw_M_319 ⟨Nat.le_of_ble_eq_true rfl, Nat.le_of_ble_eq_true rfl⟩ rfl (Nat.le_of_ble_eq_true rfl) dX10_cardsOf_15 ?_
    refine rx_if_eq hG 30 dX10_cardsOf_18 rfl (fun c6 => ?_) (fun c6 => ?_)
    · have hf := ifT hf c6
      refine rx_aload_n hG dX10_cardsOf_30 0 rfl ?_
      refine rx_iconst hG 1 dX10_cardsOf_31 ic_1 ?_
      obtain ⟨q7, hq7, hf⟩ := bindE hf
      refine rx_cVi hG (c_M_refused_0 l E T 1 hq7) (skM0 T) rfl rfl kw_M_232 ⟨Nat.le_of_ble_eq_true rfl, Nat.le_of_ble_eq_true rfl⟩ rfl (Nat.le_of_ble_eq_true rfl) dX10_cardsOf_32 ?_
      cases hf
      exact rx_iret hG dX10_cardsOf_35
    · have hf := ifF hf c6
      refine rx_iload_n hG dX10_cardsOf_21 3 rfl ?_
      refine rx_iconst hG 0 dX10_cardsOf_22 ic_0 ?_
      refine rx_iconst hG 3 dX10_cardsOf_23 ic_3 ?_
      obtain ⟨v8, hv8, hf⟩ := bindE hf
      refine rx_cSi hG (c_M_in l E (SKM ++ T) p2 0 3 hv8) kw_M_95 ⟨Nat.le_of_ble_eq_true rfl, Nat.le_of_ble_eq_true rfl⟩ rfl (Nat.le_of_ble_eq_true rfl) dX10_cardsOf_24 ?_
      refine rx_if_ne hG 36 dX10_cardsOf_27 rfl (fun c9 => ?_) (fun c9 => ?_)
      · have hf := ifF hf c9
        refine rx_aload_n hG dX10_cardsOf_36 0 rfl ?_
        refine rx_iload_n hG dX10_cardsOf_37 3 rfl ?_
        refine rx_if_ne hG 54 dX10_cardsOf_38 rfl (fun c10 => ?_) (fun c10 => ?_)
        · have hf := ifF hf c10
          refine rx_iload_n hG dX10_cardsOf_54 3 rfl ?_
          refine rx_iconst hG 1 dX10_cardsOf_55 ic_1 ?_
          refine rx_icmp_ne hG 72 dX10_cardsOf_56 rfl (fun c11 => ?_) (fun c11 => ?_)
          · have hf := ifF hf c11
            refine rx_iload_n hG dX10_cardsOf_72 3 rfl ?_
            refine rx_iconst hG 2 dX10_cardsOf_73 ic_2 ?_
            refine rx_icmp_ne hG 90 dX10_cardsOf_74 rfl (fun c12 => ?_) (fun c12 => ?_)
            · have hf := ifF hf c12
              refine rx_aload_n hG dX10_cardsOf_90 0 rfl ?_
              refine rx_aload_n hG dX10_cardsOf_91 0 rfl ?_
              refine gfM_M_57_0 l E T hG dX10_cardsOf_92 ?_
              refine rx_aload_n hG dX10_cardsOf_95 0 rfl ?_
              refine gfM_M_42_0 l E T hG dX10_cardsOf_96 ?_
              refine rx_iload_n hG dX10_cardsOf_99 1 rfl ?_
              refine rx_iload_n hG dX10_cardsOf_100 2 rfl ?_
              obtain ⟨v13, hv13, hf⟩ := bindE hf
              refine rx_cVi hG (c_M_free_0_15_10 l E T p0 p1 hv13) (skM0 T) rfl rfl kw_M_280 ⟨Nat.le_of_ble_eq_true rfl, Nat.le_of_ble_eq_true rfl⟩ rfl (Nat.le_of_ble_eq_true rfl) dX10_cardsOf_101 ?_
              obtain ⟨q14, hq14, hf⟩ := bindE hf
              refine rx_cVi hG (c_M_good_0 l E T v13 hq14) (skM0 T) rfl rfl kw_M_245 ⟨Nat.le_of_ble_eq_true rfl, Nat.le_of_ble_eq_true rfl⟩ rfl (Nat.le_of_ble_eq_true rfl) dX10_cardsOf_104 ?_
              cases hf
              exact rx_iret hG dX10_cardsOf_107
            · have hf := ifT hf c12
              refine rx_aload_n hG dX10_cardsOf_77 0 rfl ?_
              refine rx_aload_n hG dX10_cardsOf_78 0 rfl ?_
              refine gfM_M_57_0 l E T hG dX10_cardsOf_79 ?_
              refine rx_iload_n hG dX10_cardsOf_82 1 rfl ?_
              refine rx_iload_n hG dX10_cardsOf_83 2 rfl ?_
              obtain ⟨v15, hv15, hf⟩ := bindE hf
              refine rx_cVi hG (c_M_atWork_0_15 l E T p0 p1 hv15) (skM0 T) rfl rfl kw_M_270 ⟨Nat.le_of_ble_eq_true rfl, Nat.le_of_ble_eq_true rfl⟩ rfl (Nat.le_of_ble_eq_true rfl) dX10_cardsOf_84 ?_
              refine rx_goto hG 104 dX10_cardsOf_87 rfl ?_
              obtain ⟨q16, hq16, hf⟩ := bindE hf
              refine rx_cVi hG (c_M_good_0 l E T v15 hq16) (skM0 T) rfl rfl kw_M_245 ⟨Nat.le_of_ble_eq_true rfl, Nat.le_of_ble_eq_true rfl⟩ rfl (Nat.le_of_ble_eq_true rfl) dX10_cardsOf_104 ?_
              cases hf
              exact rx_iret hG dX10_cardsOf_107
          · have hf := ifT hf c11
            refine rx_aload_n hG dX10_cardsOf_59 0 rfl ?_
            refine gfM_M_57_0 l E T hG dX10_cardsOf_60 ?_
            refine rx_iload_n hG dX10_cardsOf_63 1 rfl ?_
            refine rx_iload_n hG dX10_cardsOf_64 2 rfl ?_
            obtain ⟨v17, hv17, hf⟩ := bindE hf
            refine rx_cSi hG (c_M_store l E (SKM ++ T) p0 p1 hv17) kw_M_267 ⟨Nat.le_of_ble_eq_true rfl, Nat.le_of_ble_eq_true rfl⟩ rfl (Nat.le_of_ble_eq_true rfl) dX10_cardsOf_65 ?_
            obtain ⟨v18, hv18, hf⟩ := bindE hf
            refine rx_iald hG (skM15 T) hv18 dX10_cardsOf_68 ?_
            refine rx_goto hG 104 dX10_cardsOf_69 rfl ?_
            obtain ⟨q19, hq19, hf⟩ := bindE hf
            refine rx_cVi hG (c_M_good_0 l E T v18 hq19) (skM0 T) rfl rfl kw_M_245 ⟨Nat.le_of_ble_eq_true rfl, Nat.le_of_ble_eq_true rfl⟩ rfl (Nat.le_of_ble_eq_true rfl) dX10_cardsOf_104 ?_
            cases hf
            exact rx_iret hG dX10_cardsOf_107
        · have hf := ifT hf c10
          refine rx_aload_n hG dX10_cardsOf_41 0 rfl ?_
          refine gfM_M_42_0 l E T hG dX10_cardsOf_42 ?_
          refine rx_iconst hG 3 dX10_cardsOf_45 ic_3 ?_
          refine rx_iload_n hG dX10_cardsOf_46 1 rfl ?_
          refine rx_imul hG dX10_cardsOf_47 ?_
          refine rx_iload_n hG dX10_cardsOf_48 2 rfl ?_
          refine rx_iadd hG dX10_cardsOf_49 ?_
          obtain ⟨v20, hv20, hf⟩ := bindE hf
          refine rx_iald hG (skM10 T) hv20 dX10_cardsOf_50 ?_
          refine rx_goto hG 104 dX10_cardsOf_51 rfl ?_
          obtain ⟨q21, hq21, hf⟩ := bindE hf
          refine rx_cVi hG (c_M_good_0 l E T v20 hq21) (skM0 T) rfl rfl kw_M_245 ⟨Nat.le_of_ble_eq_true rfl, Nat.le_of_ble_eq_true rfl⟩ rfl (Nat.le_of_ble_eq_true rfl) dX10_cardsOf_104 ?_
          cases hf
          exact rx_iret hG dX10_cardsOf_107
      · have hf := ifT hf c9
        refine rx_aload_n hG dX10_cardsOf_30 0 rfl ?_
        refine rx_iconst hG 1 dX10_cardsOf_31 ic_1 ?_
        obtain ⟨q22, hq22, hf⟩ := bindE hf
        refine rx_cVi hG (c_M_refused_0 l E T 1 hq22) (skM0 T) rfl rfl kw_M_232 ⟨Nat.le_of_ble_eq_true rfl, Nat.le_of_ble_eq_true rfl⟩ rfl (Nat.le_of_ble_eq_true rfl) dX10_cardsOf_32 ?_
        cases hf
        exact rx_iret hG dX10_cardsOf_35
set_option maxHeartbeats 4000000 in
set_option maxRecDepth 100000 in
theorem c_M_granted_0 (l : Launch) (E : En) (T : List Sk) (p0 : Int32) {M M' : Mm} {r : Int32} (h : f_M_granted_0 p0 M = some (r, M')) : Ct l (SKM ++ T) E yX10_granted cX10_granted 2 (some .boolean) 0 0 [.ref (adr E 0), .int p0] M (some (.int r)) M' := by
  refine ct_of (by decide) (Nat.le_of_ble_eq_true rfl) ?_
  intro G hG
  show G 0 [(0, .ref (adr E 0)), (1, .int p0)] [] M
  have hf := h
  unfold f_M_granted_0 at hf
  refine rx_aload_n hG dX10_granted_0 0 rfl ?_
  refine rx_iload_n hG dX10_granted_1 1 rfl ?_
  obtain ⟨M1, hM1, hf⟩ := bindE hf
  refine pfM_M_77_0 l E T hG hM1 dX10_granted_2 ?_
  refine rx_aload_n hG dX10_granted_5 0 rfl ?_
  refine rx_iconst hG (-1) dX10_granted_6 ic_m1 ?_
  obtain ⟨M2, hM2, hf⟩ := bindE hf
  refine pfM_M_9_0 l E T hG hM2 dX10_granted_7 ?_
  refine rx_iload_n hG dX10_granted_10 1 rfl ?_
  refine rx_if_ne hG 18 dX10_granted_11 rfl (fun c3 => ?_) (fun c3 => ?_)
  · have hf := ifF hf c3
    refine rx_iconst hG 0 dX10_granted_18 ic_0 ?_
    cases hf
    exact rx_zret hG zr0 dX10_granted_19
  · have hf := ifT hf c3
    refine rx_iconst hG 1 dX10_granted_14 ic_1 ?_
    refine rx_goto hG 19 dX10_granted_15 rfl ?_
    cases hf
    exact rx_zret hG zr1 dX10_granted_19
set_option maxHeartbeats 4000000 in
set_option maxRecDepth 100000 in
theorem Lj_M_peaks_0_15_31 (l : Launch) (E : En) (T : List Sk) {a0 b0 kc ks : Nat} {M' : Mm} {G : Nat → List (Nat × Value) → List Value → Mm → Prop} (hG : RX l (SKM ++ T) E RX10 cX10_peaks 5 none { frames := 1, cells := a0, slots := b0, locals := 21 } kc ks none M' G)  : ∀ (x2 : Int32) (x3 : Int32) (M : Mm), j_M_peaks_0_15_31  x2 x3 M = some M' → G 31 [(1, .ref (adr E 15)), (2, .int x2), (3, .int x3)] [] M := by
  intro x2 x3 M hf
  unfold j_M_peaks_0_15_31 at hf
  refine rx_iload_n hG dX10_peaks_31 2 rfl ?_
  refine rx_aload_n hG dX10_peaks_32 0 rfl ?_
  refine rx_bipush hG 90 dX10_peaks_33 bp_90 ?_
  refine rx_iload_n hG dX10_peaks_35 1 rfl ?_
  refine rx_iadd hG dX10_peaks_36 ?_
  obtain ⟨v1, hv1, hf⟩ := bindE hf
  refine rx_iald hG (skM15 T) hv1 dX10_peaks_37 ?_
  refine rx_icmp_le hG 48 dX10_peaks_38 rfl (fun c2 => ?_) (fun c2 => ?_)
  · have hf := ifT hf c2
    cases hf
    exact rx_vret hG dX10_peaks_48
  · have hf := ifF hf c2
    refine rx_aload_n hG dX10_peaks_41 0 rfl ?_
    refine rx_bipush hG 90 dX10_peaks_42 bp_90 ?_
    refine rx_iload_n hG dX10_peaks_44 1 rfl ?_
    refine rx_iadd hG dX10_peaks_45 ?_
    refine rx_iload_n hG dX10_peaks_46 2 rfl ?_
    obtain ⟨M3, hM3, hf⟩ := bindE hf
    refine rx_iast hG (skM15 T) hM3 dX10_peaks_47 ?_
    cases hf
    exact rx_vret hG dX10_peaks_48
set_option maxHeartbeats 4000000 in
set_option maxRecDepth 100000 in
theorem Lblp_M_peaks_0_15_5 (l : Launch) (E : En) (T : List Sk) {a0 b0 kc ks : Nat} {M' : Mm} {G : Nat → List (Nat × Value) → List Value → Mm → Prop} (hG : RX l (SKM ++ T) E RX10 cX10_peaks 5 none { frames := 1, cells := a0, slots := b0, locals := 21 } kc ks none M' G) (rc5 : Int32 → Int32 → Int32 → Mm → Option Mm) (hrc5 : ∀ (x2 : Int32) (x3 : Int32) (x4 : Int32) (M : Mm), rc5 x2 x3 x4 M = some M' → G 5 [(0, .ref (adr E 0)), (1, .ref (adr E 15)), (2, .int x2), (3, .int x3), (4, .int x4)] [] M) : ∀ (x2 : Int32) (x3 : Int32) (x4 : Int32) (M : Mm), blp_M_peaks_0_15_5 rc5 x2 x3 x4 M = some M' → G 5 [(0, .ref (adr E 0)), (1, .ref (adr E 15)), (2, .int x2), (3, .int x3), (4, .int x4)] [] M := by
  intro x2 x3 x4 M hf
  unfold blp_M_peaks_0_15_5 at hf
  refine rx_iload hG dX10_peaks_5 4 rfl ?_
  refine rx_aload_n hG dX10_peaks_7 0 rfl ?_
  refine gfM_M_248_0 l E T hG dX10_peaks_8 ?_
  refine rx_icmp_ge hG 31 dX10_peaks_11 rfl (fun c1 => ?_) (fun c1 => ?_)
  · have hf := ifT hf c1
    refine rx_sub hG [1, 2, 3] (lv' := [(1, .ref (adr E 15)), (2, .int x2), (3, .int x3)]) rfl ?_
    exact Lj_M_peaks_0_15_31 l E T hG  x2 x3 M hf
  · have hf := ifF hf c1
    refine rx_iload_n hG dX10_peaks_14 3 rfl ?_
    refine rx_aload_n hG dX10_peaks_15 1 rfl ?_
    refine rx_iload_n hG dX10_peaks_16 2 rfl ?_
    refine rx_iload hG dX10_peaks_17 4 rfl ?_
    obtain ⟨v2, hv2, hf⟩ := bindE hf
    refine rx_cSi hG (c_M_store l E (SKM ++ T) x2 x4 hv2) kw_M_267 ⟨Nat.le_of_ble_eq_true rfl, Nat.le_of_ble_eq_true rfl⟩ rfl (Nat.le_of_ble_eq_true rfl) dX10_peaks_19 ?_
    obtain ⟨v3, hv3, hf⟩ := bindE hf
    refine rx_iald hG (skM15 T) hv3 dX10_peaks_22 ?_
    refine rx_iadd hG dX10_peaks_23 ?_
    refine rx_istore_n (lv2 := [(3, .int (x3 + v3)), (0, .ref (adr E 0)), (1, .ref (adr E 15)), (2, .int x2), (4, .int x4)]) hG dX10_peaks_24 (Nat.le_of_ble_eq_true rfl) rfl ?_
    refine rx_iinc (lv2 := [(4, .int (x4 + 1)), (3, .int (x3 + v3)), (0, .ref (adr E 0)), (1, .ref (adr E 15)), (2, .int x2)]) hG 1 dX10_peaks_25 ic_1 4 rfl (Nat.le_of_ble_eq_true rfl) rfl ?_
    refine rx_goto hG 5 dX10_peaks_28 rfl ?_
    refine rx_sub hG [2, 3, 4, 1, 0] (lv' := [(0, .ref (adr E 0)), (1, .ref (adr E 15)), (2, .int x2), (3, .int (x3 + v3)), (4, .int (x4 + 1))]) rfl ?_
    exact hrc5 x2 (x3 + v3) (x4 + 1) M hf
theorem Llp_M_peaks_0_15_5 (l : Launch) (E : En) (T : List Sk) {a0 b0 kc ks : Nat} {M' : Mm} {G : Nat → List (Nat × Value) → List Value → Mm → Prop} (hG : RX l (SKM ++ T) E RX10 cX10_peaks 5 none { frames := 1, cells := a0, slots := b0, locals := 21 } kc ks none M' G)  : ∀ (n : Nat) (x2 : Int32) (x3 : Int32) (x4 : Int32) (M : Mm), lp_M_peaks_0_15_5  n x2 x3 x4 M = some M' → G 5 [(0, .ref (adr E 0)), (1, .ref (adr E 15)), (2, .int x2), (3, .int x3), (4, .int x4)] [] M := by
  intro n
  induction n with
  | zero => intro x2 x3 x4 M hf; cases hf
  | succ n ih => intro x2 x3 x4 M hf; exact Lblp_M_peaks_0_15_5 l E T hG  (lp_M_peaks_0_15_5  n) ih x2 x3 x4 M hf
set_option maxHeartbeats 4000000 in
set_option maxRecDepth 100000 in
theorem c_M_peaks_0_15 (l : Launch) (E : En) (T : List Sk) (p0 : Int32) {M M' : Mm} (h : f_M_peaks_0_15 p0 M = some M') : Ct l (SKM ++ T) E yX10_peaks cX10_peaks 5 none 1 21 [.ref (adr E 0), .ref (adr E 15), .int p0] M none M' := by
  refine ct_of (by decide) (Nat.le_of_ble_eq_true rfl) ?_
  intro G hG
  show G 0 [(0, .ref (adr E 0)), (1, .ref (adr E 15)), (2, .int p0)] [] M
  have hf := h
  unfold f_M_peaks_0_15 at hf
  refine rx_iconst hG 0 dX10_peaks_0 ic_0 ?_
  refine rx_istore_n (lv2 := [(3, .int 0), (0, .ref (adr E 0)), (1, .ref (adr E 15)), (2, .int p0)]) hG dX10_peaks_1 (Nat.le_of_ble_eq_true rfl) rfl ?_
  refine rx_iconst hG 0 dX10_peaks_2 ic_0 ?_
  refine rx_istore (lv2 := [(4, .int 0), (3, .int 0), (0, .ref (adr E 0)), (1, .ref (adr E 15)), (2, .int p0)]) hG dX10_peaks_3 (Nat.le_of_ble_eq_true rfl) rfl ?_
  refine rx_sub hG [2, 3, 4, 1, 0] (lv' := [(0, .ref (adr E 0)), (1, .ref (adr E 15)), (2, .int p0), (3, .int 0), (4, .int 0)]) rfl ?_
  exact Llp_M_peaks_0_15_5 l E T hG  FW p0 0 0 M hf
set_option maxHeartbeats 4000000 in
set_option maxRecDepth 100000 in
theorem Lj_M_begin_0_76 (l : Launch) (E : En) (T : List Sk) {a0 b0 kc ks : Nat} {r : Int32} {M' : Mm} {G : Nat → List (Nat × Value) → List Value → Mm → Prop} (hG : RX l (SKM ++ T) E RX10 cX10_begin 4 (some .boolean) { frames := 2, cells := a0, slots := b0, locals := 45 } kc ks (some (.int r)) M' G) (rc28 : Int32 → Int32 → Mm → Option (Int32 × Mm)) (hrc28 : ∀ (x1 : Int32) (x2 : Int32) (M : Mm), rc28 x1 x2 M = some (r, M') → G 28 [(0, .ref (adr E 0)), (1, .int x1), (2, .int x2)] [] M) : ∀ (x1 : Int32) (x2 : Int32) (M : Mm), j_M_begin_0_76 rc28 x1 x2 M = some (r, M') → G 76 [(0, .ref (adr E 0)), (1, .int x1), (2, .int x2)] [] M := by
  intro x1 x2 M hf
  unfold j_M_begin_0_76 at hf
  refine rx_aload_n hG dX10_begin_76 0 rfl ?_
  refine rx_aload_n hG dX10_begin_77 0 rfl ?_
  refine gfM_M_57_0 l E T hG dX10_begin_78 ?_
  refine rx_iload_n hG dX10_begin_81 2 rfl ?_
  obtain ⟨M1, hM1, hf⟩ := bindE hf
  refine rx_cVv hG (c_M_peaks_0_15 l E T x2 hM1) (skM0 T) rfl rfl kw_M_306 ⟨Nat.le_of_ble_eq_true rfl, Nat.le_of_ble_eq_true rfl⟩ rfl (Nat.le_of_ble_eq_true rfl) dX10_begin_82 ?_
  refine rx_iinc (lv2 := [(2, .int (x2 + 1)), (0, .ref (adr E 0)), (1, .int x1)]) hG 1 dX10_begin_85 ic_1 2 rfl (Nat.le_of_ble_eq_true rfl) rfl ?_
  refine rx_goto hG 28 dX10_begin_88 rfl ?_
  refine rx_sub hG [1, 2, 0] (lv' := [(0, .ref (adr E 0)), (1, .int x1), (2, .int (x2 + 1))]) rfl ?_
  exact hrc28 x1 (x2 + 1) M1 hf
set_option maxHeartbeats 4000000 in
set_option maxRecDepth 100000 in
theorem Lblp_M_begin_0_42 (l : Launch) (E : En) (T : List Sk) {a0 b0 kc ks : Nat} {r : Int32} {M' : Mm} {G : Nat → List (Nat × Value) → List Value → Mm → Prop} (hG : RX l (SKM ++ T) E RX10 cX10_begin 4 (some .boolean) { frames := 2, cells := a0, slots := b0, locals := 45 } kc ks (some (.int r)) M' G) (rc28 : Int32 → Int32 → Mm → Option (Int32 × Mm)) (hrc28 : ∀ (x1 : Int32) (x2 : Int32) (M : Mm), rc28 x1 x2 M = some (r, M') → G 28 [(0, .ref (adr E 0)), (1, .int x1), (2, .int x2)] [] M) (rc42 : Int32 → Int32 → Int32 → Mm → Option (Int32 × Mm)) (hrc42 : ∀ (x1 : Int32) (x2 : Int32) (x3 : Int32) (M : Mm), rc42 x1 x2 x3 M = some (r, M') → G 42 [(0, .ref (adr E 0)), (1, .int x1), (2, .int x2), (3, .int x3)] [] M) : ∀ (x1 : Int32) (x2 : Int32) (x3 : Int32) (M : Mm), blp_M_begin_0_42 rc28 rc42 x1 x2 x3 M = some (r, M') → G 42 [(0, .ref (adr E 0)), (1, .int x1), (2, .int x2), (3, .int x3)] [] M := by
  intro x1 x2 x3 M hf
  unfold blp_M_begin_0_42 at hf
  refine rx_iload_n hG dX10_begin_42 3 rfl ?_
  refine rx_aload_n hG dX10_begin_43 0 rfl ?_
  refine gfM_M_248_0 l E T hG dX10_begin_44 ?_
  refine rx_icmp_ge hG 76 dX10_begin_47 rfl (fun c1 => ?_) (fun c1 => ?_)
  · have hf := ifT hf c1
    refine rx_sub hG [0, 1, 2] (lv' := [(0, .ref (adr E 0)), (1, .int x1), (2, .int x2)]) rfl ?_
    exact Lj_M_begin_0_76 l E T hG rc28 hrc28 x1 x2 M hf
  · have hf := ifF hf c1
    refine rx_aload_n hG dX10_begin_50 0 rfl ?_
    refine gfM_M_57_0 l E T hG dX10_begin_51 ?_
    refine rx_iload_n hG dX10_begin_54 2 rfl ?_
    refine rx_iload_n hG dX10_begin_55 3 rfl ?_
    obtain ⟨v2, hv2, hf⟩ := bindE hf
    refine rx_cSi hG (c_M_store l E (SKM ++ T) x2 x3 hv2) kw_M_267 ⟨Nat.le_of_ble_eq_true rfl, Nat.le_of_ble_eq_true rfl⟩ rfl (Nat.le_of_ble_eq_true rfl) dX10_begin_56 ?_
    refine rx_aload_n hG dX10_begin_59 0 rfl ?_
    refine gfM_M_42_0 l E T hG dX10_begin_60 ?_
    refine rx_iconst hG 3 dX10_begin_63 ic_3 ?_
    refine rx_iload_n hG dX10_begin_64 2 rfl ?_
    refine rx_imul hG dX10_begin_65 ?_
    refine rx_iload_n hG dX10_begin_66 3 rfl ?_
    refine rx_iadd hG dX10_begin_67 ?_
    obtain ⟨v3, hv3, hf⟩ := bindE hf
    refine rx_iald hG (skM10 T) hv3 dX10_begin_68 ?_
    obtain ⟨M4, hM4, hf⟩ := bindE hf
    refine rx_iast hG (skM15 T) hM4 dX10_begin_69 ?_
    refine rx_iinc (lv2 := [(3, .int (x3 + 1)), (0, .ref (adr E 0)), (1, .int x1), (2, .int x2)]) hG 1 dX10_begin_70 ic_1 3 rfl (Nat.le_of_ble_eq_true rfl) rfl ?_
    refine rx_goto hG 42 dX10_begin_73 rfl ?_
    refine rx_sub hG [1, 2, 3, 0] (lv' := [(0, .ref (adr E 0)), (1, .int x1), (2, .int x2), (3, .int (x3 + 1))]) rfl ?_
    exact hrc42 x1 x2 (x3 + 1) M4 hf
theorem Llp_M_begin_0_42 (l : Launch) (E : En) (T : List Sk) {a0 b0 kc ks : Nat} {r : Int32} {M' : Mm} {G : Nat → List (Nat × Value) → List Value → Mm → Prop} (hG : RX l (SKM ++ T) E RX10 cX10_begin 4 (some .boolean) { frames := 2, cells := a0, slots := b0, locals := 45 } kc ks (some (.int r)) M' G) (rc28 : Int32 → Int32 → Mm → Option (Int32 × Mm)) (hrc28 : ∀ (x1 : Int32) (x2 : Int32) (M : Mm), rc28 x1 x2 M = some (r, M') → G 28 [(0, .ref (adr E 0)), (1, .int x1), (2, .int x2)] [] M) : ∀ (n : Nat) (x1 : Int32) (x2 : Int32) (x3 : Int32) (M : Mm), lp_M_begin_0_42 rc28 n x1 x2 x3 M = some (r, M') → G 42 [(0, .ref (adr E 0)), (1, .int x1), (2, .int x2), (3, .int x3)] [] M := by
  intro n
  induction n with
  | zero => intro x1 x2 x3 M hf; cases hf
  | succ n ih => intro x1 x2 x3 M hf; exact Lblp_M_begin_0_42 l E T hG rc28 hrc28 (lp_M_begin_0_42 rc28 n) ih x1 x2 x3 M hf
set_option maxHeartbeats 4000000 in
set_option maxRecDepth 100000 in
theorem Lblp_M_begin_0_28 (l : Launch) (E : En) (T : List Sk) {a0 b0 kc ks : Nat} {r : Int32} {M' : Mm} {G : Nat → List (Nat × Value) → List Value → Mm → Prop} (hG : RX l (SKM ++ T) E RX10 cX10_begin 4 (some .boolean) { frames := 2, cells := a0, slots := b0, locals := 45 } kc ks (some (.int r)) M' G) (rc28 : Int32 → Int32 → Mm → Option (Int32 × Mm)) (hrc28 : ∀ (x1 : Int32) (x2 : Int32) (M : Mm), rc28 x1 x2 M = some (r, M') → G 28 [(0, .ref (adr E 0)), (1, .int x1), (2, .int x2)] [] M) : ∀ (x1 : Int32) (x2 : Int32) (M : Mm), blp_M_begin_0_28 rc28 x1 x2 M = some (r, M') → G 28 [(0, .ref (adr E 0)), (1, .int x1), (2, .int x2)] [] M := by
  intro x1 x2 M hf
  unfold blp_M_begin_0_28 at hf
  refine rx_iload_n hG dX10_begin_28 2 rfl ?_
  refine rx_aload_n hG dX10_begin_29 0 rfl ?_
  refine gfM_M_242_0 l E T hG dX10_begin_30 ?_
  refine rx_icmp_ge hG 91 dX10_begin_33 rfl (fun c1 => ?_) (fun c1 => ?_)
  · have hf := ifT hf c1
    refine rx_aload_n hG dX10_begin_91 0 rfl ?_
    refine rx_iconst hG 0 dX10_begin_92 ic_0 ?_
    obtain ⟨q2, hq2, hf⟩ := bindE hf
    refine rx_cVi hG (c_M_granted_0 l E T 0 hq2) (skM0 T) rfl rfl kw_M_322 ⟨Nat.le_of_ble_eq_true rfl, Nat.le_of_ble_eq_true rfl⟩ rfl (Nat.le_of_ble_eq_true rfl) dX10_begin_93 ?_
    obtain ⟨z3, hz3, hf⟩ := bindE hf
    cases hf
    exact rx_zret hG hz3 dX10_begin_96
  · have hf := ifF hf c1
    refine rx_iload_n hG dX10_begin_36 1 rfl ?_
    refine rx_if_eq hG 91 dX10_begin_37 rfl (fun c4 => ?_) (fun c4 => ?_)
    · have hf := ifT hf c4
      refine rx_aload_n hG dX10_begin_91 0 rfl ?_
      refine rx_iconst hG 0 dX10_begin_92 ic_0 ?_
      obtain ⟨q5, hq5, hf⟩ := bindE hf
      refine rx_cVi hG (c_M_granted_0 l E T 0 hq5) (skM0 T) rfl rfl kw_M_322 ⟨Nat.le_of_ble_eq_true rfl, Nat.le_of_ble_eq_true rfl⟩ rfl (Nat.le_of_ble_eq_true rfl) dX10_begin_93 ?_
      obtain ⟨z6, hz6, hf⟩ := bindE hf
      cases hf
      exact rx_zret hG hz6 dX10_begin_96
    · have hf := ifF hf c4
      refine rx_iconst hG 0 dX10_begin_40 ic_0 ?_
      refine rx_istore_n (lv2 := [(3, .int 0), (0, .ref (adr E 0)), (1, .int x1), (2, .int x2)]) hG dX10_begin_41 (Nat.le_of_ble_eq_true rfl) rfl ?_
      refine rx_sub hG [1, 2, 3, 0] (lv' := [(0, .ref (adr E 0)), (1, .int x1), (2, .int x2), (3, .int 0)]) rfl ?_
      exact Llp_M_begin_0_42 l E T hG rc28 hrc28 FW x1 x2 0 M hf
theorem Llp_M_begin_0_28 (l : Launch) (E : En) (T : List Sk) {a0 b0 kc ks : Nat} {r : Int32} {M' : Mm} {G : Nat → List (Nat × Value) → List Value → Mm → Prop} (hG : RX l (SKM ++ T) E RX10 cX10_begin 4 (some .boolean) { frames := 2, cells := a0, slots := b0, locals := 45 } kc ks (some (.int r)) M' G)  : ∀ (n : Nat) (x1 : Int32) (x2 : Int32) (M : Mm), lp_M_begin_0_28  n x1 x2 M = some (r, M') → G 28 [(0, .ref (adr E 0)), (1, .int x1), (2, .int x2)] [] M := by
  intro n
  induction n with
  | zero => intro x1 x2 M hf; cases hf
  | succ n ih => intro x1 x2 M hf; exact Lblp_M_begin_0_28 l E T hG  (lp_M_begin_0_28  n) ih x1 x2 M hf
set_option maxHeartbeats 4000000 in
set_option maxRecDepth 100000 in
theorem c_M_begin_0 (l : Launch) (E : En) (T : List Sk) (p0 : Int32) {M M' : Mm} {r : Int32} (h : f_M_begin_0 p0 M = some (r, M')) : Ct l (SKM ++ T) E yX10_begin cX10_begin 4 (some .boolean) 2 45 [.ref (adr E 0), .int p0] M (some (.int r)) M' := by
  refine ct_of (by decide) (Nat.le_of_ble_eq_true rfl) ?_
  intro G hG
  show G 0 [(0, .ref (adr E 0)), (1, .int p0)] [] M
  have hf := h
  unfold f_M_begin_0 at hf
  refine rx_aload_n hG dX10_begin_0 0 rfl ?_
  refine rx_iconst hG 0 dX10_begin_1 ic_0 ?_
  obtain ⟨M1, hM1, hf⟩ := bindE hf
  refine pfM_M_74_0 l E T hG hM1 dX10_begin_2 ?_
  refine rx_aload_n hG dX10_begin_5 0 rfl ?_
  refine gfM_M_257_0 l E T hG dX10_begin_6 ?_
  refine rx_if_ne hG 18 dX10_begin_9 rfl (fun c2 => ?_) (fun c2 => ?_)
  · have hf := ifF hf c2
    refine rx_aload_n hG dX10_begin_18 0 rfl ?_
    refine rx_aload_n hG dX10_begin_19 0 rfl ?_
    refine gfM_M_57_0 l E T hG dX10_begin_20 ?_
    obtain ⟨M3, hM3, hf⟩ := bindE hf
    refine rx_cVv hG (c_M_begins_0_15 l E T  hM3) (skM0 T) rfl rfl kw_M_260 ⟨Nat.le_of_ble_eq_true rfl, Nat.le_of_ble_eq_true rfl⟩ rfl (Nat.le_of_ble_eq_true rfl) dX10_begin_23 ?_
    refine rx_iconst hG 0 dX10_begin_26 ic_0 ?_
    refine rx_istore_n (lv2 := [(2, .int 0), (0, .ref (adr E 0)), (1, .int p0)]) hG dX10_begin_27 (Nat.le_of_ble_eq_true rfl) rfl ?_
    refine rx_sub hG [1, 2, 0] (lv' := [(0, .ref (adr E 0)), (1, .int p0), (2, .int 0)]) rfl ?_
    exact Llp_M_begin_0_28 l E T hG  FW p0 0 M3 hf
  · have hf := ifT hf c2
    refine rx_aload_n hG dX10_begin_12 0 rfl ?_
    refine rx_iconst hG 1 dX10_begin_13 ic_1 ?_
    obtain ⟨q4, hq4, hf⟩ := bindE hf
    refine rx_cVi hG (c_M_granted_0 l E T 1 hq4) (skM0 T) rfl rfl kw_M_322 ⟨Nat.le_of_ble_eq_true rfl, Nat.le_of_ble_eq_true rfl⟩ rfl (Nat.le_of_ble_eq_true rfl) dX10_begin_14 ?_
    obtain ⟨z5, hz5, hf⟩ := bindE hf
    cases hf
    exact rx_zret hG hz5 dX10_begin_17
set_option maxHeartbeats 4000000 in
set_option maxRecDepth 100000 in
theorem c_M_ofKind (l : Launch) (E : En) (T : List Sk) (p0 : Int32) (p1 : Int32) {M : Mm} {r : Int32} (h : f_M_ofKind p0 p1 = some r) : Ct l T E yX10_ofKind cX10_ofKind 2 (some .int) 0 0 [.int p0, .int p1] M (some (.int r)) M := by
  refine ct_of (by decide) (Nat.le_of_ble_eq_true rfl) ?_
  intro G hG
  show G 0 [(0, .int p0), (1, .int p1)] [] M
  have hf := h
  unfold f_M_ofKind at hf
  refine rx_bipush hG 75 dX10_ofKind_0 bp_75 ?_
  refine rx_iconst hG 5 dX10_ofKind_2 ic_5 ?_
  refine rx_iload_n hG dX10_ofKind_3 0 rfl ?_
  refine rx_imul hG dX10_ofKind_4 ?_
  refine rx_iadd hG dX10_ofKind_5 ?_
  refine rx_iload_n hG dX10_ofKind_6 1 rfl ?_
  refine rx_iadd hG dX10_ofKind_7 ?_
  cases hf
  exact rx_iret hG dX10_ofKind_8
set_option maxHeartbeats 4000000 in
set_option maxRecDepth 100000 in
theorem Lblp_M_delivered_0_15_4 (l : Launch) (E : En) (T : List Sk) {a0 b0 kc ks : Nat} {r : Int32} {M : Mm} {G : Nat → List (Nat × Value) → List Value → Mm → Prop} (hG : RX l (SKM ++ T) E RX10 cX10_delivered 4 (some .int) { frames := 1, cells := a0, slots := b0, locals := 21 } kc ks (some (.int r)) M G) (rc4 : Int32 → Int32 → Mm → Option Int32) (hrc4 : ∀ (x2 : Int32) (x3 : Int32), rc4 x2 x3 M = some r → G 4 [(0, .ref (adr E 0)), (1, .ref (adr E 15)), (2, .int x2), (3, .int x3)] [] M) : ∀ (x2 : Int32) (x3 : Int32), blp_M_delivered_0_15_4 rc4 x2 x3 M = some r → G 4 [(0, .ref (adr E 0)), (1, .ref (adr E 15)), (2, .int x2), (3, .int x3)] [] M := by
  intro x2 x3 hf
  unfold blp_M_delivered_0_15_4 at hf
  refine rx_iload_n hG dX10_delivered_4 3 rfl ?_
  refine rx_aload_n hG dX10_delivered_5 0 rfl ?_
  refine gfM_M_248_0 l E T hG dX10_delivered_6 ?_
  refine rx_icmp_ge hG 28 dX10_delivered_9 rfl (fun c1 => ?_) (fun c1 => ?_)
  · have hf := ifT hf c1
    refine rx_iload_n hG dX10_delivered_28 2 rfl ?_
    cases hf
    exact rx_iret hG dX10_delivered_29
  · have hf := ifF hf c1
    refine rx_iload_n hG dX10_delivered_12 2 rfl ?_
    refine rx_aload_n hG dX10_delivered_13 1 rfl ?_
    refine rx_iload_n hG dX10_delivered_14 3 rfl ?_
    refine rx_iconst hG 1 dX10_delivered_15 ic_1 ?_
    obtain ⟨v2, hv2, hf⟩ := bindE hf
    refine rx_cSi hG (c_M_ofKind l E (SKM ++ T) x3 1 hv2) kw_M_274 ⟨Nat.le_of_ble_eq_true rfl, Nat.le_of_ble_eq_true rfl⟩ rfl (Nat.le_of_ble_eq_true rfl) dX10_delivered_16 ?_
    obtain ⟨v3, hv3, hf⟩ := bindE hf
    refine rx_iald hG (skM15 T) hv3 dX10_delivered_19 ?_
    refine rx_iadd hG dX10_delivered_20 ?_
    refine rx_istore_n (lv2 := [(2, .int (x2 + v3)), (0, .ref (adr E 0)), (1, .ref (adr E 15)), (3, .int x3)]) hG dX10_delivered_21 (Nat.le_of_ble_eq_true rfl) rfl ?_
    refine rx_iinc (lv2 := [(3, .int (x3 + 1)), (2, .int (x2 + v3)), (0, .ref (adr E 0)), (1, .ref (adr E 15))]) hG 1 dX10_delivered_22 ic_1 3 rfl (Nat.le_of_ble_eq_true rfl) rfl ?_
    refine rx_goto hG 4 dX10_delivered_25 rfl ?_
    refine rx_sub hG [2, 3, 1, 0] (lv' := [(0, .ref (adr E 0)), (1, .ref (adr E 15)), (2, .int (x2 + v3)), (3, .int (x3 + 1))]) rfl ?_
    exact hrc4 (x2 + v3) (x3 + 1) hf
theorem Llp_M_delivered_0_15_4 (l : Launch) (E : En) (T : List Sk) {a0 b0 kc ks : Nat} {r : Int32} {M : Mm} {G : Nat → List (Nat × Value) → List Value → Mm → Prop} (hG : RX l (SKM ++ T) E RX10 cX10_delivered 4 (some .int) { frames := 1, cells := a0, slots := b0, locals := 21 } kc ks (some (.int r)) M G)  : ∀ (n : Nat) (x2 : Int32) (x3 : Int32), lp_M_delivered_0_15_4  n x2 x3 M = some r → G 4 [(0, .ref (adr E 0)), (1, .ref (adr E 15)), (2, .int x2), (3, .int x3)] [] M := by
  intro n
  induction n with
  | zero => intro x2 x3 hf; cases hf
  | succ n ih => intro x2 x3 hf; exact Lblp_M_delivered_0_15_4 l E T hG  (lp_M_delivered_0_15_4  n) ih x2 x3 hf
set_option maxHeartbeats 4000000 in
set_option maxRecDepth 100000 in
theorem c_M_delivered_0_15 (l : Launch) (E : En) (T : List Sk)  {M : Mm} {r : Int32} (h : f_M_delivered_0_15 M = some r) : Ct l (SKM ++ T) E yX10_delivered cX10_delivered 4 (some .int) 1 21 [.ref (adr E 0), .ref (adr E 15)] M (some (.int r)) M := by
  refine ct_of (by decide) (Nat.le_of_ble_eq_true rfl) ?_
  intro G hG
  show G 0 [(0, .ref (adr E 0)), (1, .ref (adr E 15))] [] M
  have hf := h
  unfold f_M_delivered_0_15 at hf
  refine rx_iconst hG 0 dX10_delivered_0 ic_0 ?_
  refine rx_istore_n (lv2 := [(2, .int 0), (0, .ref (adr E 0)), (1, .ref (adr E 15))]) hG dX10_delivered_1 (Nat.le_of_ble_eq_true rfl) rfl ?_
  refine rx_iconst hG 0 dX10_delivered_2 ic_0 ?_
  refine rx_istore_n (lv2 := [(3, .int 0), (2, .int 0), (0, .ref (adr E 0)), (1, .ref (adr E 15))]) hG dX10_delivered_3 (Nat.le_of_ble_eq_true rfl) rfl ?_
  refine rx_sub hG [2, 3, 1, 0] (lv' := [(0, .ref (adr E 0)), (1, .ref (adr E 15)), (2, .int 0), (3, .int 0)]) rfl ?_
  exact Llp_M_delivered_0_15_4 l E T hG  FW 0 0 hf
set_option maxHeartbeats 4000000 in
set_option maxRecDepth 100000 in
theorem Lj_M_tallies_0_15_10_137 (l : Launch) (E : En) (T : List Sk) {a0 b0 kc ks : Nat} {M' : Mm} {G : Nat → List (Nat × Value) → List Value → Mm → Prop} (hG : RX l (SKM ++ T) E RX10 cX10_tallies 8 none { frames := 3, cells := a0, slots := b0, locals := 69 } kc ks none M' G)  : ∀ (x3 : Int32) (x4 : Int32) (M : Mm), j_M_tallies_0_15_10_137  x3 x4 M = some M' → G 137 [(1, .ref (adr E 15)), (3, .int x3), (4, .int x4)] [] M := by
  intro x3 x4 M hf
  unfold j_M_tallies_0_15_10_137 at hf
  refine rx_aload_n hG dX10_tallies_137 0 rfl ?_
  refine rx_iconst hG 1 dX10_tallies_138 ic_1 ?_
  refine rx_iload hG dX10_tallies_139 2 rfl ?_
  obtain ⟨M1, hM1, hf⟩ := bindE hf
  refine rx_iast hG (skM15 T) hM1 dX10_tallies_141 ?_
  refine rx_aload_n hG dX10_tallies_142 0 rfl ?_
  refine rx_iconst hG 2 dX10_tallies_143 ic_2 ?_
  refine rx_iload_n hG dX10_tallies_144 1 rfl ?_
  obtain ⟨M2, hM2, hf⟩ := bindE hf
  refine rx_iast hG (skM15 T) hM2 dX10_tallies_145 ?_
  cases hf
  exact rx_vret hG dX10_tallies_146
set_option maxHeartbeats 4000000 in
set_option maxRecDepth 100000 in
theorem Lj_M_tallies_0_15_10_96 (l : Launch) (E : En) (T : List Sk) {a0 b0 kc ks : Nat} {M' : Mm} {G : Nat → List (Nat × Value) → List Value → Mm → Prop} (hG : RX l (SKM ++ T) E RX10 cX10_tallies 8 none { frames := 3, cells := a0, slots := b0, locals := 69 } kc ks none M' G)  : ∀ (x3 : Int32) (x4 : Int32) (x6 : Int32) (t0 : Int32) (t1 : Int32) (M : Mm), j_M_tallies_0_15_10_96  x3 x4 x6 t0 t1 M = some M' → G 96 [(1, .ref (adr E 15)), (3, .int x3), (4, .int x4), (6, .int x6)] [.int t0, .int t1, .ref (adr E 15)] M := by
  intro x3 x4 x6 t0 t1 M hf
  unfold j_M_tallies_0_15_10_96 at hf
  obtain ⟨v1, hv1, hf⟩ := bindE hf
  refine rx_cSi hG (c_M_of l E (SKM ++ T) t1 t0 hv1) kw_M_264 ⟨Nat.le_of_ble_eq_true rfl, Nat.le_of_ble_eq_true rfl⟩ rfl (Nat.le_of_ble_eq_true rfl) dX10_tallies_96 ?_
  refine rx_dup2 hG dX10_tallies_99 rfl rfl ?_
  obtain ⟨v2, hv2, hf⟩ := bindE hf
  refine rx_iald hG (skM15 T) hv2 dX10_tallies_100 ?_
  refine rx_iconst hG 1 dX10_tallies_101 ic_1 ?_
  refine rx_iadd hG dX10_tallies_102 ?_
  obtain ⟨M3, hM3, hf⟩ := bindE hf
  refine rx_iast hG (skM15 T) hM3 dX10_tallies_103 ?_
  refine rx_iload hG dX10_tallies_104 3 rfl ?_
  refine rx_if_eq hG 136 dX10_tallies_106 rfl (fun c4 => ?_) (fun c4 => ?_)
  · have hf := ifT hf c4
    cases hf
    exact rx_vret hG dX10_tallies_136
  · have hf := ifF hf c4
    refine rx_aload_n hG dX10_tallies_109 0 rfl ?_
    refine rx_iload_n hG dX10_tallies_110 1 rfl ?_
    refine rx_iconst hG 3 dX10_tallies_111 ic_3 ?_
    obtain ⟨v5, hv5, hf⟩ := bindE hf
    refine rx_cSi hG (c_M_of l E (SKM ++ T) x3 3 hv5) kw_M_264 ⟨Nat.le_of_ble_eq_true rfl, Nat.le_of_ble_eq_true rfl⟩ rfl (Nat.le_of_ble_eq_true rfl) dX10_tallies_112 ?_
    obtain ⟨v6, hv6, hf⟩ := bindE hf
    refine rx_iald hG (skM15 T) hv6 dX10_tallies_115 ?_
    refine rx_bipush hG (-2) dX10_tallies_116 bp_m2 ?_
    refine rx_icmp_eq hG 136 dX10_tallies_118 rfl (fun c7 => ?_) (fun c7 => ?_)
    · have hf := ifT hf c7
      cases hf
      exact rx_vret hG dX10_tallies_136
    · have hf := ifF hf c7
      refine rx_aload_n hG dX10_tallies_121 0 rfl ?_
      refine rx_iconst hG 1 dX10_tallies_122 ic_1 ?_
      obtain ⟨v8, hv8, hf⟩ := bindE hf
      refine rx_iald hG (skM15 T) hv8 dX10_tallies_123 ?_
      refine rx_iconst hG (-1) dX10_tallies_124 ic_m1 ?_
      refine rx_icmp_eq hG 137 dX10_tallies_125 rfl (fun c9 => ?_) (fun c9 => ?_)
      · have hf := ifT hf c9
        refine rx_sub hG [0, 1, 2] (lv' := [(1, .ref (adr E 15)), (3, .int x3), (4, .int x4)]) rfl ?_
        exact Lj_M_tallies_0_15_10_137 l E T hG  x3 x4 M3 hf
      · have hf := ifF hf c9
        refine rx_aload_n hG dX10_tallies_128 0 rfl ?_
        refine rx_iconst hG 1 dX10_tallies_129 ic_1 ?_
        obtain ⟨v10, hv10, hf⟩ := bindE hf
        refine rx_iald hG (skM15 T) hv10 dX10_tallies_130 ?_
        refine rx_iload hG dX10_tallies_131 2 rfl ?_
        refine rx_icmp_eq hG 137 dX10_tallies_133 rfl (fun c11 => ?_) (fun c11 => ?_)
        · have hf := ifT hf c11
          refine rx_sub hG [0, 1, 2] (lv' := [(1, .ref (adr E 15)), (3, .int x3), (4, .int x4)]) rfl ?_
          exact Lj_M_tallies_0_15_10_137 l E T hG  x3 x4 M3 hf
        · have hf := ifF hf c11
          cases hf
          exact rx_vret hG dX10_tallies_136
set_option maxHeartbeats 4000000 in
set_option maxRecDepth 100000 in
theorem Lj_M_tallies_0_15_10_82 (l : Launch) (E : En) (T : List Sk) {a0 b0 kc ks : Nat} {M' : Mm} {G : Nat → List (Nat × Value) → List Value → Mm → Prop} (hG : RX l (SKM ++ T) E RX10 cX10_tallies 8 none { frames := 3, cells := a0, slots := b0, locals := 69 } kc ks none M' G)  : ∀ (x3 : Int32) (x4 : Int32) (x6 : Int32) (M : Mm), j_M_tallies_0_15_10_82  x3 x4 x6 M = some M' → G 82 [(1, .ref (adr E 15)), (3, .int x3), (4, .int x4), (6, .int x6)] [] M := by
  intro x3 x4 x6 M hf
  unfold j_M_tallies_0_15_10_82 at hf
  refine rx_aload_n hG dX10_tallies_82 0 rfl ?_
  refine rx_iload_n hG dX10_tallies_83 1 rfl ?_
  refine rx_iload hG dX10_tallies_84 3 rfl ?_
  refine rx_if_eq hG 94 dX10_tallies_86 rfl (fun c1 => ?_) (fun c1 => ?_)
  · have hf := ifT hf c1
    refine rx_bipush hG 8 dX10_tallies_94 bp_8 ?_
    exact Lj_M_tallies_0_15_10_96 l E T hG  x3 x4 x6 8 x3 M hf
  · have hf := ifF hf c1
    refine rx_bipush hG 7 dX10_tallies_89 bp_7 ?_
    refine rx_goto hG 96 dX10_tallies_91 rfl ?_
    exact Lj_M_tallies_0_15_10_96 l E T hG  x3 x4 x6 7 x3 M hf
set_option maxHeartbeats 4000000 in
set_option maxRecDepth 100000 in
theorem Lj_M_tallies_0_15_10_74 (l : Launch) (E : En) (T : List Sk) {a0 b0 kc ks : Nat} {M' : Mm} {G : Nat → List (Nat × Value) → List Value → Mm → Prop} (hG : RX l (SKM ++ T) E RX10 cX10_tallies 8 none { frames := 3, cells := a0, slots := b0, locals := 69 } kc ks none M' G) (rc43 : Int32 → Int32 → Int32 → Int32 → Mm → Option Mm) (hrc43 : ∀ (x3 : Int32) (x4 : Int32) (x6 : Int32) (x7 : Int32) (M : Mm), rc43 x3 x4 x6 x7 M = some M' → G 43 [(0, .ref (adr E 0)), (1, .ref (adr E 15)), (2, .ref (adr E 10)), (3, .int x3), (4, .int x4), (6, .int x6), (7, .int x7)] [] M) : ∀ (x3 : Int32) (x4 : Int32) (x7 : Int32) (t0 : Int32) (M : Mm), j_M_tallies_0_15_10_74 rc43 x3 x4 x7 t0 M = some M' → G 74 [(0, .ref (adr E 0)), (1, .ref (adr E 15)), (2, .ref (adr E 10)), (3, .int x3), (4, .int x4), (7, .int x7)] [.int t0] M := by
  intro x3 x4 x7 t0 M hf
  unfold j_M_tallies_0_15_10_74 at hf
  refine rx_istore (lv2 := [(6, .int t0), (0, .ref (adr E 0)), (1, .ref (adr E 15)), (2, .ref (adr E 10)), (3, .int x3), (4, .int x4), (7, .int x7)]) hG dX10_tallies_74 (Nat.le_of_ble_eq_true rfl) rfl ?_
  refine rx_iinc (lv2 := [(7, .int (x7 + 1)), (6, .int t0), (0, .ref (adr E 0)), (1, .ref (adr E 15)), (2, .ref (adr E 10)), (3, .int x3), (4, .int x4)]) hG 1 dX10_tallies_76 ic_1 6 rfl (Nat.le_of_ble_eq_true rfl) rfl ?_
  refine rx_goto hG 43 dX10_tallies_79 rfl ?_
  refine rx_sub hG [2, 3, 4, 5, 6, 1, 0] (lv' := [(0, .ref (adr E 0)), (1, .ref (adr E 15)), (2, .ref (adr E 10)), (3, .int x3), (4, .int x4), (6, .int t0), (7, .int (x7 + 1))]) rfl ?_
  exact hrc43 x3 x4 t0 (x7 + 1) M hf
set_option maxHeartbeats 4000000 in
set_option maxRecDepth 100000 in
theorem Lj_M_tallies_0_15_10_69 (l : Launch) (E : En) (T : List Sk) {a0 b0 kc ks : Nat} {M' : Mm} {G : Nat → List (Nat × Value) → List Value → Mm → Prop} (hG : RX l (SKM ++ T) E RX10 cX10_tallies 8 none { frames := 3, cells := a0, slots := b0, locals := 69 } kc ks none M' G) (rc43 : Int32 → Int32 → Int32 → Int32 → Mm → Option Mm) (hrc43 : ∀ (x3 : Int32) (x4 : Int32) (x6 : Int32) (x7 : Int32) (M : Mm), rc43 x3 x4 x6 x7 M = some M' → G 43 [(0, .ref (adr E 0)), (1, .ref (adr E 15)), (2, .ref (adr E 10)), (3, .int x3), (4, .int x4), (6, .int x6), (7, .int x7)] [] M) : ∀ (x3 : Int32) (x4 : Int32) (x7 : Int32) (M : Mm), j_M_tallies_0_15_10_69 rc43 x3 x4 x7 M = some M' → G 69 [(0, .ref (adr E 0)), (1, .ref (adr E 15)), (2, .ref (adr E 10)), (3, .int x3), (4, .int x4), (7, .int x7)] [] M := by
  intro x3 x4 x7 M hf
  unfold j_M_tallies_0_15_10_69 at hf
  refine rx_iconst hG 1 dX10_tallies_69 ic_1 ?_
  refine rx_goto hG 74 dX10_tallies_70 rfl ?_
  exact Lj_M_tallies_0_15_10_74 l E T hG rc43 hrc43 x3 x4 x7 1 M hf
set_option maxHeartbeats 4000000 in
set_option maxRecDepth 100000 in
theorem Lblp_M_tallies_0_15_10_43 (l : Launch) (E : En) (T : List Sk) {a0 b0 kc ks : Nat} {M' : Mm} {G : Nat → List (Nat × Value) → List Value → Mm → Prop} (hG : RX l (SKM ++ T) E RX10 cX10_tallies 8 none { frames := 3, cells := a0, slots := b0, locals := 69 } kc ks none M' G) (rc43 : Int32 → Int32 → Int32 → Int32 → Mm → Option Mm) (hrc43 : ∀ (x3 : Int32) (x4 : Int32) (x6 : Int32) (x7 : Int32) (M : Mm), rc43 x3 x4 x6 x7 M = some M' → G 43 [(0, .ref (adr E 0)), (1, .ref (adr E 15)), (2, .ref (adr E 10)), (3, .int x3), (4, .int x4), (6, .int x6), (7, .int x7)] [] M) : ∀ (x3 : Int32) (x4 : Int32) (x6 : Int32) (x7 : Int32) (M : Mm), blp_M_tallies_0_15_10_43 rc43 x3 x4 x6 x7 M = some M' → G 43 [(0, .ref (adr E 0)), (1, .ref (adr E 15)), (2, .ref (adr E 10)), (3, .int x3), (4, .int x4), (6, .int x6), (7, .int x7)] [] M := by
  intro x3 x4 x6 x7 M hf
  unfold blp_M_tallies_0_15_10_43 at hf
  refine rx_iload hG dX10_tallies_43 6 rfl ?_
  refine rx_aload_n hG dX10_tallies_45 0 rfl ?_
  refine gfM_M_248_0 l E T hG dX10_tallies_46 ?_
  refine rx_icmp_ge hG 82 dX10_tallies_49 rfl (fun c1 => ?_) (fun c1 => ?_)
  · have hf := ifT hf c1
    refine rx_sub hG [1, 3, 4, 5] (lv' := [(1, .ref (adr E 15)), (3, .int x3), (4, .int x4), (6, .int x6)]) rfl ?_
    exact Lj_M_tallies_0_15_10_82 l E T hG  x3 x4 x6 M hf
  · have hf := ifF hf c1
    refine rx_iload hG dX10_tallies_52 5 rfl ?_
    refine rx_if_ne hG 69 dX10_tallies_54 rfl (fun c2 => ?_) (fun c2 => ?_)
    · have hf := ifF hf c2
      refine rx_sub hG [0, 1, 2, 3, 4, 6] (lv' := [(0, .ref (adr E 0)), (1, .ref (adr E 15)), (2, .ref (adr E 10)), (3, .int x3), (4, .int x4), (7, .int x7)]) rfl ?_
      exact Lj_M_tallies_0_15_10_69 l E T hG rc43 hrc43 x3 x4 x7 M hf
    · have hf := ifT hf c2
      refine rx_aload_n hG dX10_tallies_57 0 rfl ?_
      refine rx_aload_n hG dX10_tallies_58 1 rfl ?_
      refine rx_aload_n hG dX10_tallies_59 2 rfl ?_
      refine rx_iload_n hG dX10_tallies_60 3 rfl ?_
      refine rx_iload hG dX10_tallies_61 6 rfl ?_
      obtain ⟨v3, hv3, hf⟩ := bindE hf
      refine rx_cVi hG (c_M_free_0_15_10 l E T x3 x7 hv3) (skM0 T) rfl rfl kw_M_280 ⟨Nat.le_of_ble_eq_true rfl, Nat.le_of_ble_eq_true rfl⟩ rfl (Nat.le_of_ble_eq_true rfl) dX10_tallies_63 ?_
      refine rx_if_le hG 73 dX10_tallies_66 rfl (fun c4 => ?_) (fun c4 => ?_)
      · have hf := ifT hf c4
        refine rx_iconst hG 0 dX10_tallies_73 ic_0 ?_
        refine rx_sub hG [0, 1, 2, 3, 4, 6] (lv' := [(0, .ref (adr E 0)), (1, .ref (adr E 15)), (2, .ref (adr E 10)), (3, .int x3), (4, .int x4), (7, .int x7)]) rfl ?_
        exact Lj_M_tallies_0_15_10_74 l E T hG rc43 hrc43 x3 x4 x7 0 M hf
      · have hf := ifF hf c4
        refine rx_sub hG [0, 1, 2, 3, 4, 6] (lv' := [(0, .ref (adr E 0)), (1, .ref (adr E 15)), (2, .ref (adr E 10)), (3, .int x3), (4, .int x4), (7, .int x7)]) rfl ?_
        exact Lj_M_tallies_0_15_10_69 l E T hG rc43 hrc43 x3 x4 x7 M hf
theorem Llp_M_tallies_0_15_10_43 (l : Launch) (E : En) (T : List Sk) {a0 b0 kc ks : Nat} {M' : Mm} {G : Nat → List (Nat × Value) → List Value → Mm → Prop} (hG : RX l (SKM ++ T) E RX10 cX10_tallies 8 none { frames := 3, cells := a0, slots := b0, locals := 69 } kc ks none M' G)  : ∀ (n : Nat) (x3 : Int32) (x4 : Int32) (x6 : Int32) (x7 : Int32) (M : Mm), lp_M_tallies_0_15_10_43  n x3 x4 x6 x7 M = some M' → G 43 [(0, .ref (adr E 0)), (1, .ref (adr E 15)), (2, .ref (adr E 10)), (3, .int x3), (4, .int x4), (6, .int x6), (7, .int x7)] [] M := by
  intro n
  induction n with
  | zero => intro x3 x4 x6 x7 M hf; cases hf
  | succ n ih => intro x3 x4 x6 x7 M hf; exact Lblp_M_tallies_0_15_10_43 l E T hG  (lp_M_tallies_0_15_10_43  n) ih x3 x4 x6 x7 M hf
set_option maxHeartbeats 4000000 in
set_option maxRecDepth 100000 in
theorem c_M_tallies_0_15_10 (l : Launch) (E : En) (T : List Sk) (p0 : Int32) (p1 : Int32) {M M' : Mm} (h : f_M_tallies_0_15_10 p0 p1 M = some M') : Ct l (SKM ++ T) E yX10_tallies cX10_tallies 8 none 3 69 [.ref (adr E 0), .ref (adr E 15), .ref (adr E 10), .int p0, .int p1] M none M' := by
  refine ct_of (by decide) (Nat.le_of_ble_eq_true rfl) ?_
  intro G hG
  show G 0 [(0, .ref (adr E 0)), (1, .ref (adr E 15)), (2, .ref (adr E 10)), (3, .int p0), (4, .int p1)] [] M
  have hf := h
  unfold f_M_tallies_0_15_10 at hf
  refine rx_aload_n hG dX10_tallies_0 1 rfl ?_
  refine rx_iload_n hG dX10_tallies_1 3 rfl ?_
  refine rx_iconst hG 0 dX10_tallies_2 ic_0 ?_
  obtain ⟨v1, hv1, hf⟩ := bindE hf
  refine rx_cSi hG (c_M_of l E (SKM ++ T) p0 0 hv1) kw_M_264 ⟨Nat.le_of_ble_eq_true rfl, Nat.le_of_ble_eq_true rfl⟩ rfl (Nat.le_of_ble_eq_true rfl) dX10_tallies_3 ?_
  obtain ⟨v2, hv2, hf⟩ := bindE hf
  refine rx_iald hG (skM15 T) hv2 dX10_tallies_6 ?_
  refine rx_istore (lv2 := [(5, .int v2), (0, .ref (adr E 0)), (1, .ref (adr E 15)), (2, .ref (adr E 10)), (3, .int p0), (4, .int p1)]) hG dX10_tallies_7 (Nat.le_of_ble_eq_true rfl) rfl ?_
  refine rx_iload hG dX10_tallies_9 0 rfl ?_
  refine rx_if_le hG 37 dX10_tallies_11 rfl (fun c3 => ?_) (fun c3 => ?_)
  · have hf := ifT hf c3
    refine rx_iconst hG 0 dX10_tallies_37 ic_0 ?_
    refine rx_istore (lv2 := [(6, .int 0), (5, .int v2), (0, .ref (adr E 0)), (1, .ref (adr E 15)), (2, .ref (adr E 10)), (3, .int p0), (4, .int p1)]) hG dX10_tallies_38 (Nat.le_of_ble_eq_true rfl) rfl ?_
    refine rx_iconst hG 0 dX10_tallies_40 ic_0 ?_
    refine rx_istore (lv2 := [(7, .int 0), (6, .int 0), (5, .int v2), (0, .ref (adr E 0)), (1, .ref (adr E 15)), (2, .ref (adr E 10)), (3, .int p0), (4, .int p1)]) hG dX10_tallies_41 (Nat.le_of_ble_eq_true rfl) rfl ?_
    refine rx_sub hG [3, 4, 5, 6, 7, 1, 0] (lv' := [(0, .ref (adr E 0)), (1, .ref (adr E 15)), (2, .ref (adr E 10)), (3, .int p0), (4, .int p1), (6, .int 0), (7, .int 0)]) rfl ?_
    exact Llp_M_tallies_0_15_10_43 l E T hG  FW p0 p1 0 0 M hf
  · have hf := ifF hf c3
    refine rx_aload_n hG dX10_tallies_14 2 rfl ?_
    refine rx_iload_n hG dX10_tallies_15 4 rfl ?_
    refine rx_iload hG dX10_tallies_16 0 rfl ?_
    refine rx_iconst hG 1 dX10_tallies_18 ic_1 ?_
    refine rx_icmp_ne hG 26 dX10_tallies_19 rfl (fun c4 => ?_) (fun c4 => ?_)
    · have hf := ifF hf c4
      refine rx_bipush hG 6 dX10_tallies_26 bp_6 ?_
      obtain ⟨v5, hv5, hf⟩ := bindE hf
      refine rx_cSi hG (c_M_of l E (SKM ++ T) p0 6 hv5) kw_M_264 ⟨Nat.le_of_ble_eq_true rfl, Nat.le_of_ble_eq_true rfl⟩ rfl (Nat.le_of_ble_eq_true rfl) dX10_tallies_28 ?_
      refine rx_dup2 hG dX10_tallies_31 rfl rfl ?_
      obtain ⟨v6, hv6, hf⟩ := bindE hf
      refine rx_iald hG (skM15 T) hv6 dX10_tallies_32 ?_
      refine rx_iconst hG 1 dX10_tallies_33 ic_1 ?_
      refine rx_iadd hG dX10_tallies_34 ?_
      obtain ⟨M7, hM7, hf⟩ := bindE hf
      refine rx_iast hG (skM15 T) hM7 dX10_tallies_35 ?_
      cases hf
      exact rx_vret hG dX10_tallies_36
    · have hf := ifT hf c4
      refine rx_iconst hG 5 dX10_tallies_22 ic_5 ?_
      refine rx_goto hG 28 dX10_tallies_23 rfl ?_
      obtain ⟨v8, hv8, hf⟩ := bindE hf
      refine rx_cSi hG (c_M_of l E (SKM ++ T) p0 5 hv8) kw_M_264 ⟨Nat.le_of_ble_eq_true rfl, Nat.le_of_ble_eq_true rfl⟩ rfl (Nat.le_of_ble_eq_true rfl) dX10_tallies_28 ?_
      refine rx_dup2 hG dX10_tallies_31 rfl rfl ?_
      obtain ⟨v9, hv9, hf⟩ := bindE hf
      refine rx_iald hG (skM15 T) hv9 dX10_tallies_32 ?_
      refine rx_iconst hG 1 dX10_tallies_33 ic_1 ?_
      refine rx_iadd hG dX10_tallies_34 ?_
      obtain ⟨M10, hM10, hf⟩ := bindE hf
      refine rx_iast hG (skM15 T) hM10 dX10_tallies_35 ?_
      cases hf
      exact rx_vret hG dX10_tallies_36
set_option maxHeartbeats 4000000 in
set_option maxRecDepth 100000 in
theorem c_M_can_0_15_10 (l : Launch) (E : En) (T : List Sk) (p0 : Int32) (p1 : Int32) {M : Mm} {r : Int32} (h : f_M_can_0_15_10 p0 p1 M = some r) : Ct l (SKM ++ T) E yX10_can cX10_can 5 (some .boolean) 3 69 [.ref (adr E 0), .ref (adr E 15), .ref (adr E 10), .int p0, .int p1] M (some (.int r)) M := by
  refine ct_of (by decide) (Nat.le_of_ble_eq_true rfl) ?_
  intro G hG
  show G 0 [(0, .ref (adr E 0)), (1, .ref (adr E 15)), (2, .ref (adr E 10)), (3, .int p0), (4, .int p1)] [] M
  have hf := h
  unfold f_M_can_0_15_10 at hf
  refine rx_aload_n hG dX10_can_0 0 rfl ?_
  refine rx_aload_n hG dX10_can_1 1 rfl ?_
  refine rx_aload_n hG dX10_can_2 2 rfl ?_
  refine rx_iload_n hG dX10_can_3 3 rfl ?_
  refine rx_iload hG dX10_can_4 4 rfl ?_
  obtain ⟨v1, hv1, hf⟩ := bindE hf
  refine rx_cVi hG (c_M_free_0_15_10 l E T p0 p1 hv1) (skM0 T) rfl rfl kw_M_280 ⟨Nat.le_of_ble_eq_true rfl, Nat.le_of_ble_eq_true rfl⟩ rfl (Nat.le_of_ble_eq_true rfl) dX10_can_6 ?_
  refine rx_if_le hG 33 dX10_can_9 rfl (fun c2 => ?_) (fun c2 => ?_)
  · have hf := ifT hf c2
    refine rx_iconst hG 0 dX10_can_33 ic_0 ?_
    cases hf
    exact rx_zret hG zr0 dX10_can_34
  · have hf := ifF hf c2
    refine rx_iload_n hG dX10_can_12 3 rfl ?_
    refine rx_if_eq hG 29 dX10_can_13 rfl (fun c3 => ?_) (fun c3 => ?_)
    · have hf := ifT hf c3
      refine rx_iconst hG 1 dX10_can_29 ic_1 ?_
      refine rx_goto hG 34 dX10_can_30 rfl ?_
      cases hf
      exact rx_zret hG zr1 dX10_can_34
    · have hf := ifF hf c3
      refine rx_aload_n hG dX10_can_16 1 rfl ?_
      refine rx_iload_n hG dX10_can_17 3 rfl ?_
      refine rx_iconst hG 1 dX10_can_18 ic_1 ?_
      refine rx_isub hG dX10_can_19 ?_
      refine rx_iload hG dX10_can_20 4 rfl ?_
      obtain ⟨v4, hv4, hf⟩ := bindE hf
      refine rx_cSi hG (c_M_store l E (SKM ++ T) (p0 - 1) p1 hv4) kw_M_267 ⟨Nat.le_of_ble_eq_true rfl, Nat.le_of_ble_eq_true rfl⟩ rfl (Nat.le_of_ble_eq_true rfl) dX10_can_22 ?_
      obtain ⟨v5, hv5, hf⟩ := bindE hf
      refine rx_iald hG (skM15 T) hv5 dX10_can_25 ?_
      refine rx_if_le hG 33 dX10_can_26 rfl (fun c6 => ?_) (fun c6 => ?_)
      · have hf := ifT hf c6
        refine rx_iconst hG 0 dX10_can_33 ic_0 ?_
        cases hf
        exact rx_zret hG zr0 dX10_can_34
      · have hf := ifF hf c6
        refine rx_iconst hG 1 dX10_can_29 ic_1 ?_
        refine rx_goto hG 34 dX10_can_30 rfl ?_
        cases hf
        exact rx_zret hG zr1 dX10_can_34
set_option maxHeartbeats 4000000 in
set_option maxRecDepth 100000 in
theorem Lj_M_chosen_0_15_10_112 (l : Launch) (E : En) (T : List Sk) {a0 b0 kc ks : Nat} {r : Int32} {M : Mm} {G : Nat → List (Nat × Value) → List Value → Mm → Prop} (hG : RX l (SKM ++ T) E RX10 cX10_chosen 8 (some .int) { frames := 4, cells := a0, slots := b0, locals := 93 } kc ks (some (.int r)) M G) (rc6 : Int32 → Int32 → Int32 → Mm → Option Int32) (hrc6 : ∀ (x3 : Int32) (x4 : Int32) (x5 : Int32), rc6 x3 x4 x5 M = some r → G 6 [(0, .ref (adr E 0)), (1, .ref (adr E 15)), (2, .ref (adr E 10)), (3, .int x3), (4, .int x4), (5, .int x5)] [] M) : ∀ (x3 : Int32) (x4 : Int32) (x5 : Int32), j_M_chosen_0_15_10_112 rc6 x3 x4 x5 M = some r → G 112 [(0, .ref (adr E 0)), (1, .ref (adr E 15)), (2, .ref (adr E 10)), (3, .int x3), (4, .int x4), (5, .int x5)] [] M := by
  intro x3 x4 x5 hf
  unfold j_M_chosen_0_15_10_112 at hf
  refine rx_iinc (lv2 := [(5, .int (x5 + 1)), (0, .ref (adr E 0)), (1, .ref (adr E 15)), (2, .ref (adr E 10)), (3, .int x3), (4, .int x4)]) hG 1 dX10_chosen_112 ic_1 5 rfl (Nat.le_of_ble_eq_true rfl) rfl ?_
  refine rx_goto hG 6 dX10_chosen_115 rfl ?_
  refine rx_sub hG [1, 2, 3, 4, 5, 0] (lv' := [(0, .ref (adr E 0)), (1, .ref (adr E 15)), (2, .ref (adr E 10)), (3, .int x3), (4, .int x4), (5, .int (x5 + 1))]) rfl ?_
  exact hrc6 x3 x4 (x5 + 1) hf
set_option maxHeartbeats 4000000 in
set_option maxRecDepth 100000 in
theorem Lj_M_chosen_0_15_10_108 (l : Launch) (E : En) (T : List Sk) {a0 b0 kc ks : Nat} {r : Int32} {M : Mm} {G : Nat → List (Nat × Value) → List Value → Mm → Prop} (hG : RX l (SKM ++ T) E RX10 cX10_chosen 8 (some .int) { frames := 4, cells := a0, slots := b0, locals := 93 } kc ks (some (.int r)) M G) (rc6 : Int32 → Int32 → Int32 → Mm → Option Int32) (hrc6 : ∀ (x3 : Int32) (x4 : Int32) (x5 : Int32), rc6 x3 x4 x5 M = some r → G 6 [(0, .ref (adr E 0)), (1, .ref (adr E 15)), (2, .ref (adr E 10)), (3, .int x3), (4, .int x4), (5, .int x5)] [] M) : ∀ (x3 : Int32) (x5 : Int32) (x7 : Int32), j_M_chosen_0_15_10_108 rc6 x3 x5 x7 M = some r → G 108 [(0, .ref (adr E 0)), (1, .ref (adr E 15)), (2, .ref (adr E 10)), (3, .int x3), (5, .int x5), (7, .int x7)] [] M := by
  intro x3 x5 x7 hf
  unfold j_M_chosen_0_15_10_108 at hf
  refine rx_iload hG dX10_chosen_108 5 rfl ?_
  refine rx_istore (lv2 := [(4, .int x7), (0, .ref (adr E 0)), (1, .ref (adr E 15)), (2, .ref (adr E 10)), (3, .int x3), (5, .int x5), (7, .int x7)]) hG dX10_chosen_110 (Nat.le_of_ble_eq_true rfl) rfl ?_
  refine rx_sub hG [1, 2, 3, 4, 0, 5] (lv' := [(0, .ref (adr E 0)), (1, .ref (adr E 15)), (2, .ref (adr E 10)), (3, .int x3), (4, .int x7), (5, .int x5)]) rfl ?_
  exact Lj_M_chosen_0_15_10_112 l E T hG rc6 hrc6 x3 x7 x5 hf
set_option maxHeartbeats 4000000 in
set_option maxRecDepth 100000 in
theorem Lj_M_chosen_0_15_10_56 (l : Launch) (E : En) (T : List Sk) {a0 b0 kc ks : Nat} {r : Int32} {M : Mm} {G : Nat → List (Nat × Value) → List Value → Mm → Prop} (hG : RX l (SKM ++ T) E RX10 cX10_chosen 8 (some .int) { frames := 4, cells := a0, slots := b0, locals := 93 } kc ks (some (.int r)) M G) (rc6 : Int32 → Int32 → Int32 → Mm → Option Int32) (hrc6 : ∀ (x3 : Int32) (x4 : Int32) (x5 : Int32), rc6 x3 x4 x5 M = some r → G 6 [(0, .ref (adr E 0)), (1, .ref (adr E 15)), (2, .ref (adr E 10)), (3, .int x3), (4, .int x4), (5, .int x5)] [] M) : ∀ (x3 : Int32) (x4 : Int32) (x5 : Int32) (t0 : Int32), j_M_chosen_0_15_10_56 rc6 x3 x4 x5 t0 M = some r → G 56 [(0, .ref (adr E 0)), (1, .ref (adr E 15)), (2, .ref (adr E 10)), (3, .int x3), (4, .int x4), (5, .int x5)] [.int t0] M := by
  intro x3 x4 x5 t0 hf
  unfold j_M_chosen_0_15_10_56 at hf
  refine rx_istore (lv2 := [(7, .int t0), (0, .ref (adr E 0)), (1, .ref (adr E 15)), (2, .ref (adr E 10)), (3, .int x3), (4, .int x4), (5, .int x5)]) hG dX10_chosen_56 (Nat.le_of_ble_eq_true rfl) rfl ?_
  refine rx_aload_n hG dX10_chosen_58 1 rfl ?_
  refine rx_aload_n hG dX10_chosen_59 2 rfl ?_
  refine rx_aload_n hG dX10_chosen_60 3 rfl ?_
  refine rx_iload_n hG dX10_chosen_61 4 rfl ?_
  refine rx_iload hG dX10_chosen_62 0 rfl ?_
  obtain ⟨v1, hv1, hf⟩ := bindE hf
  refine rx_cVi hG (c_M_can_0_15_10 l E T x3 t0 hv1) (skM0 T) rfl rfl kw_M_284 ⟨Nat.le_of_ble_eq_true rfl, Nat.le_of_ble_eq_true rfl⟩ rfl (Nat.le_of_ble_eq_true rfl) dX10_chosen_64 ?_
  refine rx_if_ne hG 73 dX10_chosen_67 rfl (fun c2 => ?_) (fun c2 => ?_)
  · have hf := ifF hf c2
    refine rx_iload hG dX10_chosen_73 5 rfl ?_
    refine rx_iconst hG (-1) dX10_chosen_75 ic_m1 ?_
    refine rx_icmp_eq hG 108 dX10_chosen_76 rfl (fun c3 => ?_) (fun c3 => ?_)
    · have hf := ifT hf c3
      refine rx_sub hG [1, 2, 3, 4, 6, 0] (lv' := [(0, .ref (adr E 0)), (1, .ref (adr E 15)), (2, .ref (adr E 10)), (3, .int x3), (5, .int x5), (7, .int t0)]) rfl ?_
      exact Lj_M_chosen_0_15_10_108 l E T hG rc6 hrc6 x3 x5 t0 hf
    · have hf := ifF hf c3
      refine rx_aload_n hG dX10_chosen_79 3 rfl ?_
      refine rx_bipush hG 36 dX10_chosen_80 bp_36 ?_
      obtain ⟨v4, hv4, hf⟩ := bindE hf
      refine rx_iald hG (skM10 T) hv4 dX10_chosen_82 ?_
      refine rx_iconst hG 1 dX10_chosen_83 ic_1 ?_
      refine rx_icmp_ne hG 112 dX10_chosen_84 rfl (fun c5 => ?_) (fun c5 => ?_)
      · have hf := ifF hf c5
        refine rx_sub hG [1, 2, 3, 4, 5, 6] (lv' := [(0, .ref (adr E 0)), (1, .ref (adr E 15)), (2, .ref (adr E 10)), (3, .int x3), (4, .int x4), (5, .int x5)]) rfl ?_
        exact Lj_M_chosen_0_15_10_112 l E T hG rc6 hrc6 x3 x4 x5 hf
      · have hf := ifT hf c5
        refine rx_aload_n hG dX10_chosen_87 1 rfl ?_
        refine rx_aload_n hG dX10_chosen_88 2 rfl ?_
        refine rx_aload_n hG dX10_chosen_89 3 rfl ?_
        refine rx_iload_n hG dX10_chosen_90 4 rfl ?_
        refine rx_iload hG dX10_chosen_91 0 rfl ?_
        obtain ⟨v6, hv6, hf⟩ := bindE hf
        refine rx_cVi hG (c_M_free_0_15_10 l E T x3 t0 hv6) (skM0 T) rfl rfl kw_M_280 ⟨Nat.le_of_ble_eq_true rfl, Nat.le_of_ble_eq_true rfl⟩ rfl (Nat.le_of_ble_eq_true rfl) dX10_chosen_93 ?_
        refine rx_aload_n hG dX10_chosen_96 1 rfl ?_
        refine rx_aload_n hG dX10_chosen_97 2 rfl ?_
        refine rx_aload_n hG dX10_chosen_98 3 rfl ?_
        refine rx_iload_n hG dX10_chosen_99 4 rfl ?_
        refine rx_iload hG dX10_chosen_100 5 rfl ?_
        obtain ⟨v7, hv7, hf⟩ := bindE hf
        refine rx_cVi hG (c_M_free_0_15_10 l E T x3 x4 hv7) (skM0 T) rfl rfl kw_M_280 ⟨Nat.le_of_ble_eq_true rfl, Nat.le_of_ble_eq_true rfl⟩ rfl (Nat.le_of_ble_eq_true rfl) dX10_chosen_102 ?_
        refine rx_icmp_le hG 112 dX10_chosen_105 rfl (fun c8 => ?_) (fun c8 => ?_)
        · have hf := ifT hf c8
          refine rx_sub hG [1, 2, 3, 4, 5, 6] (lv' := [(0, .ref (adr E 0)), (1, .ref (adr E 15)), (2, .ref (adr E 10)), (3, .int x3), (4, .int x4), (5, .int x5)]) rfl ?_
          exact Lj_M_chosen_0_15_10_112 l E T hG rc6 hrc6 x3 x4 x5 hf
        · have hf := ifF hf c8
          refine rx_sub hG [1, 2, 3, 4, 6, 0] (lv' := [(0, .ref (adr E 0)), (1, .ref (adr E 15)), (2, .ref (adr E 10)), (3, .int x3), (5, .int x5), (7, .int t0)]) rfl ?_
          exact Lj_M_chosen_0_15_10_108 l E T hG rc6 hrc6 x3 x5 t0 hf
  · have hf := ifT hf c2
    refine rx_goto hG 112 dX10_chosen_70 rfl ?_
    refine rx_sub hG [1, 2, 3, 4, 5, 6] (lv' := [(0, .ref (adr E 0)), (1, .ref (adr E 15)), (2, .ref (adr E 10)), (3, .int x3), (4, .int x4), (5, .int x5)]) rfl ?_
    exact Lj_M_chosen_0_15_10_112 l E T hG rc6 hrc6 x3 x4 x5 hf
set_option maxHeartbeats 4000000 in
set_option maxRecDepth 100000 in
theorem Lj_M_chosen_0_15_10_52 (l : Launch) (E : En) (T : List Sk) {a0 b0 kc ks : Nat} {r : Int32} {M : Mm} {G : Nat → List (Nat × Value) → List Value → Mm → Prop} (hG : RX l (SKM ++ T) E RX10 cX10_chosen 8 (some .int) { frames := 4, cells := a0, slots := b0, locals := 93 } kc ks (some (.int r)) M G) (rc6 : Int32 → Int32 → Int32 → Mm → Option Int32) (hrc6 : ∀ (x3 : Int32) (x4 : Int32) (x5 : Int32), rc6 x3 x4 x5 M = some r → G 6 [(0, .ref (adr E 0)), (1, .ref (adr E 15)), (2, .ref (adr E 10)), (3, .int x3), (4, .int x4), (5, .int x5)] [] M) : ∀ (x3 : Int32) (x4 : Int32) (x5 : Int32), j_M_chosen_0_15_10_52 rc6 x3 x4 x5 M = some r → G 52 [(0, .ref (adr E 0)), (1, .ref (adr E 15)), (2, .ref (adr E 10)), (3, .int x3), (4, .int x4), (5, .int x5)] [] M := by
  intro x3 x4 x5 hf
  unfold j_M_chosen_0_15_10_52 at hf
  refine rx_iload hG dX10_chosen_52 5 rfl ?_
  refine rx_iconst hG 1 dX10_chosen_54 ic_1 ?_
  refine rx_isub hG dX10_chosen_55 ?_
  exact Lj_M_chosen_0_15_10_56 l E T hG rc6 hrc6 x3 x4 x5 (x5 - 1) hf
set_option maxHeartbeats 4000000 in
set_option maxRecDepth 100000 in
theorem Lblp_M_chosen_0_15_10_6 (l : Launch) (E : En) (T : List Sk) {a0 b0 kc ks : Nat} {r : Int32} {M : Mm} {G : Nat → List (Nat × Value) → List Value → Mm → Prop} (hG : RX l (SKM ++ T) E RX10 cX10_chosen 8 (some .int) { frames := 4, cells := a0, slots := b0, locals := 93 } kc ks (some (.int r)) M G) (rc6 : Int32 → Int32 → Int32 → Mm → Option Int32) (hrc6 : ∀ (x3 : Int32) (x4 : Int32) (x5 : Int32), rc6 x3 x4 x5 M = some r → G 6 [(0, .ref (adr E 0)), (1, .ref (adr E 15)), (2, .ref (adr E 10)), (3, .int x3), (4, .int x4), (5, .int x5)] [] M) : ∀ (x3 : Int32) (x4 : Int32) (x5 : Int32), blp_M_chosen_0_15_10_6 rc6 x3 x4 x5 M = some r → G 6 [(0, .ref (adr E 0)), (1, .ref (adr E 15)), (2, .ref (adr E 10)), (3, .int x3), (4, .int x4), (5, .int x5)] [] M := by
  intro x3 x4 x5 hf
  unfold blp_M_chosen_0_15_10_6 at hf
  refine rx_iload hG dX10_chosen_6 5 rfl ?_
  refine rx_aload_n hG dX10_chosen_8 0 rfl ?_
  refine gfM_M_248_0 l E T hG dX10_chosen_9 ?_
  refine rx_icmp_gt hG 118 dX10_chosen_12 rfl (fun c1 => ?_) (fun c1 => ?_)
  · have hf := ifT hf c1
    refine rx_iload hG dX10_chosen_118 4 rfl ?_
    cases hf
    exact rx_iret hG dX10_chosen_120
  · have hf := ifF hf c1
    refine rx_aload_n hG dX10_chosen_15 1 rfl ?_
    refine rx_iload_n hG dX10_chosen_16 3 rfl ?_
    refine rx_iconst hG 3 dX10_chosen_17 ic_3 ?_
    obtain ⟨v2, hv2, hf⟩ := bindE hf
    refine rx_cSi hG (c_M_of l E (SKM ++ T) x3 3 hv2) kw_M_264 ⟨Nat.le_of_ble_eq_true rfl, Nat.le_of_ble_eq_true rfl⟩ rfl (Nat.le_of_ble_eq_true rfl) dX10_chosen_18 ?_
    obtain ⟨v3, hv3, hf⟩ := bindE hf
    refine rx_iald hG (skM15 T) hv3 dX10_chosen_21 ?_
    refine rx_istore (lv2 := [(6, .int v3), (0, .ref (adr E 0)), (1, .ref (adr E 15)), (2, .ref (adr E 10)), (3, .int x3), (4, .int x4), (5, .int x5)]) hG dX10_chosen_22 (Nat.le_of_ble_eq_true rfl) rfl ?_
    refine rx_aload_n hG dX10_chosen_24 3 rfl ?_
    refine rx_bipush hG 36 dX10_chosen_25 bp_36 ?_
    obtain ⟨v4, hv4, hf⟩ := bindE hf
    refine rx_iald hG (skM10 T) hv4 dX10_chosen_27 ?_
    refine rx_iconst hG 2 dX10_chosen_28 ic_2 ?_
    refine rx_icmp_ne hG 52 dX10_chosen_29 rfl (fun c5 => ?_) (fun c5 => ?_)
    · have hf := ifF hf c5
      refine rx_sub hG [1, 2, 3, 4, 5, 6] (lv' := [(0, .ref (adr E 0)), (1, .ref (adr E 15)), (2, .ref (adr E 10)), (3, .int x3), (4, .int x4), (5, .int x5)]) rfl ?_
      exact Lj_M_chosen_0_15_10_52 l E T hG rc6 hrc6 x3 x4 x5 hf
    · have hf := ifT hf c5
      refine rx_iload hG dX10_chosen_32 0 rfl ?_
      refine rx_bipush hG (-2) dX10_chosen_34 bp_m2 ?_
      refine rx_icmp_eq hG 52 dX10_chosen_36 rfl (fun c6 => ?_) (fun c6 => ?_)
      · have hf := ifT hf c6
        refine rx_sub hG [1, 2, 3, 4, 5, 6] (lv' := [(0, .ref (adr E 0)), (1, .ref (adr E 15)), (2, .ref (adr E 10)), (3, .int x3), (4, .int x4), (5, .int x5)]) rfl ?_
        exact Lj_M_chosen_0_15_10_52 l E T hG rc6 hrc6 x3 x4 x5 hf
      · have hf := ifF hf c6
        refine rx_iload hG dX10_chosen_39 0 rfl ?_
        refine rx_iload hG dX10_chosen_41 6 rfl ?_
        refine rx_iadd hG dX10_chosen_43 ?_
        refine rx_aload_n hG dX10_chosen_44 1 rfl ?_
        refine gfM_M_248_0 l E T hG dX10_chosen_45 ?_
        obtain ⟨v7, hv7, hf⟩ := bindE hf
        refine rx_irem hG hv7 dX10_chosen_48 ?_
        refine rx_goto hG 56 dX10_chosen_49 rfl ?_
        refine rx_sub hG [1, 2, 3, 4, 5, 6] (lv' := [(0, .ref (adr E 0)), (1, .ref (adr E 15)), (2, .ref (adr E 10)), (3, .int x3), (4, .int x4), (5, .int x5)]) rfl ?_
        exact Lj_M_chosen_0_15_10_56 l E T hG rc6 hrc6 x3 x4 x5 v7 hf
theorem Llp_M_chosen_0_15_10_6 (l : Launch) (E : En) (T : List Sk) {a0 b0 kc ks : Nat} {r : Int32} {M : Mm} {G : Nat → List (Nat × Value) → List Value → Mm → Prop} (hG : RX l (SKM ++ T) E RX10 cX10_chosen 8 (some .int) { frames := 4, cells := a0, slots := b0, locals := 93 } kc ks (some (.int r)) M G)  : ∀ (n : Nat) (x3 : Int32) (x4 : Int32) (x5 : Int32), lp_M_chosen_0_15_10_6  n x3 x4 x5 M = some r → G 6 [(0, .ref (adr E 0)), (1, .ref (adr E 15)), (2, .ref (adr E 10)), (3, .int x3), (4, .int x4), (5, .int x5)] [] M := by
  intro n
  induction n with
  | zero => intro x3 x4 x5 hf; cases hf
  | succ n ih => intro x3 x4 x5 hf; exact Lblp_M_chosen_0_15_10_6 l E T hG  (lp_M_chosen_0_15_10_6  n) ih x3 x4 x5 hf
set_option maxHeartbeats 4000000 in
set_option maxRecDepth 100000 in
theorem c_M_chosen_0_15_10 (l : Launch) (E : En) (T : List Sk) (p0 : Int32) {M : Mm} {r : Int32} (h : f_M_chosen_0_15_10 p0 M = some r) : Ct l (SKM ++ T) E yX10_chosen cX10_chosen 8 (some .int) 4 93 [.ref (adr E 0), .ref (adr E 15), .ref (adr E 10), .int p0] M (some (.int r)) M := by
  refine ct_of (by decide) (Nat.le_of_ble_eq_true rfl) ?_
  intro G hG
  show G 0 [(0, .ref (adr E 0)), (1, .ref (adr E 15)), (2, .ref (adr E 10)), (3, .int p0)] [] M
  have hf := h
  unfold f_M_chosen_0_15_10 at hf
  refine rx_iconst hG (-1) dX10_chosen_0 ic_m1 ?_
  refine rx_istore (lv2 := [(4, .int (-1)), (0, .ref (adr E 0)), (1, .ref (adr E 15)), (2, .ref (adr E 10)), (3, .int p0)]) hG dX10_chosen_1 (Nat.le_of_ble_eq_true rfl) rfl ?_
  refine rx_iconst hG 1 dX10_chosen_3 ic_1 ?_
  refine rx_istore (lv2 := [(5, .int 1), (4, .int (-1)), (0, .ref (adr E 0)), (1, .ref (adr E 15)), (2, .ref (adr E 10)), (3, .int p0)]) hG dX10_chosen_4 (Nat.le_of_ble_eq_true rfl) rfl ?_
  refine rx_sub hG [2, 3, 4, 5, 1, 0] (lv' := [(0, .ref (adr E 0)), (1, .ref (adr E 15)), (2, .ref (adr E 10)), (3, .int p0), (4, .int (-1)), (5, .int 1)]) rfl ?_
  exact Llp_M_chosen_0_15_10_6 l E T hG  FW p0 (-1) 1 hf
set_option maxHeartbeats 4000000 in
set_option maxRecDepth 100000 in
theorem Lj_M_starts_0_15_10_54 (l : Launch) (E : En) (T : List Sk) {a0 b0 kc ks : Nat} {M' : Mm} {G : Nat → List (Nat × Value) → List Value → Mm → Prop} (hG : RX l (SKM ++ T) E RX10 cX10_starts 7 none { frames := 5, cells := a0, slots := b0, locals := 120 } kc ks none M' G)  : ∀ (x3 : Int32) (x4 : Int32) (x5 : Int32) (x6 : Int32) (M : Mm), j_M_starts_0_15_10_54  x3 x4 x5 x6 M = some M' → G 54 [(0, .ref (adr E 0)), (1, .ref (adr E 15)), (2, .ref (adr E 10)), (3, .int x3), (4, .int x4), (5, .int x5), (6, .int x6)] [] M := by
  intro x3 x4 x5 x6 M hf
  unfold j_M_starts_0_15_10_54 at hf
  refine rx_aload_n hG dX10_starts_54 1 rfl ?_
  refine rx_iload_n hG dX10_starts_55 3 rfl ?_
  refine rx_iconst hG 0 dX10_starts_56 ic_0 ?_
  obtain ⟨v1, hv1, hf⟩ := bindE hf
  refine rx_cSi hG (c_M_of l E (SKM ++ T) x3 0 hv1) kw_M_264 ⟨Nat.le_of_ble_eq_true rfl, Nat.le_of_ble_eq_true rfl⟩ rfl (Nat.le_of_ble_eq_true rfl) dX10_starts_57 ?_
  refine rx_iconst hG 1 dX10_starts_60 ic_1 ?_
  obtain ⟨M2, hM2, hf⟩ := bindE hf
  refine rx_iast hG (skM15 T) hM2 dX10_starts_61 ?_
  refine rx_aload_n hG dX10_starts_62 1 rfl ?_
  refine rx_iload_n hG dX10_starts_63 3 rfl ?_
  refine rx_iconst hG 1 dX10_starts_64 ic_1 ?_
  obtain ⟨v3, hv3, hf⟩ := bindE hf
  refine rx_cSi hG (c_M_of l E (SKM ++ T) x3 1 hv3) kw_M_264 ⟨Nat.le_of_ble_eq_true rfl, Nat.le_of_ble_eq_true rfl⟩ rfl (Nat.le_of_ble_eq_true rfl) dX10_starts_65 ?_
  refine rx_iload hG dX10_starts_68 5 rfl ?_
  obtain ⟨M4, hM4, hf⟩ := bindE hf
  refine rx_iast hG (skM15 T) hM4 dX10_starts_70 ?_
  refine rx_aload_n hG dX10_starts_71 1 rfl ?_
  refine rx_iload_n hG dX10_starts_72 3 rfl ?_
  refine rx_iconst hG 3 dX10_starts_73 ic_3 ?_
  obtain ⟨v5, hv5, hf⟩ := bindE hf
  refine rx_cSi hG (c_M_of l E (SKM ++ T) x3 3 hv5) kw_M_264 ⟨Nat.le_of_ble_eq_true rfl, Nat.le_of_ble_eq_true rfl⟩ rfl (Nat.le_of_ble_eq_true rfl) dX10_starts_74 ?_
  refine rx_iload hG dX10_starts_77 5 rfl ?_
  obtain ⟨M6, hM6, hf⟩ := bindE hf
  refine rx_iast hG (skM15 T) hM6 dX10_starts_79 ?_
  refine rx_aload_n hG dX10_starts_80 1 rfl ?_
  refine rx_iload_n hG dX10_starts_81 3 rfl ?_
  refine rx_iconst hG 2 dX10_starts_82 ic_2 ?_
  obtain ⟨v7, hv7, hf⟩ := bindE hf
  refine rx_cSi hG (c_M_of l E (SKM ++ T) x3 2 hv7) kw_M_264 ⟨Nat.le_of_ble_eq_true rfl, Nat.le_of_ble_eq_true rfl⟩ rfl (Nat.le_of_ble_eq_true rfl) dX10_starts_83 ?_
  refine rx_iload hG dX10_starts_86 4 rfl ?_
  refine rx_aload_n hG dX10_starts_88 2 rfl ?_
  refine rx_bipush hG 18 dX10_starts_89 bp_18 ?_
  refine rx_iconst hG 3 dX10_starts_91 ic_3 ?_
  refine rx_iload_n hG dX10_starts_92 3 rfl ?_
  refine rx_imul hG dX10_starts_93 ?_
  refine rx_iadd hG dX10_starts_94 ?_
  refine rx_iload hG dX10_starts_95 5 rfl ?_
  refine rx_iadd hG dX10_starts_97 ?_
  obtain ⟨v8, hv8, hf⟩ := bindE hf
  refine rx_iald hG (skM10 T) hv8 dX10_starts_98 ?_
  refine rx_iadd hG dX10_starts_99 ?_
  refine rx_iload hG dX10_starts_100 6 rfl ?_
  refine rx_bipush hG (-2) dX10_starts_102 bp_m2 ?_
  refine rx_icmp_eq hG 123 dX10_starts_104 rfl (fun c9 => ?_) (fun c9 => ?_)
  · have hf := ifT hf c9
    refine rx_iconst hG 0 dX10_starts_123 ic_0 ?_
    refine rx_iadd hG dX10_starts_124 ?_
    obtain ⟨M10, hM10, hf⟩ := bindE hf
    refine rx_iast hG (skM15 T) hM10 dX10_starts_125 ?_
    cases hf
    exact rx_vret hG dX10_starts_126
  · have hf := ifF hf c9
    refine rx_iload hG dX10_starts_107 6 rfl ?_
    refine rx_iload hG dX10_starts_109 5 rfl ?_
    refine rx_icmp_eq hG 123 dX10_starts_111 rfl (fun c11 => ?_) (fun c11 => ?_)
    · have hf := ifT hf c11
      refine rx_iconst hG 0 dX10_starts_123 ic_0 ?_
      refine rx_iadd hG dX10_starts_124 ?_
      obtain ⟨M12, hM12, hf⟩ := bindE hf
      refine rx_iast hG (skM15 T) hM12 dX10_starts_125 ?_
      cases hf
      exact rx_vret hG dX10_starts_126
    · have hf := ifF hf c11
      refine rx_aload_n hG dX10_starts_114 0 rfl ?_
      refine gfM_M_24_0 l E T hG dX10_starts_115 ?_
      refine rx_iload_n hG dX10_starts_118 3 rfl ?_
      obtain ⟨v13, hv13, hf⟩ := bindE hf
      refine rx_iald hG (skM4 T) hv13 dX10_starts_119 ?_
      refine rx_goto hG 124 dX10_starts_120 rfl ?_
      refine rx_iadd hG dX10_starts_124 ?_
      obtain ⟨M14, hM14, hf⟩ := bindE hf
      refine rx_iast hG (skM15 T) hM14 dX10_starts_125 ?_
      cases hf
      exact rx_vret hG dX10_starts_126
set_option maxHeartbeats 4000000 in
set_option maxRecDepth 100000 in
theorem c_M_starts_0_15_10 (l : Launch) (E : En) (T : List Sk) (p0 : Int32) (p1 : Int32) {M M' : Mm} (h : f_M_starts_0_15_10 p0 p1 M = some M') : Ct l (SKM ++ T) E yX10_starts cX10_starts 7 none 5 120 [.ref (adr E 0), .ref (adr E 15), .ref (adr E 10), .int p0, .int p1] M none M' := by
  refine ct_of (by decide) (Nat.le_of_ble_eq_true rfl) ?_
  intro G hG
  show G 0 [(0, .ref (adr E 0)), (1, .ref (adr E 15)), (2, .ref (adr E 10)), (3, .int p0), (4, .int p1)] [] M
  have hf := h
  unfold f_M_starts_0_15_10 at hf
  refine rx_aload_n hG dX10_starts_0 1 rfl ?_
  refine rx_iload_n hG dX10_starts_1 3 rfl ?_
  refine rx_iconst hG 0 dX10_starts_2 ic_0 ?_
  obtain ⟨v1, hv1, hf⟩ := bindE hf
  refine rx_cSi hG (c_M_of l E (SKM ++ T) p0 0 hv1) kw_M_264 ⟨Nat.le_of_ble_eq_true rfl, Nat.le_of_ble_eq_true rfl⟩ rfl (Nat.le_of_ble_eq_true rfl) dX10_starts_3 ?_
  obtain ⟨v2, hv2, hf⟩ := bindE hf
  refine rx_iald hG (skM15 T) hv2 dX10_starts_6 ?_
  refine rx_if_eq hG 11 dX10_starts_7 rfl (fun c3 => ?_) (fun c3 => ?_)
  · have hf := ifT hf c3
    refine rx_aload_n hG dX10_starts_11 0 rfl ?_
    refine rx_aload_n hG dX10_starts_12 1 rfl ?_
    refine rx_aload_n hG dX10_starts_13 2 rfl ?_
    refine rx_iload_n hG dX10_starts_14 3 rfl ?_
    obtain ⟨v4, hv4, hf⟩ := bindE hf
    refine rx_cVi hG (c_M_chosen_0_15_10 l E T p0 hv4) (skM0 T) rfl rfl kw_M_288 ⟨Nat.le_of_ble_eq_true rfl, Nat.le_of_ble_eq_true rfl⟩ rfl (Nat.le_of_ble_eq_true rfl) dX10_starts_15 ?_
    refine rx_istore (lv2 := [(5, .int v4), (0, .ref (adr E 0)), (1, .ref (adr E 15)), (2, .ref (adr E 10)), (3, .int p0), (4, .int p1)]) hG dX10_starts_18 (Nat.le_of_ble_eq_true rfl) rfl ?_
    refine rx_iload hG dX10_starts_20 0 rfl ?_
    refine rx_iconst hG (-1) dX10_starts_22 ic_m1 ?_
    refine rx_icmp_ne hG 27 dX10_starts_23 rfl (fun c5 => ?_) (fun c5 => ?_)
    · have hf := ifF hf c5
      refine rx_aload_n hG dX10_starts_27 2 rfl ?_
      refine rx_iload_n hG dX10_starts_28 4 rfl ?_
      refine rx_iconst hG 3 dX10_starts_29 ic_3 ?_
      obtain ⟨v6, hv6, hf⟩ := bindE hf
      refine rx_cSi hG (c_M_of l E (SKM ++ T) p0 3 hv6) kw_M_264 ⟨Nat.le_of_ble_eq_true rfl, Nat.le_of_ble_eq_true rfl⟩ rfl (Nat.le_of_ble_eq_true rfl) dX10_starts_30 ?_
      obtain ⟨v7, hv7, hf⟩ := bindE hf
      refine rx_iald hG (skM15 T) hv7 dX10_starts_33 ?_
      refine rx_istore (lv2 := [(6, .int v7), (5, .int v4), (0, .ref (adr E 0)), (1, .ref (adr E 15)), (2, .ref (adr E 10)), (3, .int p0), (4, .int p1)]) hG dX10_starts_34 (Nat.le_of_ble_eq_true rfl) rfl ?_
      refine rx_iload_n hG dX10_starts_36 5 rfl ?_
      refine rx_if_le hG 54 dX10_starts_37 rfl (fun c8 => ?_) (fun c8 => ?_)
      · have hf := ifT hf c8
        refine rx_sub hG [2, 3, 4, 5, 6, 1, 0] (lv' := [(0, .ref (adr E 0)), (1, .ref (adr E 15)), (2, .ref (adr E 10)), (3, .int p0), (4, .int p1), (5, .int v4), (6, .int v7)]) rfl ?_
        exact Lj_M_starts_0_15_10_54 l E T hG  p0 p1 v4 v7 M hf
      · have hf := ifF hf c8
        refine rx_aload_n hG dX10_starts_40 3 rfl ?_
        refine rx_iload_n hG dX10_starts_41 5 rfl ?_
        refine rx_iconst hG 1 dX10_starts_42 ic_1 ?_
        refine rx_isub hG dX10_starts_43 ?_
        refine rx_iload hG dX10_starts_44 1 rfl ?_
        obtain ⟨v9, hv9, hf⟩ := bindE hf
        refine rx_cSi hG (c_M_store l E (SKM ++ T) (p0 - 1) v4 hv9) kw_M_267 ⟨Nat.le_of_ble_eq_true rfl, Nat.le_of_ble_eq_true rfl⟩ rfl (Nat.le_of_ble_eq_true rfl) dX10_starts_46 ?_
        refine rx_dup2 hG dX10_starts_49 rfl rfl ?_
        obtain ⟨v10, hv10, hf⟩ := bindE hf
        refine rx_iald hG (skM15 T) hv10 dX10_starts_50 ?_
        refine rx_iconst hG 1 dX10_starts_51 ic_1 ?_
        refine rx_isub hG dX10_starts_52 ?_
        obtain ⟨M11, hM11, hf⟩ := bindE hf
        refine rx_iast hG (skM15 T) hM11 dX10_starts_53 ?_
        refine rx_sub hG [2, 3, 4, 5, 6, 1, 0] (lv' := [(0, .ref (adr E 0)), (1, .ref (adr E 15)), (2, .ref (adr E 10)), (3, .int p0), (4, .int p1), (5, .int v4), (6, .int v7)]) rfl ?_
        exact Lj_M_starts_0_15_10_54 l E T hG  p0 p1 v4 v7 M11 hf
    · have hf := ifT hf c5
      cases hf
      exact rx_vret hG dX10_starts_26
  · have hf := ifF hf c3
    cases hf
    exact rx_vret hG dX10_starts_10
set_option maxHeartbeats 4000000 in
set_option maxRecDepth 100000 in
theorem Lj_M_comeIn_0_62 (l : Launch) (E : En) (T : List Sk) {a0 b0 kc ks : Nat} {r : Int32} {M : Mm} {G : Nat → List (Nat × Value) → List Value → Mm → Prop} (hG : RX l (SKM ++ T) E RX10 cX10_comeIn 5 (some .int) { frames := 0, cells := a0, slots := b0, locals := 0 } kc ks (some (.int r)) M G) (rc5 : Int32 → Int32 → Int32 → Int32 → Mm → Option Int32) (hrc5 : ∀ (x1 : Int32) (x2 : Int32) (x3 : Int32) (x4 : Int32), rc5 x1 x2 x3 x4 M = some r → G 5 [(0, .ref (adr E 0)), (1, .int x1), (2, .int x2), (3, .int x3), (4, .int x4)] [] M) : ∀ (x1 : Int32) (x2 : Int32) (x4 : Int32) (t0 : Int32) (t1 : Int32), j_M_comeIn_0_62 rc5 x1 x2 x4 t0 t1 M = some r → G 62 [(0, .ref (adr E 0)), (1, .int x1), (2, .int x2), (4, .int x4)] [.int t0, .int t1] M := by
  intro x1 x2 x4 t0 t1 hf
  unfold j_M_comeIn_0_62 at hf
  refine rx_iadd hG dX10_comeIn_62 ?_
  refine rx_istore_n (lv2 := [(3, .int (t1 + t0)), (0, .ref (adr E 0)), (1, .int x1), (2, .int x2), (4, .int x4)]) hG dX10_comeIn_63 (Nat.le_of_ble_eq_true rfl) rfl ?_
  refine rx_iinc (lv2 := [(4, .int (x4 + 1)), (3, .int (t1 + t0)), (0, .ref (adr E 0)), (1, .int x1), (2, .int x2)]) hG 1 dX10_comeIn_64 ic_1 4 rfl (Nat.le_of_ble_eq_true rfl) rfl ?_
  refine rx_goto hG 5 dX10_comeIn_67 rfl ?_
  refine rx_sub hG [2, 3, 4, 1, 0] (lv' := [(0, .ref (adr E 0)), (1, .int x1), (2, .int x2), (3, .int (t1 + t0)), (4, .int (x4 + 1))]) rfl ?_
  exact hrc5 x1 x2 (t1 + t0) (x4 + 1) hf
set_option maxHeartbeats 4000000 in
set_option maxRecDepth 100000 in
theorem Lj_M_comeIn_0_61 (l : Launch) (E : En) (T : List Sk) {a0 b0 kc ks : Nat} {r : Int32} {M : Mm} {G : Nat → List (Nat × Value) → List Value → Mm → Prop} (hG : RX l (SKM ++ T) E RX10 cX10_comeIn 5 (some .int) { frames := 0, cells := a0, slots := b0, locals := 0 } kc ks (some (.int r)) M G) (rc5 : Int32 → Int32 → Int32 → Int32 → Mm → Option Int32) (hrc5 : ∀ (x1 : Int32) (x2 : Int32) (x3 : Int32) (x4 : Int32), rc5 x1 x2 x3 x4 M = some r → G 5 [(0, .ref (adr E 0)), (1, .int x1), (2, .int x2), (3, .int x3), (4, .int x4)] [] M) : ∀ (x1 : Int32) (x2 : Int32) (x4 : Int32) (t0 : Int32), j_M_comeIn_0_61 rc5 x1 x2 x4 t0 M = some r → G 61 [(0, .ref (adr E 0)), (1, .int x1), (2, .int x2), (4, .int x4)] [.int t0] M := by
  intro x1 x2 x4 t0 hf
  unfold j_M_comeIn_0_61 at hf
  refine rx_iconst hG 0 dX10_comeIn_61 ic_0 ?_
  exact Lj_M_comeIn_0_62 l E T hG rc5 hrc5 x1 x2 x4 0 t0 hf
set_option maxHeartbeats 4000000 in
set_option maxRecDepth 100000 in
theorem Lblp_M_comeIn_0_5 (l : Launch) (E : En) (T : List Sk) {a0 b0 kc ks : Nat} {r : Int32} {M : Mm} {G : Nat → List (Nat × Value) → List Value → Mm → Prop} (hG : RX l (SKM ++ T) E RX10 cX10_comeIn 5 (some .int) { frames := 0, cells := a0, slots := b0, locals := 0 } kc ks (some (.int r)) M G) (rc5 : Int32 → Int32 → Int32 → Int32 → Mm → Option Int32) (hrc5 : ∀ (x1 : Int32) (x2 : Int32) (x3 : Int32) (x4 : Int32), rc5 x1 x2 x3 x4 M = some r → G 5 [(0, .ref (adr E 0)), (1, .int x1), (2, .int x2), (3, .int x3), (4, .int x4)] [] M) : ∀ (x1 : Int32) (x2 : Int32) (x3 : Int32) (x4 : Int32), blp_M_comeIn_0_5 rc5 x1 x2 x3 x4 M = some r → G 5 [(0, .ref (adr E 0)), (1, .int x1), (2, .int x2), (3, .int x3), (4, .int x4)] [] M := by
  intro x1 x2 x3 x4 hf
  unfold blp_M_comeIn_0_5 at hf
  refine rx_iload hG dX10_comeIn_5 4 rfl ?_
  refine rx_aload_n hG dX10_comeIn_7 0 rfl ?_
  refine gfM_M_251_0 l E T hG dX10_comeIn_8 ?_
  refine rx_icmp_ge hG 70 dX10_comeIn_11 rfl (fun c1 => ?_) (fun c1 => ?_)
  · have hf := ifT hf c1
    refine rx_iload_n hG dX10_comeIn_70 3 rfl ?_
    cases hf
    exact rx_iret hG dX10_comeIn_71
  · have hf := ifF hf c1
    refine rx_iload_n hG dX10_comeIn_14 3 rfl ?_
    refine rx_aload_n hG dX10_comeIn_15 0 rfl ?_
    refine gfM_M_33_0 l E T hG dX10_comeIn_16 ?_
    refine rx_iload hG dX10_comeIn_19 4 rfl ?_
    obtain ⟨v2, hv2, hf⟩ := bindE hf
    refine rx_iald hG (skM7 T) hv2 dX10_comeIn_21 ?_
    refine rx_iload_n hG dX10_comeIn_22 1 rfl ?_
    refine rx_icmp_ne hG 61 dX10_comeIn_23 rfl (fun c3 => ?_) (fun c3 => ?_)
    · have hf := ifF hf c3
      refine rx_sub hG [0, 1, 2, 4] (lv' := [(0, .ref (adr E 0)), (1, .int x1), (2, .int x2), (4, .int x4)]) rfl ?_
      exact Lj_M_comeIn_0_61 l E T hG rc5 hrc5 x1 x2 x4 x3 hf
    · have hf := ifT hf c3
      refine rx_iload_n hG dX10_comeIn_26 2 rfl ?_
      refine rx_aload_n hG dX10_comeIn_27 0 rfl ?_
      refine gfM_M_39_0 l E T hG dX10_comeIn_28 ?_
      refine rx_iload hG dX10_comeIn_31 4 rfl ?_
      obtain ⟨v4, hv4, hf⟩ := bindE hf
      refine rx_iald hG (skM9 T) hv4 dX10_comeIn_33 ?_
      refine rx_icmp_lt hG 61 dX10_comeIn_34 rfl (fun c5 => ?_) (fun c5 => ?_)
      · have hf := ifT hf c5
        refine rx_sub hG [0, 1, 2, 4] (lv' := [(0, .ref (adr E 0)), (1, .int x1), (2, .int x2), (4, .int x4)]) rfl ?_
        exact Lj_M_comeIn_0_61 l E T hG rc5 hrc5 x1 x2 x4 x3 hf
      · have hf := ifF hf c5
        refine rx_iload_n hG dX10_comeIn_37 2 rfl ?_
        refine rx_aload_n hG dX10_comeIn_38 0 rfl ?_
        refine gfM_M_39_0 l E T hG dX10_comeIn_39 ?_
        refine rx_iload hG dX10_comeIn_42 4 rfl ?_
        obtain ⟨v6, hv6, hf⟩ := bindE hf
        refine rx_iald hG (skM9 T) hv6 dX10_comeIn_44 ?_
        refine rx_isub hG dX10_comeIn_45 ?_
        refine rx_aload_n hG dX10_comeIn_46 0 rfl ?_
        refine gfM_M_36_0 l E T hG dX10_comeIn_47 ?_
        refine rx_iload hG dX10_comeIn_50 4 rfl ?_
        obtain ⟨v7, hv7, hf⟩ := bindE hf
        refine rx_iald hG (skM8 T) hv7 dX10_comeIn_52 ?_
        obtain ⟨v8, hv8, hf⟩ := bindE hf
        refine rx_irem hG hv8 dX10_comeIn_53 ?_
        refine rx_if_ne hG 61 dX10_comeIn_54 rfl (fun c9 => ?_) (fun c9 => ?_)
        · have hf := ifF hf c9
          refine rx_sub hG [0, 1, 2, 4] (lv' := [(0, .ref (adr E 0)), (1, .int x1), (2, .int x2), (4, .int x4)]) rfl ?_
          exact Lj_M_comeIn_0_61 l E T hG rc5 hrc5 x1 x2 x4 x3 hf
        · have hf := ifT hf c9
          refine rx_iconst hG 1 dX10_comeIn_57 ic_1 ?_
          refine rx_goto hG 62 dX10_comeIn_58 rfl ?_
          refine rx_sub hG [0, 1, 2, 4] (lv' := [(0, .ref (adr E 0)), (1, .int x1), (2, .int x2), (4, .int x4)]) rfl ?_
          exact Lj_M_comeIn_0_62 l E T hG rc5 hrc5 x1 x2 x4 1 x3 hf
theorem Llp_M_comeIn_0_5 (l : Launch) (E : En) (T : List Sk) {a0 b0 kc ks : Nat} {r : Int32} {M : Mm} {G : Nat → List (Nat × Value) → List Value → Mm → Prop} (hG : RX l (SKM ++ T) E RX10 cX10_comeIn 5 (some .int) { frames := 0, cells := a0, slots := b0, locals := 0 } kc ks (some (.int r)) M G)  : ∀ (n : Nat) (x1 : Int32) (x2 : Int32) (x3 : Int32) (x4 : Int32), lp_M_comeIn_0_5  n x1 x2 x3 x4 M = some r → G 5 [(0, .ref (adr E 0)), (1, .int x1), (2, .int x2), (3, .int x3), (4, .int x4)] [] M := by
  intro n
  induction n with
  | zero => intro x1 x2 x3 x4 hf; cases hf
  | succ n ih => intro x1 x2 x3 x4 hf; exact Lblp_M_comeIn_0_5 l E T hG  (lp_M_comeIn_0_5  n) ih x1 x2 x3 x4 hf
set_option maxHeartbeats 4000000 in
set_option maxRecDepth 100000 in
theorem c_M_comeIn_0 (l : Launch) (E : En) (T : List Sk) (p0 : Int32) (p1 : Int32) {M : Mm} {r : Int32} (h : f_M_comeIn_0 p0 p1 M = some r) : Ct l (SKM ++ T) E yX10_comeIn cX10_comeIn 5 (some .int) 0 0 [.ref (adr E 0), .int p0, .int p1] M (some (.int r)) M := by
  refine ct_of (by decide) (Nat.le_of_ble_eq_true rfl) ?_
  intro G hG
  show G 0 [(0, .ref (adr E 0)), (1, .int p0), (2, .int p1)] [] M
  have hf := h
  unfold f_M_comeIn_0 at hf
  refine rx_iconst hG 0 dX10_comeIn_0 ic_0 ?_
  refine rx_istore_n (lv2 := [(3, .int 0), (0, .ref (adr E 0)), (1, .int p0), (2, .int p1)]) hG dX10_comeIn_1 (Nat.le_of_ble_eq_true rfl) rfl ?_
  refine rx_iconst hG 0 dX10_comeIn_2 ic_0 ?_
  refine rx_istore (lv2 := [(4, .int 0), (3, .int 0), (0, .ref (adr E 0)), (1, .int p0), (2, .int p1)]) hG dX10_comeIn_3 (Nat.le_of_ble_eq_true rfl) rfl ?_
  refine rx_sub hG [2, 3, 4, 1, 0] (lv' := [(0, .ref (adr E 0)), (1, .int p0), (2, .int p1), (3, .int 0), (4, .int 0)]) rfl ?_
  exact Llp_M_comeIn_0_5 l E T hG  FW p0 p1 0 0 hf
set_option maxHeartbeats 4000000 in
set_option maxRecDepth 100000 in
theorem Lj_M_serves_0_15_155 (l : Launch) (E : En) (T : List Sk) {a0 b0 kc ks : Nat} {M' : Mm} {G : Nat → List (Nat × Value) → List Value → Mm → Prop} (hG : RX l (SKM ++ T) E RX10 cX10_serves 5 none { frames := 1, cells := a0, slots := b0, locals := 24 } kc ks none M' G) (rc28 : Int32 → Int32 → Int32 → Mm → Option Mm) (hrc28 : ∀ (x2 : Int32) (x3 : Int32) (x4 : Int32) (M : Mm), rc28 x2 x3 x4 M = some M' → G 28 [(0, .ref (adr E 0)), (1, .ref (adr E 15)), (2, .int x2), (3, .int x3), (4, .int x4)] [] M) : ∀ (x2 : Int32) (x3 : Int32) (x4 : Int32) (M : Mm), j_M_serves_0_15_155 rc28 x2 x3 x4 M = some M' → G 155 [(0, .ref (adr E 0)), (1, .ref (adr E 15)), (2, .int x2), (3, .int x3), (4, .int x4)] [] M := by
  intro x2 x3 x4 M hf
  unfold j_M_serves_0_15_155 at hf
  refine rx_aload_n hG dX10_serves_155 1 rfl ?_
  refine rx_iload hG dX10_serves_156 4 rfl ?_
  refine rx_dup2 hG dX10_serves_158 rfl rfl ?_
  obtain ⟨v1, hv1, hf⟩ := bindE hf
  refine rx_iald hG (skM15 T) hv1 dX10_serves_159 ?_
  refine rx_iconst hG 1 dX10_serves_160 ic_1 ?_
  refine rx_isub hG dX10_serves_161 ?_
  obtain ⟨M2, hM2, hf⟩ := bindE hf
  refine rx_iast hG (skM15 T) hM2 dX10_serves_162 ?_
  refine rx_goto hG 28 dX10_serves_163 rfl ?_
  exact hrc28 x2 x3 x4 M2 hf
set_option maxHeartbeats 4000000 in
set_option maxRecDepth 100000 in
theorem Lj_M_serves_0_15_96 (l : Launch) (E : En) (T : List Sk) {a0 b0 kc ks : Nat} {M' : Mm} {G : Nat → List (Nat × Value) → List Value → Mm → Prop} (hG : RX l (SKM ++ T) E RX10 cX10_serves 5 none { frames := 1, cells := a0, slots := b0, locals := 24 } kc ks none M' G) (rc28 : Int32 → Int32 → Int32 → Mm → Option Mm) (hrc28 : ∀ (x2 : Int32) (x3 : Int32) (x4 : Int32) (M : Mm), rc28 x2 x3 x4 M = some M' → G 28 [(0, .ref (adr E 0)), (1, .ref (adr E 15)), (2, .int x2), (3, .int x3), (4, .int x4)] [] M) : ∀ (x2 : Int32) (x3 : Int32) (x4 : Int32) (M : Mm), j_M_serves_0_15_96 rc28 x2 x3 x4 M = some M' → G 96 [(0, .ref (adr E 0)), (1, .ref (adr E 15)), (2, .int x2), (3, .int x3), (4, .int x4)] [] M := by
  intro x2 x3 x4 M hf
  unfold j_M_serves_0_15_96 at hf
  refine rx_aload_n hG dX10_serves_96 1 rfl ?_
  refine rx_iload_n hG dX10_serves_97 2 rfl ?_
  refine rx_iconst hG 4 dX10_serves_98 ic_4 ?_
  obtain ⟨v1, hv1, hf⟩ := bindE hf
  refine rx_cSi hG (c_M_ofKind l E (SKM ++ T) x2 4 hv1) kw_M_274 ⟨Nat.le_of_ble_eq_true rfl, Nat.le_of_ble_eq_true rfl⟩ rfl (Nat.le_of_ble_eq_true rfl) dX10_serves_99 ?_
  refine rx_dup2 hG dX10_serves_102 rfl rfl ?_
  obtain ⟨v2, hv2, hf⟩ := bindE hf
  refine rx_iald hG (skM15 T) hv2 dX10_serves_103 ?_
  refine rx_iconst hG 1 dX10_serves_104 ic_1 ?_
  refine rx_iadd hG dX10_serves_105 ?_
  obtain ⟨M3, hM3, hf⟩ := bindE hf
  refine rx_iast hG (skM15 T) hM3 dX10_serves_106 ?_
  refine rx_aload_n hG dX10_serves_107 1 rfl ?_
  refine rx_iload_n hG dX10_serves_108 2 rfl ?_
  refine rx_iconst hG 1 dX10_serves_109 ic_1 ?_
  obtain ⟨v4, hv4, hf⟩ := bindE hf
  refine rx_cSi hG (c_M_ofKind l E (SKM ++ T) x2 1 hv4) kw_M_274 ⟨Nat.le_of_ble_eq_true rfl, Nat.le_of_ble_eq_true rfl⟩ rfl (Nat.le_of_ble_eq_true rfl) dX10_serves_110 ?_
  refine rx_dup2 hG dX10_serves_113 rfl rfl ?_
  obtain ⟨v5, hv5, hf⟩ := bindE hf
  refine rx_iald hG (skM15 T) hv5 dX10_serves_114 ?_
  refine rx_iconst hG 1 dX10_serves_115 ic_1 ?_
  refine rx_iadd hG dX10_serves_116 ?_
  obtain ⟨M6, hM6, hf⟩ := bindE hf
  refine rx_iast hG (skM15 T) hM6 dX10_serves_117 ?_
  refine rx_aload_n hG dX10_serves_118 1 rfl ?_
  refine rx_iload_n hG dX10_serves_119 2 rfl ?_
  refine rx_iconst hG 2 dX10_serves_120 ic_2 ?_
  obtain ⟨v7, hv7, hf⟩ := bindE hf
  refine rx_cSi hG (c_M_ofKind l E (SKM ++ T) x2 2 hv7) kw_M_274 ⟨Nat.le_of_ble_eq_true rfl, Nat.le_of_ble_eq_true rfl⟩ rfl (Nat.le_of_ble_eq_true rfl) dX10_serves_121 ?_
  refine rx_dup2 hG dX10_serves_124 rfl rfl ?_
  obtain ⟨v8, hv8, hf⟩ := bindE hf
  refine rx_iald hG (skM15 T) hv8 dX10_serves_125 ?_
  refine rx_iload_n hG dX10_serves_126 3 rfl ?_
  refine rx_aload_n hG dX10_serves_127 1 rfl ?_
  refine rx_iload_n hG dX10_serves_128 2 rfl ?_
  refine rx_iconst hG 3 dX10_serves_129 ic_3 ?_
  obtain ⟨v9, hv9, hf⟩ := bindE hf
  refine rx_cSi hG (c_M_ofKind l E (SKM ++ T) x2 3 hv9) kw_M_274 ⟨Nat.le_of_ble_eq_true rfl, Nat.le_of_ble_eq_true rfl⟩ rfl (Nat.le_of_ble_eq_true rfl) dX10_serves_130 ?_
  obtain ⟨v10, hv10, hf⟩ := bindE hf
  refine rx_iald hG (skM15 T) hv10 dX10_serves_133 ?_
  refine rx_isub hG dX10_serves_134 ?_
  refine rx_iadd hG dX10_serves_135 ?_
  obtain ⟨M11, hM11, hf⟩ := bindE hf
  refine rx_iast hG (skM15 T) hM11 dX10_serves_136 ?_
  refine rx_aload_n hG dX10_serves_137 1 rfl ?_
  refine rx_bipush hG 96 dX10_serves_138 bp_96 ?_
  refine rx_iload_n hG dX10_serves_140 2 rfl ?_
  refine rx_iadd hG dX10_serves_141 ?_
  obtain ⟨v12, hv12, hf⟩ := bindE hf
  refine rx_iald hG (skM15 T) hv12 dX10_serves_142 ?_
  refine rx_bipush hG (-2) dX10_serves_143 bp_m2 ?_
  refine rx_icmp_ne hG 155 dX10_serves_145 rfl (fun c13 => ?_) (fun c13 => ?_)
  · have hf := ifF hf c13
    exact Lj_M_serves_0_15_155 l E T hG rc28 hrc28 x2 x3 x4 M11 hf
  · have hf := ifT hf c13
    refine rx_aload_n hG dX10_serves_148 1 rfl ?_
    refine rx_bipush hG 96 dX10_serves_149 bp_96 ?_
    refine rx_iload_n hG dX10_serves_151 2 rfl ?_
    refine rx_iadd hG dX10_serves_152 ?_
    refine rx_iload_n hG dX10_serves_153 3 rfl ?_
    obtain ⟨M14, hM14, hf⟩ := bindE hf
    refine rx_iast hG (skM15 T) hM14 dX10_serves_154 ?_
    exact Lj_M_serves_0_15_155 l E T hG rc28 hrc28 x2 x3 x4 M14 hf
set_option maxHeartbeats 4000000 in
set_option maxRecDepth 100000 in
theorem Lblp_M_serves_0_15_52 (l : Launch) (E : En) (T : List Sk) {a0 b0 kc ks : Nat} {M' : Mm} {G : Nat → List (Nat × Value) → List Value → Mm → Prop} (hG : RX l (SKM ++ T) E RX10 cX10_serves 5 none { frames := 1, cells := a0, slots := b0, locals := 24 } kc ks none M' G) (rc28 : Int32 → Int32 → Int32 → Mm → Option Mm) (hrc28 : ∀ (x2 : Int32) (x3 : Int32) (x4 : Int32) (M : Mm), rc28 x2 x3 x4 M = some M' → G 28 [(0, .ref (adr E 0)), (1, .ref (adr E 15)), (2, .int x2), (3, .int x3), (4, .int x4)] [] M) (rc52 : Int32 → Int32 → Int32 → Mm → Option Mm) (hrc52 : ∀ (x2 : Int32) (x3 : Int32) (x4 : Int32) (M : Mm), rc52 x2 x3 x4 M = some M' → G 52 [(0, .ref (adr E 0)), (1, .ref (adr E 15)), (2, .int x2), (3, .int x3), (4, .int x4)] [] M) : ∀ (x2 : Int32) (x3 : Int32) (x4 : Int32) (M : Mm), blp_M_serves_0_15_52 rc28 rc52 x2 x3 x4 M = some M' → G 52 [(0, .ref (adr E 0)), (1, .ref (adr E 15)), (2, .int x2), (3, .int x3), (4, .int x4)] [] M := by
  intro x2 x3 x4 M hf
  unfold blp_M_serves_0_15_52 at hf
  refine rx_aload_n hG dX10_serves_52 0 rfl ?_
  refine rx_iload_n hG dX10_serves_53 2 rfl ?_
  refine rx_aload_n hG dX10_serves_54 1 rfl ?_
  refine rx_iload_n hG dX10_serves_55 2 rfl ?_
  refine rx_iconst hG 3 dX10_serves_56 ic_3 ?_
  obtain ⟨v1, hv1, hf⟩ := bindE hf
  refine rx_cSi hG (c_M_ofKind l E (SKM ++ T) x2 3 hv1) kw_M_274 ⟨Nat.le_of_ble_eq_true rfl, Nat.le_of_ble_eq_true rfl⟩ rfl (Nat.le_of_ble_eq_true rfl) dX10_serves_57 ?_
  obtain ⟨v2, hv2, hf⟩ := bindE hf
  refine rx_iald hG (skM15 T) hv2 dX10_serves_60 ?_
  obtain ⟨v3, hv3, hf⟩ := bindE hf
  refine rx_cVi hG (c_M_comeIn_0 l E T x2 v2 hv3) (skM0 T) rfl rfl kw_M_277 ⟨Nat.le_of_ble_eq_true rfl, Nat.le_of_ble_eq_true rfl⟩ rfl (Nat.le_of_ble_eq_true rfl) dX10_serves_61 ?_
  refine rx_aload_n hG dX10_serves_64 1 rfl ?_
  refine rx_iload_n hG dX10_serves_65 2 rfl ?_
  refine rx_iconst hG 4 dX10_serves_66 ic_4 ?_
  obtain ⟨v4, hv4, hf⟩ := bindE hf
  refine rx_cSi hG (c_M_ofKind l E (SKM ++ T) x2 4 hv4) kw_M_274 ⟨Nat.le_of_ble_eq_true rfl, Nat.le_of_ble_eq_true rfl⟩ rfl (Nat.le_of_ble_eq_true rfl) dX10_serves_67 ?_
  obtain ⟨v5, hv5, hf⟩ := bindE hf
  refine rx_iald hG (skM15 T) hv5 dX10_serves_70 ?_
  refine rx_icmp_ne hG 96 dX10_serves_71 rfl (fun c6 => ?_) (fun c6 => ?_)
  · have hf := ifF hf c6
    exact Lj_M_serves_0_15_96 l E T hG rc28 hrc28 x2 x3 x4 M hf
  · have hf := ifT hf c6
    refine rx_aload_n hG dX10_serves_74 1 rfl ?_
    refine rx_iload_n hG dX10_serves_75 2 rfl ?_
    refine rx_iconst hG 3 dX10_serves_76 ic_3 ?_
    obtain ⟨v7, hv7, hf⟩ := bindE hf
    refine rx_cSi hG (c_M_ofKind l E (SKM ++ T) x2 3 hv7) kw_M_274 ⟨Nat.le_of_ble_eq_true rfl, Nat.le_of_ble_eq_true rfl⟩ rfl (Nat.le_of_ble_eq_true rfl) dX10_serves_77 ?_
    refine rx_dup2 hG dX10_serves_80 rfl rfl ?_
    obtain ⟨v8, hv8, hf⟩ := bindE hf
    refine rx_iald hG (skM15 T) hv8 dX10_serves_81 ?_
    refine rx_iconst hG 1 dX10_serves_82 ic_1 ?_
    refine rx_iadd hG dX10_serves_83 ?_
    obtain ⟨M9, hM9, hf⟩ := bindE hf
    refine rx_iast hG (skM15 T) hM9 dX10_serves_84 ?_
    refine rx_aload_n hG dX10_serves_85 1 rfl ?_
    refine rx_iload_n hG dX10_serves_86 2 rfl ?_
    refine rx_iconst hG 4 dX10_serves_87 ic_4 ?_
    obtain ⟨v10, hv10, hf⟩ := bindE hf
    refine rx_cSi hG (c_M_ofKind l E (SKM ++ T) x2 4 hv10) kw_M_274 ⟨Nat.le_of_ble_eq_true rfl, Nat.le_of_ble_eq_true rfl⟩ rfl (Nat.le_of_ble_eq_true rfl) dX10_serves_88 ?_
    refine rx_iconst hG 0 dX10_serves_91 ic_0 ?_
    obtain ⟨M11, hM11, hf⟩ := bindE hf
    refine rx_iast hG (skM15 T) hM11 dX10_serves_92 ?_
    refine rx_goto hG 52 dX10_serves_93 rfl ?_
    exact hrc52 x2 x3 x4 M11 hf
theorem Llp_M_serves_0_15_52 (l : Launch) (E : En) (T : List Sk) {a0 b0 kc ks : Nat} {M' : Mm} {G : Nat → List (Nat × Value) → List Value → Mm → Prop} (hG : RX l (SKM ++ T) E RX10 cX10_serves 5 none { frames := 1, cells := a0, slots := b0, locals := 24 } kc ks none M' G) (rc28 : Int32 → Int32 → Int32 → Mm → Option Mm) (hrc28 : ∀ (x2 : Int32) (x3 : Int32) (x4 : Int32) (M : Mm), rc28 x2 x3 x4 M = some M' → G 28 [(0, .ref (adr E 0)), (1, .ref (adr E 15)), (2, .int x2), (3, .int x3), (4, .int x4)] [] M) : ∀ (n : Nat) (x2 : Int32) (x3 : Int32) (x4 : Int32) (M : Mm), lp_M_serves_0_15_52 rc28 n x2 x3 x4 M = some M' → G 52 [(0, .ref (adr E 0)), (1, .ref (adr E 15)), (2, .int x2), (3, .int x3), (4, .int x4)] [] M := by
  intro n
  induction n with
  | zero => intro x2 x3 x4 M hf; cases hf
  | succ n ih => intro x2 x3 x4 M hf; exact Lblp_M_serves_0_15_52 l E T hG rc28 hrc28 (lp_M_serves_0_15_52 rc28 n) ih x2 x3 x4 M hf
set_option maxHeartbeats 4000000 in
set_option maxRecDepth 100000 in
theorem Lblp_M_serves_0_15_28 (l : Launch) (E : En) (T : List Sk) {a0 b0 kc ks : Nat} {M' : Mm} {G : Nat → List (Nat × Value) → List Value → Mm → Prop} (hG : RX l (SKM ++ T) E RX10 cX10_serves 5 none { frames := 1, cells := a0, slots := b0, locals := 24 } kc ks none M' G) (rc28 : Int32 → Int32 → Int32 → Mm → Option Mm) (hrc28 : ∀ (x2 : Int32) (x3 : Int32) (x4 : Int32) (M : Mm), rc28 x2 x3 x4 M = some M' → G 28 [(0, .ref (adr E 0)), (1, .ref (adr E 15)), (2, .int x2), (3, .int x3), (4, .int x4)] [] M) : ∀ (x2 : Int32) (x3 : Int32) (x4 : Int32) (M : Mm), blp_M_serves_0_15_28 rc28 x2 x3 x4 M = some M' → G 28 [(0, .ref (adr E 0)), (1, .ref (adr E 15)), (2, .int x2), (3, .int x3), (4, .int x4)] [] M := by
  intro x2 x3 x4 M hf
  unfold blp_M_serves_0_15_28 at hf
  refine rx_aload_n hG dX10_serves_28 1 rfl ?_
  refine rx_iload_n hG dX10_serves_29 2 rfl ?_
  refine rx_iconst hG 0 dX10_serves_30 ic_0 ?_
  obtain ⟨v1, hv1, hf⟩ := bindE hf
  refine rx_cSi hG (c_M_ofKind l E (SKM ++ T) x2 0 hv1) kw_M_274 ⟨Nat.le_of_ble_eq_true rfl, Nat.le_of_ble_eq_true rfl⟩ rfl (Nat.le_of_ble_eq_true rfl) dX10_serves_31 ?_
  obtain ⟨v2, hv2, hf⟩ := bindE hf
  refine rx_iald hG (skM15 T) hv2 dX10_serves_34 ?_
  refine rx_aload_n hG dX10_serves_35 1 rfl ?_
  refine rx_iload_n hG dX10_serves_36 2 rfl ?_
  refine rx_iconst hG 1 dX10_serves_37 ic_1 ?_
  obtain ⟨v3, hv3, hf⟩ := bindE hf
  refine rx_cSi hG (c_M_ofKind l E (SKM ++ T) x2 1 hv3) kw_M_274 ⟨Nat.le_of_ble_eq_true rfl, Nat.le_of_ble_eq_true rfl⟩ rfl (Nat.le_of_ble_eq_true rfl) dX10_serves_38 ?_
  obtain ⟨v4, hv4, hf⟩ := bindE hf
  refine rx_iald hG (skM15 T) hv4 dX10_serves_41 ?_
  refine rx_icmp_le hG 166 dX10_serves_42 rfl (fun c5 => ?_) (fun c5 => ?_)
  · have hf := ifT hf c5
    cases hf
    exact rx_vret hG dX10_serves_166
  · have hf := ifF hf c5
    refine rx_aload_n hG dX10_serves_45 1 rfl ?_
    refine rx_iload hG dX10_serves_46 4 rfl ?_
    obtain ⟨v6, hv6, hf⟩ := bindE hf
    refine rx_iald hG (skM15 T) hv6 dX10_serves_48 ?_
    refine rx_if_le hG 166 dX10_serves_49 rfl (fun c7 => ?_) (fun c7 => ?_)
    · have hf := ifT hf c7
      cases hf
      exact rx_vret hG dX10_serves_166
    · have hf := ifF hf c7
      exact Llp_M_serves_0_15_52 l E T hG rc28 hrc28 FW x2 x3 x4 M hf
theorem Llp_M_serves_0_15_28 (l : Launch) (E : En) (T : List Sk) {a0 b0 kc ks : Nat} {M' : Mm} {G : Nat → List (Nat × Value) → List Value → Mm → Prop} (hG : RX l (SKM ++ T) E RX10 cX10_serves 5 none { frames := 1, cells := a0, slots := b0, locals := 24 } kc ks none M' G)  : ∀ (n : Nat) (x2 : Int32) (x3 : Int32) (x4 : Int32) (M : Mm), lp_M_serves_0_15_28  n x2 x3 x4 M = some M' → G 28 [(0, .ref (adr E 0)), (1, .ref (adr E 15)), (2, .int x2), (3, .int x3), (4, .int x4)] [] M := by
  intro n
  induction n with
  | zero => intro x2 x3 x4 M hf; cases hf
  | succ n ih => intro x2 x3 x4 M hf; exact Lblp_M_serves_0_15_28 l E T hG  (lp_M_serves_0_15_28  n) ih x2 x3 x4 M hf
set_option maxHeartbeats 4000000 in
set_option maxRecDepth 100000 in
theorem c_M_serves_0_15 (l : Launch) (E : En) (T : List Sk) (p0 : Int32) (p1 : Int32) {M M' : Mm} (h : f_M_serves_0_15 p0 p1 M = some M') : Ct l (SKM ++ T) E yX10_serves cX10_serves 5 none 1 24 [.ref (adr E 0), .ref (adr E 15), .int p0, .int p1] M none M' := by
  refine ct_of (by decide) (Nat.le_of_ble_eq_true rfl) ?_
  intro G hG
  show G 0 [(0, .ref (adr E 0)), (1, .ref (adr E 15)), (2, .int p0), (3, .int p1)] [] M
  have hf := h
  unfold f_M_serves_0_15 at hf
  refine rx_aload_n hG dX10_serves_0 1 rfl ?_
  refine rx_iload_n hG dX10_serves_1 2 rfl ?_
  refine rx_iconst hG 0 dX10_serves_2 ic_0 ?_
  obtain ⟨v1, hv1, hf⟩ := bindE hf
  refine rx_cSi hG (c_M_ofKind l E (SKM ++ T) p0 0 hv1) kw_M_274 ⟨Nat.le_of_ble_eq_true rfl, Nat.le_of_ble_eq_true rfl⟩ rfl (Nat.le_of_ble_eq_true rfl) dX10_serves_3 ?_
  refine rx_dup2 hG dX10_serves_6 rfl rfl ?_
  obtain ⟨v2, hv2, hf⟩ := bindE hf
  refine rx_iald hG (skM15 T) hv2 dX10_serves_7 ?_
  refine rx_aload_n hG dX10_serves_8 0 rfl ?_
  refine rx_iload_n hG dX10_serves_9 2 rfl ?_
  refine rx_iload_n hG dX10_serves_10 3 rfl ?_
  obtain ⟨v3, hv3, hf⟩ := bindE hf
  refine rx_cVi hG (c_M_comeIn_0 l E T p0 p1 hv3) (skM0 T) rfl rfl kw_M_277 ⟨Nat.le_of_ble_eq_true rfl, Nat.le_of_ble_eq_true rfl⟩ rfl (Nat.le_of_ble_eq_true rfl) dX10_serves_11 ?_
  refine rx_iadd hG dX10_serves_14 ?_
  obtain ⟨M4, hM4, hf⟩ := bindE hf
  refine rx_iast hG (skM15 T) hM4 dX10_serves_15 ?_
  refine rx_aload_n hG dX10_serves_16 0 rfl ?_
  refine gfM_M_242_0 l E T hG dX10_serves_17 ?_
  refine rx_iconst hG 1 dX10_serves_20 ic_1 ?_
  refine rx_isub hG dX10_serves_21 ?_
  refine rx_iload_n hG dX10_serves_22 2 rfl ?_
  obtain ⟨v5, hv5, hf⟩ := bindE hf
  refine rx_cSi hG (c_M_store l E (SKM ++ T) ((M4.1 0 23) - 1) p0 hv5) kw_M_267 ⟨Nat.le_of_ble_eq_true rfl, Nat.le_of_ble_eq_true rfl⟩ rfl (Nat.le_of_ble_eq_true rfl) dX10_serves_23 ?_
  refine rx_istore (lv2 := [(4, .int v5), (0, .ref (adr E 0)), (1, .ref (adr E 15)), (2, .int p0), (3, .int p1)]) hG dX10_serves_26 (Nat.le_of_ble_eq_true rfl) rfl ?_
  refine rx_sub hG [1, 2, 3, 4, 0] (lv' := [(0, .ref (adr E 0)), (1, .ref (adr E 15)), (2, .int p0), (3, .int p1), (4, .int v5)]) rfl ?_
  exact Llp_M_serves_0_15_28 l E T hG  FW p0 p1 v5 M4 hf
set_option maxHeartbeats 4000000 in
set_option maxRecDepth 100000 in
theorem Lj_M_ends_0_15_38 (l : Launch) (E : En) (T : List Sk) {a0 b0 kc ks : Nat} {M' : Mm} {G : Nat → List (Nat × Value) → List Value → Mm → Prop} (hG : RX l (SKM ++ T) E RX10 cX10_ends 5 none { frames := 1, cells := a0, slots := b0, locals := 21 } kc ks none M' G)  : ∀ (x2 : Int32) (x3 : Int32) (t0 : Int32) (M : Mm), j_M_ends_0_15_38  x2 x3 t0 M = some M' → G 38 [(0, .ref (adr E 0)), (1, .ref (adr E 15)), (2, .int x2), (3, .int x3)] [.int t0] M := by
  intro x2 x3 t0 M hf
  unfold j_M_ends_0_15_38 at hf
  refine rx_istore (lv2 := [(4, .int t0), (0, .ref (adr E 0)), (1, .ref (adr E 15)), (2, .int x2), (3, .int x3)]) hG dX10_ends_38 (Nat.le_of_ble_eq_true rfl) rfl ?_
  refine rx_aload_n hG dX10_ends_40 2 rfl ?_
  refine rx_iload_n hG dX10_ends_41 3 rfl ?_
  refine rx_iconst hG 0 dX10_ends_42 ic_0 ?_
  obtain ⟨v1, hv1, hf⟩ := bindE hf
  refine rx_cSi hG (c_M_of l E (SKM ++ T) x2 0 hv1) kw_M_264 ⟨Nat.le_of_ble_eq_true rfl, Nat.le_of_ble_eq_true rfl⟩ rfl (Nat.le_of_ble_eq_true rfl) dX10_ends_43 ?_
  refine rx_iconst hG 0 dX10_ends_46 ic_0 ?_
  obtain ⟨M2, hM2, hf⟩ := bindE hf
  refine rx_iast hG (skM15 T) hM2 dX10_ends_47 ?_
  refine rx_iload hG dX10_ends_48 0 rfl ?_
  refine rx_if_ne hG 54 dX10_ends_50 rfl (fun c3 => ?_) (fun c3 => ?_)
  · have hf := ifF hf c3
    refine rx_aload_n hG dX10_ends_54 2 rfl ?_
    refine rx_iload_n hG dX10_ends_55 3 rfl ?_
    refine rx_aload_n hG dX10_ends_56 2 rfl ?_
    refine rx_iload_n hG dX10_ends_57 3 rfl ?_
    refine rx_iconst hG 1 dX10_ends_58 ic_1 ?_
    obtain ⟨v4, hv4, hf⟩ := bindE hf
    refine rx_cSi hG (c_M_of l E (SKM ++ T) x2 1 hv4) kw_M_264 ⟨Nat.le_of_ble_eq_true rfl, Nat.le_of_ble_eq_true rfl⟩ rfl (Nat.le_of_ble_eq_true rfl) dX10_ends_59 ?_
    obtain ⟨v5, hv5, hf⟩ := bindE hf
    refine rx_iald hG (skM15 T) hv5 dX10_ends_62 ?_
    obtain ⟨v6, hv6, hf⟩ := bindE hf
    refine rx_cSi hG (c_M_store l E (SKM ++ T) x2 v5 hv6) kw_M_267 ⟨Nat.le_of_ble_eq_true rfl, Nat.le_of_ble_eq_true rfl⟩ rfl (Nat.le_of_ble_eq_true rfl) dX10_ends_63 ?_
    refine rx_dup2 hG dX10_ends_66 rfl rfl ?_
    obtain ⟨v7, hv7, hf⟩ := bindE hf
    refine rx_iald hG (skM15 T) hv7 dX10_ends_67 ?_
    refine rx_iconst hG 1 dX10_ends_68 ic_1 ?_
    refine rx_iadd hG dX10_ends_69 ?_
    obtain ⟨M8, hM8, hf⟩ := bindE hf
    refine rx_iast hG (skM15 T) hM8 dX10_ends_70 ?_
    refine rx_aload_n hG dX10_ends_71 2 rfl ?_
    refine rx_iload_n hG dX10_ends_72 3 rfl ?_
    refine rx_iconst hG 1 dX10_ends_73 ic_1 ?_
    obtain ⟨v9, hv9, hf⟩ := bindE hf
    refine rx_cSi hG (c_M_of l E (SKM ++ T) x2 1 hv9) kw_M_264 ⟨Nat.le_of_ble_eq_true rfl, Nat.le_of_ble_eq_true rfl⟩ rfl (Nat.le_of_ble_eq_true rfl) dX10_ends_74 ?_
    refine rx_bipush hG (-2) dX10_ends_77 bp_m2 ?_
    obtain ⟨M10, hM10, hf⟩ := bindE hf
    refine rx_iast hG (skM15 T) hM10 dX10_ends_79 ?_
    refine rx_aload_n hG dX10_ends_80 2 rfl ?_
    refine rx_iload_n hG dX10_ends_81 3 rfl ?_
    refine rx_iconst hG 4 dX10_ends_82 ic_4 ?_
    obtain ⟨v11, hv11, hf⟩ := bindE hf
    refine rx_cSi hG (c_M_of l E (SKM ++ T) x2 4 hv11) kw_M_264 ⟨Nat.le_of_ble_eq_true rfl, Nat.le_of_ble_eq_true rfl⟩ rfl (Nat.le_of_ble_eq_true rfl) dX10_ends_83 ?_
    refine rx_dup2 hG dX10_ends_86 rfl rfl ?_
    obtain ⟨v12, hv12, hf⟩ := bindE hf
    refine rx_iald hG (skM15 T) hv12 dX10_ends_87 ?_
    refine rx_iconst hG 1 dX10_ends_88 ic_1 ?_
    refine rx_iadd hG dX10_ends_89 ?_
    obtain ⟨M13, hM13, hf⟩ := bindE hf
    refine rx_iast hG (skM15 T) hM13 dX10_ends_90 ?_
    refine rx_aload_n hG dX10_ends_91 1 rfl ?_
    refine gfM_M_30_0 l E T hG dX10_ends_92 ?_
    refine rx_iload_n hG dX10_ends_95 3 rfl ?_
    obtain ⟨v14, hv14, hf⟩ := bindE hf
    refine rx_iald hG (skM6 T) hv14 dX10_ends_96 ?_
    refine rx_if_eq hG 117 dX10_ends_97 rfl (fun c15 => ?_) (fun c15 => ?_)
    · have hf := ifT hf c15
      cases hf
      exact rx_vret hG dX10_ends_117
    · have hf := ifF hf c15
      refine rx_aload_n hG dX10_ends_100 2 rfl ?_
      refine rx_iload_n hG dX10_ends_101 3 rfl ?_
      refine rx_iconst hG 4 dX10_ends_102 ic_4 ?_
      obtain ⟨v16, hv16, hf⟩ := bindE hf
      refine rx_cSi hG (c_M_of l E (SKM ++ T) x2 4 hv16) kw_M_264 ⟨Nat.le_of_ble_eq_true rfl, Nat.le_of_ble_eq_true rfl⟩ rfl (Nat.le_of_ble_eq_true rfl) dX10_ends_103 ?_
      obtain ⟨v17, hv17, hf⟩ := bindE hf
      refine rx_iald hG (skM15 T) hv17 dX10_ends_106 ?_
      refine rx_aload_n hG dX10_ends_107 1 rfl ?_
      refine gfM_M_30_0 l E T hG dX10_ends_108 ?_
      refine rx_iload_n hG dX10_ends_111 3 rfl ?_
      obtain ⟨v18, hv18, hf⟩ := bindE hf
      refine rx_iald hG (skM6 T) hv18 dX10_ends_112 ?_
      obtain ⟨v19, hv19, hf⟩ := bindE hf
      refine rx_irem hG hv19 dX10_ends_113 ?_
      refine rx_if_eq hG 118 dX10_ends_114 rfl (fun c20 => ?_) (fun c20 => ?_)
      · have hf := ifT hf c20
        refine rx_aload_n hG dX10_ends_118 2 rfl ?_
        refine rx_iload_n hG dX10_ends_119 3 rfl ?_
        refine rx_iconst hG 0 dX10_ends_120 ic_0 ?_
        obtain ⟨v21, hv21, hf⟩ := bindE hf
        refine rx_cSi hG (c_M_of l E (SKM ++ T) x2 0 hv21) kw_M_264 ⟨Nat.le_of_ble_eq_true rfl, Nat.le_of_ble_eq_true rfl⟩ rfl (Nat.le_of_ble_eq_true rfl) dX10_ends_121 ?_
        refine rx_iconst hG 2 dX10_ends_124 ic_2 ?_
        obtain ⟨M22, hM22, hf⟩ := bindE hf
        refine rx_iast hG (skM15 T) hM22 dX10_ends_125 ?_
        refine rx_aload_n hG dX10_ends_126 2 rfl ?_
        refine rx_iload_n hG dX10_ends_127 3 rfl ?_
        refine rx_iconst hG 2 dX10_ends_128 ic_2 ?_
        obtain ⟨v23, hv23, hf⟩ := bindE hf
        refine rx_cSi hG (c_M_of l E (SKM ++ T) x2 2 hv23) kw_M_264 ⟨Nat.le_of_ble_eq_true rfl, Nat.le_of_ble_eq_true rfl⟩ rfl (Nat.le_of_ble_eq_true rfl) dX10_ends_129 ?_
        refine rx_iload_n hG dX10_ends_132 4 rfl ?_
        refine rx_aload_n hG dX10_ends_133 1 rfl ?_
        refine gfM_M_27_0 l E T hG dX10_ends_134 ?_
        refine rx_iload_n hG dX10_ends_137 3 rfl ?_
        obtain ⟨v24, hv24, hf⟩ := bindE hf
        refine rx_iald hG (skM5 T) hv24 dX10_ends_138 ?_
        refine rx_iadd hG dX10_ends_139 ?_
        obtain ⟨M25, hM25, hf⟩ := bindE hf
        refine rx_iast hG (skM15 T) hM25 dX10_ends_140 ?_
        cases hf
        exact rx_vret hG dX10_ends_141
      · have hf := ifF hf c20
        cases hf
        exact rx_vret hG dX10_ends_117
  · have hf := ifT hf c3
    cases hf
    exact rx_vret hG dX10_ends_53
set_option maxHeartbeats 4000000 in
set_option maxRecDepth 100000 in
theorem c_M_ends_0_15 (l : Launch) (E : En) (T : List Sk) (p0 : Int32) (p1 : Int32) {M M' : Mm} (h : f_M_ends_0_15 p0 p1 M = some M') : Ct l (SKM ++ T) E yX10_ends cX10_ends 5 none 1 21 [.ref (adr E 0), .ref (adr E 15), .int p0, .int p1] M none M' := by
  refine ct_of (by decide) (Nat.le_of_ble_eq_true rfl) ?_
  intro G hG
  show G 0 [(0, .ref (adr E 0)), (1, .ref (adr E 15)), (2, .int p0), (3, .int p1)] [] M
  have hf := h
  unfold f_M_ends_0_15 at hf
  refine rx_aload_n hG dX10_ends_0 1 rfl ?_
  refine rx_iload_n hG dX10_ends_1 2 rfl ?_
  refine rx_iconst hG 0 dX10_ends_2 ic_0 ?_
  obtain ⟨v1, hv1, hf⟩ := bindE hf
  refine rx_cSi hG (c_M_of l E (SKM ++ T) p0 0 hv1) kw_M_264 ⟨Nat.le_of_ble_eq_true rfl, Nat.le_of_ble_eq_true rfl⟩ rfl (Nat.le_of_ble_eq_true rfl) dX10_ends_3 ?_
  obtain ⟨v2, hv2, hf⟩ := bindE hf
  refine rx_iald hG (skM15 T) hv2 dX10_ends_6 ?_
  refine rx_if_eq hG 21 dX10_ends_7 rfl (fun c3 => ?_) (fun c3 => ?_)
  · have hf := ifT hf c3
    cases hf
    exact rx_vret hG dX10_ends_21
  · have hf := ifF hf c3
    refine rx_aload_n hG dX10_ends_10 1 rfl ?_
    refine rx_iload_n hG dX10_ends_11 2 rfl ?_
    refine rx_iconst hG 2 dX10_ends_12 ic_2 ?_
    obtain ⟨v4, hv4, hf⟩ := bindE hf
    refine rx_cSi hG (c_M_of l E (SKM ++ T) p0 2 hv4) kw_M_264 ⟨Nat.le_of_ble_eq_true rfl, Nat.le_of_ble_eq_true rfl⟩ rfl (Nat.le_of_ble_eq_true rfl) dX10_ends_13 ?_
    obtain ⟨v5, hv5, hf⟩ := bindE hf
    refine rx_iald hG (skM15 T) hv5 dX10_ends_16 ?_
    refine rx_iload_n hG dX10_ends_17 3 rfl ?_
    refine rx_icmp_eq hG 22 dX10_ends_18 rfl (fun c6 => ?_) (fun c6 => ?_)
    · have hf := ifT hf c6
      refine rx_aload_n hG dX10_ends_22 1 rfl ?_
      refine rx_iload_n hG dX10_ends_23 2 rfl ?_
      refine rx_iconst hG 0 dX10_ends_24 ic_0 ?_
      obtain ⟨v7, hv7, hf⟩ := bindE hf
      refine rx_cSi hG (c_M_of l E (SKM ++ T) p0 0 hv7) kw_M_264 ⟨Nat.le_of_ble_eq_true rfl, Nat.le_of_ble_eq_true rfl⟩ rfl (Nat.le_of_ble_eq_true rfl) dX10_ends_25 ?_
      obtain ⟨v8, hv8, hf⟩ := bindE hf
      refine rx_iald hG (skM15 T) hv8 dX10_ends_28 ?_
      refine rx_iconst hG 1 dX10_ends_29 ic_1 ?_
      refine rx_icmp_ne hG 37 dX10_ends_30 rfl (fun c9 => ?_) (fun c9 => ?_)
      · have hf := ifF hf c9
        refine rx_iconst hG 0 dX10_ends_37 ic_0 ?_
        exact Lj_M_ends_0_15_38 l E T hG  p0 p1 0 M hf
      · have hf := ifT hf c9
        refine rx_iconst hG 1 dX10_ends_33 ic_1 ?_
        refine rx_goto hG 38 dX10_ends_34 rfl ?_
        exact Lj_M_ends_0_15_38 l E T hG  p0 p1 1 M hf
    · have hf := ifF hf c6
      cases hf
      exact rx_vret hG dX10_ends_21
set_option maxHeartbeats 4000000 in
set_option maxRecDepth 100000 in
theorem Lj_M_minute_0_15_10_136 (l : Launch) (E : En) (T : List Sk) {a0 b0 kc ks : Nat} {M' : Mm} {G : Nat → List (Nat × Value) → List Value → Mm → Prop} (hG : RX l (SKM ++ T) E RX10 cX10_minute 5 none { frames := 6, cells := a0, slots := b0, locals := 146 } kc ks none M' G)  : ∀  (M : Mm), j_M_minute_0_15_10_136  M = some M' → G 136 [(1, .ref (adr E 15))] [] M := by
  intro M hf
  unfold j_M_minute_0_15_10_136 at hf
  refine rx_aload_n hG dX10_minute_136 0 rfl ?_
  refine rx_iconst hG 0 dX10_minute_137 ic_0 ?_
  refine rx_dup2 hG dX10_minute_138 rfl rfl ?_
  obtain ⟨v1, hv1, hf⟩ := bindE hf
  refine rx_iald hG (skM15 T) hv1 dX10_minute_139 ?_
  refine rx_iconst hG 1 dX10_minute_140 ic_1 ?_
  refine rx_iadd hG dX10_minute_141 ?_
  obtain ⟨M2, hM2, hf⟩ := bindE hf
  refine rx_iast hG (skM15 T) hM2 dX10_minute_142 ?_
  cases hf
  exact rx_vret hG dX10_minute_143
set_option maxHeartbeats 4000000 in
set_option maxRecDepth 100000 in
theorem Lblp_M_minute_0_15_10_114 (l : Launch) (E : En) (T : List Sk) {a0 b0 kc ks : Nat} {M' : Mm} {G : Nat → List (Nat × Value) → List Value → Mm → Prop} (hG : RX l (SKM ++ T) E RX10 cX10_minute 5 none { frames := 6, cells := a0, slots := b0, locals := 146 } kc ks none M' G) (rc114 : Int32 → Mm → Option Mm) (hrc114 : ∀ (x4 : Int32) (M : Mm), rc114 x4 M = some M' → G 114 [(0, .ref (adr E 0)), (1, .ref (adr E 15)), (4, .int x4)] [] M) : ∀ (x4 : Int32) (M : Mm), blp_M_minute_0_15_10_114 rc114 x4 M = some M' → G 114 [(0, .ref (adr E 0)), (1, .ref (adr E 15)), (4, .int x4)] [] M := by
  intro x4 M hf
  unfold blp_M_minute_0_15_10_114 at hf
  refine rx_iload hG dX10_minute_114 2 rfl ?_
  refine rx_aload_n hG dX10_minute_116 0 rfl ?_
  refine gfM_M_242_0 l E T hG dX10_minute_117 ?_
  refine rx_icmp_ge hG 136 dX10_minute_120 rfl (fun c1 => ?_) (fun c1 => ?_)
  · have hf := ifT hf c1
    refine rx_sub hG [1] (lv' := [(1, .ref (adr E 15))]) rfl ?_
    exact Lj_M_minute_0_15_10_136 l E T hG  M hf
  · have hf := ifF hf c1
    refine rx_aload_n hG dX10_minute_123 0 rfl ?_
    refine rx_aload_n hG dX10_minute_124 1 rfl ?_
    refine rx_iload hG dX10_minute_125 2 rfl ?_
    obtain ⟨M2, hM2, hf⟩ := bindE hf
    refine rx_cVv hG (c_M_peaks_0_15 l E T x4 hM2) (skM0 T) rfl rfl kw_M_306 ⟨Nat.le_of_ble_eq_true rfl, Nat.le_of_ble_eq_true rfl⟩ rfl (Nat.le_of_ble_eq_true rfl) dX10_minute_127 ?_
    refine rx_iinc (lv2 := [(4, .int (x4 + 1)), (0, .ref (adr E 0)), (1, .ref (adr E 15))]) hG 1 dX10_minute_130 ic_1 2 rfl (Nat.le_of_ble_eq_true rfl) rfl ?_
    refine rx_goto hG 114 dX10_minute_133 rfl ?_
    refine rx_sub hG [1, 2, 0] (lv' := [(0, .ref (adr E 0)), (1, .ref (adr E 15)), (4, .int (x4 + 1))]) rfl ?_
    exact hrc114 (x4 + 1) M2 hf
theorem Llp_M_minute_0_15_10_114 (l : Launch) (E : En) (T : List Sk) {a0 b0 kc ks : Nat} {M' : Mm} {G : Nat → List (Nat × Value) → List Value → Mm → Prop} (hG : RX l (SKM ++ T) E RX10 cX10_minute 5 none { frames := 6, cells := a0, slots := b0, locals := 146 } kc ks none M' G)  : ∀ (n : Nat) (x4 : Int32) (M : Mm), lp_M_minute_0_15_10_114  n x4 M = some M' → G 114 [(0, .ref (adr E 0)), (1, .ref (adr E 15)), (4, .int x4)] [] M := by
  intro n
  induction n with
  | zero => intro x4 M hf; cases hf
  | succ n ih => intro x4 M hf; exact Lblp_M_minute_0_15_10_114 l E T hG  (lp_M_minute_0_15_10_114  n) ih x4 M hf
set_option maxHeartbeats 4000000 in
set_option maxRecDepth 100000 in
theorem Lj_M_minute_0_15_10_111 (l : Launch) (E : En) (T : List Sk) {a0 b0 kc ks : Nat} {M' : Mm} {G : Nat → List (Nat × Value) → List Value → Mm → Prop} (hG : RX l (SKM ++ T) E RX10 cX10_minute 5 none { frames := 6, cells := a0, slots := b0, locals := 146 } kc ks none M' G)  : ∀  (M : Mm), j_M_minute_0_15_10_111  M = some M' → G 111 [(0, .ref (adr E 0)), (1, .ref (adr E 15))] [] M := by
  intro M hf
  unfold j_M_minute_0_15_10_111 at hf
  refine rx_iconst hG 0 dX10_minute_111 ic_0 ?_
  refine rx_istore (lv2 := [(4, .int 0), (0, .ref (adr E 0)), (1, .ref (adr E 15))]) hG dX10_minute_112 (Nat.le_of_ble_eq_true rfl) rfl ?_
  refine rx_sub hG [1, 2, 0] (lv' := [(0, .ref (adr E 0)), (1, .ref (adr E 15)), (4, .int 0)]) rfl ?_
  exact Llp_M_minute_0_15_10_114 l E T hG  FW 0 M hf
set_option maxHeartbeats 4000000 in
set_option maxRecDepth 100000 in
theorem Lblp_M_minute_0_15_10_87 (l : Launch) (E : En) (T : List Sk) {a0 b0 kc ks : Nat} {M' : Mm} {G : Nat → List (Nat × Value) → List Value → Mm → Prop} (hG : RX l (SKM ++ T) E RX10 cX10_minute 5 none { frames := 6, cells := a0, slots := b0, locals := 146 } kc ks none M' G) (rc87 : Int32 → Int32 → Mm → Option Mm) (hrc87 : ∀ (x3 : Int32) (x4 : Int32) (M : Mm), rc87 x3 x4 M = some M' → G 87 [(0, .ref (adr E 0)), (1, .ref (adr E 15)), (2, .ref (adr E 10)), (3, .int x3), (4, .int x4)] [] M) : ∀ (x3 : Int32) (x4 : Int32) (M : Mm), blp_M_minute_0_15_10_87 rc87 x3 x4 M = some M' → G 87 [(0, .ref (adr E 0)), (1, .ref (adr E 15)), (2, .ref (adr E 10)), (3, .int x3), (4, .int x4)] [] M := by
  intro x3 x4 M hf
  unfold blp_M_minute_0_15_10_87 at hf
  refine rx_iload hG dX10_minute_87 4 rfl ?_
  refine rx_aload_n hG dX10_minute_89 0 rfl ?_
  refine gfM_M_242_0 l E T hG dX10_minute_90 ?_
  refine rx_icmp_ge hG 111 dX10_minute_93 rfl (fun c1 => ?_) (fun c1 => ?_)
  · have hf := ifT hf c1
    refine rx_sub hG [0, 1] (lv' := [(0, .ref (adr E 0)), (1, .ref (adr E 15))]) rfl ?_
    exact Lj_M_minute_0_15_10_111 l E T hG  M hf
  · have hf := ifF hf c1
    refine rx_aload_n hG dX10_minute_96 0 rfl ?_
    refine rx_aload_n hG dX10_minute_97 1 rfl ?_
    refine rx_aload_n hG dX10_minute_98 2 rfl ?_
    refine rx_iload hG dX10_minute_99 4 rfl ?_
    refine rx_iload_n hG dX10_minute_101 3 rfl ?_
    obtain ⟨M2, hM2, hf⟩ := bindE hf
    refine rx_cVv hG (c_M_tallies_0_15_10 l E T x4 x3 hM2) (skM0 T) rfl rfl kw_M_303 ⟨Nat.le_of_ble_eq_true rfl, Nat.le_of_ble_eq_true rfl⟩ rfl (Nat.le_of_ble_eq_true rfl) dX10_minute_102 ?_
    refine rx_iinc (lv2 := [(4, .int (x4 + 1)), (0, .ref (adr E 0)), (1, .ref (adr E 15)), (2, .ref (adr E 10)), (3, .int x3)]) hG 1 dX10_minute_105 ic_1 4 rfl (Nat.le_of_ble_eq_true rfl) rfl ?_
    refine rx_goto hG 87 dX10_minute_108 rfl ?_
    refine rx_sub hG [1, 2, 3, 4, 0] (lv' := [(0, .ref (adr E 0)), (1, .ref (adr E 15)), (2, .ref (adr E 10)), (3, .int x3), (4, .int (x4 + 1))]) rfl ?_
    exact hrc87 x3 (x4 + 1) M2 hf
theorem Llp_M_minute_0_15_10_87 (l : Launch) (E : En) (T : List Sk) {a0 b0 kc ks : Nat} {M' : Mm} {G : Nat → List (Nat × Value) → List Value → Mm → Prop} (hG : RX l (SKM ++ T) E RX10 cX10_minute 5 none { frames := 6, cells := a0, slots := b0, locals := 146 } kc ks none M' G)  : ∀ (n : Nat) (x3 : Int32) (x4 : Int32) (M : Mm), lp_M_minute_0_15_10_87  n x3 x4 M = some M' → G 87 [(0, .ref (adr E 0)), (1, .ref (adr E 15)), (2, .ref (adr E 10)), (3, .int x3), (4, .int x4)] [] M := by
  intro n
  induction n with
  | zero => intro x3 x4 M hf; cases hf
  | succ n ih => intro x3 x4 M hf; exact Lblp_M_minute_0_15_10_87 l E T hG  (lp_M_minute_0_15_10_87  n) ih x3 x4 M hf
set_option maxHeartbeats 4000000 in
set_option maxRecDepth 100000 in
theorem Lj_M_minute_0_15_10_84 (l : Launch) (E : En) (T : List Sk) {a0 b0 kc ks : Nat} {M' : Mm} {G : Nat → List (Nat × Value) → List Value → Mm → Prop} (hG : RX l (SKM ++ T) E RX10 cX10_minute 5 none { frames := 6, cells := a0, slots := b0, locals := 146 } kc ks none M' G)  : ∀ (x3 : Int32) (M : Mm), j_M_minute_0_15_10_84  x3 M = some M' → G 84 [(0, .ref (adr E 0)), (1, .ref (adr E 15)), (2, .ref (adr E 10)), (3, .int x3)] [] M := by
  intro x3 M hf
  unfold j_M_minute_0_15_10_84 at hf
  refine rx_iconst hG 0 dX10_minute_84 ic_0 ?_
  refine rx_istore (lv2 := [(4, .int 0), (0, .ref (adr E 0)), (1, .ref (adr E 15)), (2, .ref (adr E 10)), (3, .int x3)]) hG dX10_minute_85 (Nat.le_of_ble_eq_true rfl) rfl ?_
  refine rx_sub hG [1, 2, 3, 4, 0] (lv' := [(0, .ref (adr E 0)), (1, .ref (adr E 15)), (2, .ref (adr E 10)), (3, .int x3), (4, .int 0)]) rfl ?_
  exact Llp_M_minute_0_15_10_87 l E T hG  FW x3 0 M hf
set_option maxHeartbeats 4000000 in
set_option maxRecDepth 100000 in
theorem Lblp_M_minute_0_15_10_64 (l : Launch) (E : En) (T : List Sk) {a0 b0 kc ks : Nat} {M' : Mm} {G : Nat → List (Nat × Value) → List Value → Mm → Prop} (hG : RX l (SKM ++ T) E RX10 cX10_minute 5 none { frames := 6, cells := a0, slots := b0, locals := 146 } kc ks none M' G) (rc64 : Int32 → Int32 → Mm → Option Mm) (hrc64 : ∀ (x3 : Int32) (x4 : Int32) (M : Mm), rc64 x3 x4 M = some M' → G 64 [(0, .ref (adr E 0)), (1, .ref (adr E 15)), (2, .ref (adr E 10)), (3, .int x3), (4, .int x4)] [] M) : ∀ (x3 : Int32) (x4 : Int32) (M : Mm), blp_M_minute_0_15_10_64 rc64 x3 x4 M = some M' → G 64 [(0, .ref (adr E 0)), (1, .ref (adr E 15)), (2, .ref (adr E 10)), (3, .int x3), (4, .int x4)] [] M := by
  intro x3 x4 M hf
  unfold blp_M_minute_0_15_10_64 at hf
  refine rx_iload hG dX10_minute_64 4 rfl ?_
  refine rx_if_lt hG 84 dX10_minute_66 rfl (fun c1 => ?_) (fun c1 => ?_)
  · have hf := ifT hf c1
    refine rx_sub hG [0, 1, 2, 3] (lv' := [(0, .ref (adr E 0)), (1, .ref (adr E 15)), (2, .ref (adr E 10)), (3, .int x3)]) rfl ?_
    exact Lj_M_minute_0_15_10_84 l E T hG  x3 M hf
  · have hf := ifF hf c1
    refine rx_aload_n hG dX10_minute_69 0 rfl ?_
    refine rx_aload_n hG dX10_minute_70 1 rfl ?_
    refine rx_aload_n hG dX10_minute_71 2 rfl ?_
    refine rx_iload hG dX10_minute_72 4 rfl ?_
    refine rx_iload_n hG dX10_minute_74 3 rfl ?_
    obtain ⟨M2, hM2, hf⟩ := bindE hf
    refine rx_cVv hG (c_M_starts_0_15_10 l E T x4 x3 hM2) (skM0 T) rfl rfl kw_M_299 ⟨Nat.le_of_ble_eq_true rfl, Nat.le_of_ble_eq_true rfl⟩ rfl (Nat.le_of_ble_eq_true rfl) dX10_minute_75 ?_
    refine rx_iinc (lv2 := [(4, .int (x4 + (-1))), (0, .ref (adr E 0)), (1, .ref (adr E 15)), (2, .ref (adr E 10)), (3, .int x3)]) hG (-1) dX10_minute_78 ic_m1 4 rfl (Nat.le_of_ble_eq_true rfl) rfl ?_
    refine rx_goto hG 64 dX10_minute_81 rfl ?_
    refine rx_sub hG [1, 2, 3, 4, 0] (lv' := [(0, .ref (adr E 0)), (1, .ref (adr E 15)), (2, .ref (adr E 10)), (3, .int x3), (4, .int (x4 + (-1)))]) rfl ?_
    exact hrc64 x3 (x4 + (-1)) M2 hf
theorem Llp_M_minute_0_15_10_64 (l : Launch) (E : En) (T : List Sk) {a0 b0 kc ks : Nat} {M' : Mm} {G : Nat → List (Nat × Value) → List Value → Mm → Prop} (hG : RX l (SKM ++ T) E RX10 cX10_minute 5 none { frames := 6, cells := a0, slots := b0, locals := 146 } kc ks none M' G)  : ∀ (n : Nat) (x3 : Int32) (x4 : Int32) (M : Mm), lp_M_minute_0_15_10_64  n x3 x4 M = some M' → G 64 [(0, .ref (adr E 0)), (1, .ref (adr E 15)), (2, .ref (adr E 10)), (3, .int x3), (4, .int x4)] [] M := by
  intro n
  induction n with
  | zero => intro x3 x4 M hf; cases hf
  | succ n ih => intro x3 x4 M hf; exact Lblp_M_minute_0_15_10_64 l E T hG  (lp_M_minute_0_15_10_64  n) ih x3 x4 M hf
set_option maxHeartbeats 4000000 in
set_option maxRecDepth 100000 in
theorem Lj_M_minute_0_15_10_56 (l : Launch) (E : En) (T : List Sk) {a0 b0 kc ks : Nat} {M' : Mm} {G : Nat → List (Nat × Value) → List Value → Mm → Prop} (hG : RX l (SKM ++ T) E RX10 cX10_minute 5 none { frames := 6, cells := a0, slots := b0, locals := 146 } kc ks none M' G)  : ∀ (x3 : Int32) (M : Mm), j_M_minute_0_15_10_56  x3 M = some M' → G 56 [(0, .ref (adr E 0)), (1, .ref (adr E 15)), (2, .ref (adr E 10)), (3, .int x3)] [] M := by
  intro x3 M hf
  unfold j_M_minute_0_15_10_56 at hf
  refine rx_aload_n hG dX10_minute_56 0 rfl ?_
  refine gfM_M_242_0 l E T hG dX10_minute_57 ?_
  refine rx_iconst hG 1 dX10_minute_60 ic_1 ?_
  refine rx_isub hG dX10_minute_61 ?_
  refine rx_istore (lv2 := [(4, .int ((M.1 0 23) - 1)), (0, .ref (adr E 0)), (1, .ref (adr E 15)), (2, .ref (adr E 10)), (3, .int x3)]) hG dX10_minute_62 (Nat.le_of_ble_eq_true rfl) rfl ?_
  refine rx_sub hG [1, 2, 3, 4, 0] (lv' := [(0, .ref (adr E 0)), (1, .ref (adr E 15)), (2, .ref (adr E 10)), (3, .int x3), (4, .int ((M.1 0 23) - 1))]) rfl ?_
  exact Llp_M_minute_0_15_10_64 l E T hG  FW x3 ((M.1 0 23) - 1) M hf
set_option maxHeartbeats 4000000 in
set_option maxRecDepth 100000 in
theorem Lblp_M_minute_0_15_10_33 (l : Launch) (E : En) (T : List Sk) {a0 b0 kc ks : Nat} {M' : Mm} {G : Nat → List (Nat × Value) → List Value → Mm → Prop} (hG : RX l (SKM ++ T) E RX10 cX10_minute 5 none { frames := 6, cells := a0, slots := b0, locals := 146 } kc ks none M' G) (rc33 : Int32 → Int32 → Mm → Option Mm) (hrc33 : ∀ (x3 : Int32) (x4 : Int32) (M : Mm), rc33 x3 x4 M = some M' → G 33 [(0, .ref (adr E 0)), (1, .ref (adr E 15)), (2, .ref (adr E 10)), (3, .int x3), (4, .int x4)] [] M) : ∀ (x3 : Int32) (x4 : Int32) (M : Mm), blp_M_minute_0_15_10_33 rc33 x3 x4 M = some M' → G 33 [(0, .ref (adr E 0)), (1, .ref (adr E 15)), (2, .ref (adr E 10)), (3, .int x3), (4, .int x4)] [] M := by
  intro x3 x4 M hf
  unfold blp_M_minute_0_15_10_33 at hf
  refine rx_iload hG dX10_minute_33 4 rfl ?_
  refine rx_aload_n hG dX10_minute_35 0 rfl ?_
  refine gfM_M_248_0 l E T hG dX10_minute_36 ?_
  refine rx_icmp_ge hG 56 dX10_minute_39 rfl (fun c1 => ?_) (fun c1 => ?_)
  · have hf := ifT hf c1
    refine rx_sub hG [0, 1, 2, 3] (lv' := [(0, .ref (adr E 0)), (1, .ref (adr E 15)), (2, .ref (adr E 10)), (3, .int x3)]) rfl ?_
    exact Lj_M_minute_0_15_10_56 l E T hG  x3 M hf
  · have hf := ifF hf c1
    refine rx_aload_n hG dX10_minute_42 0 rfl ?_
    refine rx_aload_n hG dX10_minute_43 1 rfl ?_
    refine rx_iload hG dX10_minute_44 4 rfl ?_
    refine rx_iload_n hG dX10_minute_46 3 rfl ?_
    obtain ⟨M2, hM2, hf⟩ := bindE hf
    refine rx_cVv hG (c_M_serves_0_15 l E T x4 x3 hM2) (skM0 T) rfl rfl kw_M_296 ⟨Nat.le_of_ble_eq_true rfl, Nat.le_of_ble_eq_true rfl⟩ rfl (Nat.le_of_ble_eq_true rfl) dX10_minute_47 ?_
    refine rx_iinc (lv2 := [(4, .int (x4 + 1)), (0, .ref (adr E 0)), (1, .ref (adr E 15)), (2, .ref (adr E 10)), (3, .int x3)]) hG 1 dX10_minute_50 ic_1 4 rfl (Nat.le_of_ble_eq_true rfl) rfl ?_
    refine rx_goto hG 33 dX10_minute_53 rfl ?_
    refine rx_sub hG [1, 2, 3, 4, 0] (lv' := [(0, .ref (adr E 0)), (1, .ref (adr E 15)), (2, .ref (adr E 10)), (3, .int x3), (4, .int (x4 + 1))]) rfl ?_
    exact hrc33 x3 (x4 + 1) M2 hf
theorem Llp_M_minute_0_15_10_33 (l : Launch) (E : En) (T : List Sk) {a0 b0 kc ks : Nat} {M' : Mm} {G : Nat → List (Nat × Value) → List Value → Mm → Prop} (hG : RX l (SKM ++ T) E RX10 cX10_minute 5 none { frames := 6, cells := a0, slots := b0, locals := 146 } kc ks none M' G)  : ∀ (n : Nat) (x3 : Int32) (x4 : Int32) (M : Mm), lp_M_minute_0_15_10_33  n x3 x4 M = some M' → G 33 [(0, .ref (adr E 0)), (1, .ref (adr E 15)), (2, .ref (adr E 10)), (3, .int x3), (4, .int x4)] [] M := by
  intro n
  induction n with
  | zero => intro x3 x4 M hf; cases hf
  | succ n ih => intro x3 x4 M hf; exact Lblp_M_minute_0_15_10_33 l E T hG  (lp_M_minute_0_15_10_33  n) ih x3 x4 M hf
set_option maxHeartbeats 4000000 in
set_option maxRecDepth 100000 in
theorem Lj_M_minute_0_15_10_30 (l : Launch) (E : En) (T : List Sk) {a0 b0 kc ks : Nat} {M' : Mm} {G : Nat → List (Nat × Value) → List Value → Mm → Prop} (hG : RX l (SKM ++ T) E RX10 cX10_minute 5 none { frames := 6, cells := a0, slots := b0, locals := 146 } kc ks none M' G)  : ∀ (x3 : Int32) (M : Mm), j_M_minute_0_15_10_30  x3 M = some M' → G 30 [(0, .ref (adr E 0)), (1, .ref (adr E 15)), (2, .ref (adr E 10)), (3, .int x3)] [] M := by
  intro x3 M hf
  unfold j_M_minute_0_15_10_30 at hf
  refine rx_iconst hG 0 dX10_minute_30 ic_0 ?_
  refine rx_istore (lv2 := [(4, .int 0), (0, .ref (adr E 0)), (1, .ref (adr E 15)), (2, .ref (adr E 10)), (3, .int x3)]) hG dX10_minute_31 (Nat.le_of_ble_eq_true rfl) rfl ?_
  refine rx_sub hG [1, 2, 3, 4, 0] (lv' := [(0, .ref (adr E 0)), (1, .ref (adr E 15)), (2, .ref (adr E 10)), (3, .int x3), (4, .int 0)]) rfl ?_
  exact Llp_M_minute_0_15_10_33 l E T hG  FW x3 0 M hf
set_option maxHeartbeats 4000000 in
set_option maxRecDepth 100000 in
theorem Lblp_M_minute_0_15_10_7 (l : Launch) (E : En) (T : List Sk) {a0 b0 kc ks : Nat} {M' : Mm} {G : Nat → List (Nat × Value) → List Value → Mm → Prop} (hG : RX l (SKM ++ T) E RX10 cX10_minute 5 none { frames := 6, cells := a0, slots := b0, locals := 146 } kc ks none M' G) (rc7 : Int32 → Int32 → Mm → Option Mm) (hrc7 : ∀ (x3 : Int32) (x4 : Int32) (M : Mm), rc7 x3 x4 M = some M' → G 7 [(0, .ref (adr E 0)), (1, .ref (adr E 15)), (2, .ref (adr E 10)), (3, .int x3), (4, .int x4)] [] M) : ∀ (x3 : Int32) (x4 : Int32) (M : Mm), blp_M_minute_0_15_10_7 rc7 x3 x4 M = some M' → G 7 [(0, .ref (adr E 0)), (1, .ref (adr E 15)), (2, .ref (adr E 10)), (3, .int x3), (4, .int x4)] [] M := by
  intro x3 x4 M hf
  unfold blp_M_minute_0_15_10_7 at hf
  refine rx_iload hG dX10_minute_7 4 rfl ?_
  refine rx_aload_n hG dX10_minute_9 0 rfl ?_
  refine gfM_M_242_0 l E T hG dX10_minute_10 ?_
  refine rx_icmp_ge hG 30 dX10_minute_13 rfl (fun c1 => ?_) (fun c1 => ?_)
  · have hf := ifT hf c1
    refine rx_sub hG [0, 1, 2, 3] (lv' := [(0, .ref (adr E 0)), (1, .ref (adr E 15)), (2, .ref (adr E 10)), (3, .int x3)]) rfl ?_
    exact Lj_M_minute_0_15_10_30 l E T hG  x3 M hf
  · have hf := ifF hf c1
    refine rx_aload_n hG dX10_minute_16 0 rfl ?_
    refine rx_aload_n hG dX10_minute_17 1 rfl ?_
    refine rx_iload hG dX10_minute_18 4 rfl ?_
    refine rx_iload_n hG dX10_minute_20 3 rfl ?_
    obtain ⟨M2, hM2, hf⟩ := bindE hf
    refine rx_cVv hG (c_M_ends_0_15 l E T x4 x3 hM2) (skM0 T) rfl rfl kw_M_292 ⟨Nat.le_of_ble_eq_true rfl, Nat.le_of_ble_eq_true rfl⟩ rfl (Nat.le_of_ble_eq_true rfl) dX10_minute_21 ?_
    refine rx_iinc (lv2 := [(4, .int (x4 + 1)), (0, .ref (adr E 0)), (1, .ref (adr E 15)), (2, .ref (adr E 10)), (3, .int x3)]) hG 1 dX10_minute_24 ic_1 4 rfl (Nat.le_of_ble_eq_true rfl) rfl ?_
    refine rx_goto hG 7 dX10_minute_27 rfl ?_
    refine rx_sub hG [1, 2, 3, 4, 0] (lv' := [(0, .ref (adr E 0)), (1, .ref (adr E 15)), (2, .ref (adr E 10)), (3, .int x3), (4, .int (x4 + 1))]) rfl ?_
    exact hrc7 x3 (x4 + 1) M2 hf
theorem Llp_M_minute_0_15_10_7 (l : Launch) (E : En) (T : List Sk) {a0 b0 kc ks : Nat} {M' : Mm} {G : Nat → List (Nat × Value) → List Value → Mm → Prop} (hG : RX l (SKM ++ T) E RX10 cX10_minute 5 none { frames := 6, cells := a0, slots := b0, locals := 146 } kc ks none M' G)  : ∀ (n : Nat) (x3 : Int32) (x4 : Int32) (M : Mm), lp_M_minute_0_15_10_7  n x3 x4 M = some M' → G 7 [(0, .ref (adr E 0)), (1, .ref (adr E 15)), (2, .ref (adr E 10)), (3, .int x3), (4, .int x4)] [] M := by
  intro n
  induction n with
  | zero => intro x3 x4 M hf; cases hf
  | succ n ih => intro x3 x4 M hf; exact Lblp_M_minute_0_15_10_7 l E T hG  (lp_M_minute_0_15_10_7  n) ih x3 x4 M hf
set_option maxHeartbeats 4000000 in
set_option maxRecDepth 100000 in
theorem c_M_minute_0_15_10 (l : Launch) (E : En) (T : List Sk)  {M M' : Mm} (h : f_M_minute_0_15_10 M = some M') : Ct l (SKM ++ T) E yX10_minute cX10_minute 5 none 6 146 [.ref (adr E 0), .ref (adr E 15), .ref (adr E 10)] M none M' := by
  refine ct_of (by decide) (Nat.le_of_ble_eq_true rfl) ?_
  intro G hG
  show G 0 [(0, .ref (adr E 0)), (1, .ref (adr E 15)), (2, .ref (adr E 10))] [] M
  have hf := h
  unfold f_M_minute_0_15_10 at hf
  refine rx_aload_n hG dX10_minute_0 1 rfl ?_
  refine rx_iconst hG 0 dX10_minute_1 ic_0 ?_
  obtain ⟨v1, hv1, hf⟩ := bindE hf
  refine rx_iald hG (skM15 T) hv1 dX10_minute_2 ?_
  refine rx_istore_n (lv2 := [(3, .int v1), (0, .ref (adr E 0)), (1, .ref (adr E 15)), (2, .ref (adr E 10))]) hG dX10_minute_3 (Nat.le_of_ble_eq_true rfl) rfl ?_
  refine rx_iconst hG 0 dX10_minute_4 ic_0 ?_
  refine rx_istore (lv2 := [(4, .int 0), (3, .int v1), (0, .ref (adr E 0)), (1, .ref (adr E 15)), (2, .ref (adr E 10))]) hG dX10_minute_5 (Nat.le_of_ble_eq_true rfl) rfl ?_
  refine rx_sub hG [2, 3, 4, 1, 0] (lv' := [(0, .ref (adr E 0)), (1, .ref (adr E 15)), (2, .ref (adr E 10)), (3, .int v1), (4, .int 0)]) rfl ?_
  exact Llp_M_minute_0_15_10_7 l E T hG  FW v1 0 M hf
set_option maxHeartbeats 4000000 in
set_option maxRecDepth 100000 in
theorem Lj_M_run_0_89 (l : Launch) (E : En) (T : List Sk) {a0 b0 kc ks : Nat} {r : Int32} {M' : Mm} {G : Nat → List (Nat × Value) → List Value → Mm → Prop} (hG : RX l (SKM ++ T) E RX10 cX10_run 4 (some .int) { frames := 7, cells := a0, slots := b0, locals := 170 } kc ks (some (.int r)) M' G)  : ∀ (x2 : Int32) (M : Mm), j_M_run_0_89  x2 M = some (r, M') → G 89 [(0, .ref (adr E 0)), (2, .int x2)] [] M := by
  intro x2 M hf
  unfold j_M_run_0_89 at hf
  refine rx_aload_n hG dX10_run_89 0 rfl ?_
  refine rx_aload_n hG dX10_run_90 0 rfl ?_
  refine rx_aload_n hG dX10_run_91 0 rfl ?_
  refine gfM_M_57_0 l E T hG dX10_run_92 ?_
  obtain ⟨v1, hv1, hf⟩ := bindE hf
  refine rx_cVi hG (c_M_delivered_0_15 l E T  hv1) (skM0 T) rfl rfl kw_M_325 ⟨Nat.le_of_ble_eq_true rfl, Nat.le_of_ble_eq_true rfl⟩ rfl (Nat.le_of_ble_eq_true rfl) dX10_run_95 ?_
  refine rx_iload_n hG dX10_run_98 1 rfl ?_
  refine rx_isub hG dX10_run_99 ?_
  obtain ⟨q2, hq2, hf⟩ := bindE hf
  refine rx_cVi hG (c_M_good_0 l E T (v1 - x2) hq2) (skM0 T) rfl rfl kw_M_245 ⟨Nat.le_of_ble_eq_true rfl, Nat.le_of_ble_eq_true rfl⟩ rfl (Nat.le_of_ble_eq_true rfl) dX10_run_100 ?_
  cases hf
  exact rx_iret hG dX10_run_103
set_option maxHeartbeats 4000000 in
set_option maxRecDepth 100000 in
theorem Lblp_M_run_0_66 (l : Launch) (E : En) (T : List Sk) {a0 b0 kc ks : Nat} {r : Int32} {M' : Mm} {G : Nat → List (Nat × Value) → List Value → Mm → Prop} (hG : RX l (SKM ++ T) E RX10 cX10_run 4 (some .int) { frames := 7, cells := a0, slots := b0, locals := 170 } kc ks (some (.int r)) M' G) (rc66 : Int32 → Int32 → Int32 → Mm → Option (Int32 × Mm)) (hrc66 : ∀ (x1 : Int32) (x2 : Int32) (x3 : Int32) (M : Mm), rc66 x1 x2 x3 M = some (r, M') → G 66 [(0, .ref (adr E 0)), (1, .int x1), (2, .int x2), (3, .int x3)] [] M) : ∀ (x1 : Int32) (x2 : Int32) (x3 : Int32) (M : Mm), blp_M_run_0_66 rc66 x1 x2 x3 M = some (r, M') → G 66 [(0, .ref (adr E 0)), (1, .int x1), (2, .int x2), (3, .int x3)] [] M := by
  intro x1 x2 x3 M hf
  unfold blp_M_run_0_66 at hf
  refine rx_iload_n hG dX10_run_66 3 rfl ?_
  refine rx_iload_n hG dX10_run_67 1 rfl ?_
  refine rx_icmp_ge hG 89 dX10_run_68 rfl (fun c1 => ?_) (fun c1 => ?_)
  · have hf := ifT hf c1
    refine rx_sub hG [0, 2] (lv' := [(0, .ref (adr E 0)), (2, .int x2)]) rfl ?_
    exact Lj_M_run_0_89 l E T hG  x2 M hf
  · have hf := ifF hf c1
    refine rx_aload_n hG dX10_run_71 0 rfl ?_
    refine rx_aload_n hG dX10_run_72 0 rfl ?_
    refine gfM_M_57_0 l E T hG dX10_run_73 ?_
    refine rx_aload_n hG dX10_run_76 0 rfl ?_
    refine gfM_M_42_0 l E T hG dX10_run_77 ?_
    obtain ⟨M2, hM2, hf⟩ := bindE hf
    refine rx_cVv hG (c_M_minute_0_15_10 l E T  hM2) (skM0 T) rfl rfl kw_M_329 ⟨Nat.le_of_ble_eq_true rfl, Nat.le_of_ble_eq_true rfl⟩ rfl (Nat.le_of_ble_eq_true rfl) dX10_run_80 ?_
    refine rx_iinc (lv2 := [(3, .int (x3 + 1)), (0, .ref (adr E 0)), (1, .int x1), (2, .int x2)]) hG 1 dX10_run_83 ic_1 3 rfl (Nat.le_of_ble_eq_true rfl) rfl ?_
    refine rx_goto hG 66 dX10_run_86 rfl ?_
    refine rx_sub hG [1, 2, 3, 0] (lv' := [(0, .ref (adr E 0)), (1, .int x1), (2, .int x2), (3, .int (x3 + 1))]) rfl ?_
    exact hrc66 x1 x2 (x3 + 1) M2 hf
theorem Llp_M_run_0_66 (l : Launch) (E : En) (T : List Sk) {a0 b0 kc ks : Nat} {r : Int32} {M' : Mm} {G : Nat → List (Nat × Value) → List Value → Mm → Prop} (hG : RX l (SKM ++ T) E RX10 cX10_run 4 (some .int) { frames := 7, cells := a0, slots := b0, locals := 170 } kc ks (some (.int r)) M' G)  : ∀ (n : Nat) (x1 : Int32) (x2 : Int32) (x3 : Int32) (M : Mm), lp_M_run_0_66  n x1 x2 x3 M = some (r, M') → G 66 [(0, .ref (adr E 0)), (1, .int x1), (2, .int x2), (3, .int x3)] [] M := by
  intro n
  induction n with
  | zero => intro x1 x2 x3 M hf; cases hf
  | succ n ih => intro x1 x2 x3 M hf; exact Lblp_M_run_0_66 l E T hG  (lp_M_run_0_66  n) ih x1 x2 x3 M hf
set_option maxHeartbeats 4000000 in
set_option maxRecDepth 100000 in
theorem c_M_run_0 (l : Launch) (E : En) (T : List Sk) (p0 : Int32) {M M' : Mm} {r : Int32} (h : f_M_run_0 p0 M = some (r, M')) : Ct l (SKM ++ T) E yX10_run cX10_run 4 (some .int) 7 170 [.ref (adr E 0), .int p0] M (some (.int r)) M' := by
  refine ct_of (by decide) (Nat.le_of_ble_eq_true rfl) ?_
  intro G hG
  show G 0 [(0, .ref (adr E 0)), (1, .int p0)] [] M
  have hf := h
  unfold f_M_run_0 at hf
  refine rx_aload_n hG dX10_run_0 0 rfl ?_
  refine rx_iconst hG 0 dX10_run_1 ic_0 ?_
  obtain ⟨M1, hM1, hf⟩ := bindE hf
  refine pfM_M_74_0 l E T hG hM1 dX10_run_2 ?_
  refine rx_aload_n hG dX10_run_5 0 rfl ?_
  refine gfM_M_257_0 l E T hG dX10_run_6 ?_
  refine rx_if_ne hG 18 dX10_run_9 rfl (fun c2 => ?_) (fun c2 => ?_)
  · have hf := ifF hf c2
    refine rx_iload_n hG dX10_run_18 1 rfl ?_
    refine rx_iconst hG 1 dX10_run_19 ic_1 ?_
    refine rx_sipush hG 500 dX10_run_20 sp_500 ?_
    obtain ⟨v3, hv3, hf⟩ := bindE hf
    refine rx_cSi hG (c_M_in l E (SKM ++ T) p0 1 500 hv3) kw_M_95 ⟨Nat.le_of_ble_eq_true rfl, Nat.le_of_ble_eq_true rfl⟩ rfl (Nat.le_of_ble_eq_true rfl) dX10_run_23 ?_
    refine rx_if_ne hG 35 dX10_run_26 rfl (fun c4 => ?_) (fun c4 => ?_)
    · have hf := ifF hf c4
      refine rx_aload_n hG dX10_run_35 0 rfl ?_
      refine gfM_M_57_0 l E T hG dX10_run_36 ?_
      refine rx_iconst hG 0 dX10_run_39 ic_0 ?_
      obtain ⟨v5, hv5, hf⟩ := bindE hf
      refine rx_iald hG (skM15 T) hv5 dX10_run_40 ?_
      refine rx_iload_n hG dX10_run_41 1 rfl ?_
      refine rx_iadd hG dX10_run_42 ?_
      refine rx_sipush hG 9999 dX10_run_43 sp_9999 ?_
      refine rx_icmp_le hG 55 dX10_run_46 rfl (fun c6 => ?_) (fun c6 => ?_)
      · have hf := ifT hf c6
        refine rx_aload_n hG dX10_run_55 0 rfl ?_
        refine rx_aload_n hG dX10_run_56 0 rfl ?_
        refine gfM_M_57_0 l E T hG dX10_run_57 ?_
        obtain ⟨v7, hv7, hf⟩ := bindE hf
        refine rx_cVi hG (c_M_delivered_0_15 l E T  hv7) (skM0 T) rfl rfl kw_M_325 ⟨Nat.le_of_ble_eq_true rfl, Nat.le_of_ble_eq_true rfl⟩ rfl (Nat.le_of_ble_eq_true rfl) dX10_run_60 ?_
        refine rx_istore_n (lv2 := [(2, .int v7), (0, .ref (adr E 0)), (1, .int p0)]) hG dX10_run_63 (Nat.le_of_ble_eq_true rfl) rfl ?_
        refine rx_iconst hG 0 dX10_run_64 ic_0 ?_
        refine rx_istore_n (lv2 := [(3, .int 0), (2, .int v7), (0, .ref (adr E 0)), (1, .int p0)]) hG dX10_run_65 (Nat.le_of_ble_eq_true rfl) rfl ?_
        refine rx_sub hG [2, 3, 1, 0] (lv' := [(0, .ref (adr E 0)), (1, .int p0), (2, .int v7), (3, .int 0)]) rfl ?_
        exact Llp_M_run_0_66 l E T hG  FW p0 v7 0 M1 hf
      · have hf := ifF hf c6
        refine rx_aload_n hG dX10_run_49 0 rfl ?_
        refine rx_iconst hG 5 dX10_run_50 ic_5 ?_
        obtain ⟨q8, hq8, hf⟩ := bindE hf
        refine rx_cVi hG (c_M_refused_0 l E T 5 hq8) (skM0 T) rfl rfl kw_M_232 ⟨Nat.le_of_ble_eq_true rfl, Nat.le_of_ble_eq_true rfl⟩ rfl (Nat.le_of_ble_eq_true rfl) dX10_run_51 ?_
        cases hf
        exact rx_iret hG dX10_run_54
    · have hf := ifT hf c4
      refine rx_aload_n hG dX10_run_29 0 rfl ?_
      refine rx_iconst hG 2 dX10_run_30 ic_2 ?_
      obtain ⟨q9, hq9, hf⟩ := bindE hf
      refine rx_cVi hG (c_M_refused_0 l E T 2 hq9) (skM0 T) rfl rfl kw_M_232 ⟨Nat.le_of_ble_eq_true rfl, Nat.le_of_ble_eq_true rfl⟩ rfl (Nat.le_of_ble_eq_true rfl) dX10_run_31 ?_
      cases hf
      exact rx_iret hG dX10_run_34
  · have hf := ifT hf c2
    refine rx_aload_n hG dX10_run_12 0 rfl ?_
    refine rx_iconst hG 1 dX10_run_13 ic_1 ?_
    obtain ⟨q10, hq10, hf⟩ := bindE hf
    refine rx_cVi hG (c_M_refused_0 l E T 1 hq10) (skM0 T) rfl rfl kw_M_232 ⟨Nat.le_of_ble_eq_true rfl, Nat.le_of_ble_eq_true rfl⟩ rfl (Nat.le_of_ble_eq_true rfl) dX10_run_14 ?_
    cases hf
    exact rx_iret hG dX10_run_17
set_option maxHeartbeats 4000000 in
set_option maxRecDepth 100000 in
theorem c_M_does_0 (l : Launch) (E : En) (T : List Sk) (p0 : Int32) (p1 : Int32) {M M' : Mm} {r : Int32} (h : f_M_does_0 p0 p1 M = some (r, M')) : Ct l (SKM ++ T) E yX10_does cX10_does 4 (some .int) 2 43 [.ref (adr E 0), .int p0, .int p1] M (some (.int r)) M' := by
  refine ct_of (by decide) (Nat.le_of_ble_eq_true rfl) ?_
  intro G hG
  show G 0 [(0, .ref (adr E 0)), (1, .int p0), (2, .int p1)] [] M
  have hf := h
  unfold f_M_does_0 at hf
  refine rx_aload_n hG dX10_does_0 0 rfl ?_
  refine rx_iconst hG 0 dX10_does_1 ic_0 ?_
  obtain ⟨M1, hM1, hf⟩ := bindE hf
  refine pfM_M_74_0 l E T hG hM1 dX10_does_2 ?_
  refine rx_aload_n hG dX10_does_5 0 rfl ?_
  refine rx_iload_n hG dX10_does_6 1 rfl ?_
  obtain ⟨v2, hv2, hf⟩ := bindE hf
  refine rx_cVi hG (c_M_isBench_0 l E T p0 hv2) (skM0 T) rfl rfl kw_M_316 ⟨Nat.le_of_ble_eq_true rfl, Nat.le_of_ble_eq_true rfl⟩ rfl (Nat.le_of_ble_eq_true rfl) dX10_does_7 ?_
  refine rx_if_eq hG 22 dX10_does_10 rfl (fun c3 => ?_) (fun c3 => ?_)
  · have hf := ifT hf c3
    refine rx_aload_n hG dX10_does_22 0 rfl ?_
    refine rx_iconst hG 1 dX10_does_23 ic_1 ?_
    obtain ⟨q4, hq4, hf⟩ := bindE hf
    refine rx_cVi hG (c_M_refused_0 l E T 1 hq4) (skM0 T) rfl rfl kw_M_232 ⟨Nat.le_of_ble_eq_true rfl, Nat.le_of_ble_eq_true rfl⟩ rfl (Nat.le_of_ble_eq_true rfl) dX10_does_24 ?_
    cases hf
    exact rx_iret hG dX10_does_27
  · have hf := ifF hf c3
    refine rx_iload_n hG dX10_does_13 2 rfl ?_
    refine rx_iconst hG 0 dX10_does_14 ic_0 ?_
    refine rx_iconst hG 3 dX10_does_15 ic_3 ?_
    obtain ⟨v5, hv5, hf⟩ := bindE hf
    refine rx_cSi hG (c_M_in l E (SKM ++ T) p1 0 3 hv5) kw_M_95 ⟨Nat.le_of_ble_eq_true rfl, Nat.le_of_ble_eq_true rfl⟩ rfl (Nat.le_of_ble_eq_true rfl) dX10_does_16 ?_
    refine rx_if_ne hG 28 dX10_does_19 rfl (fun c6 => ?_) (fun c6 => ?_)
    · have hf := ifF hf c6
      refine rx_aload_n hG dX10_does_28 0 rfl ?_
      refine gfM_M_57_0 l E T hG dX10_does_29 ?_
      refine rx_iload_n hG dX10_does_32 1 rfl ?_
      refine rx_iconst hG 0 dX10_does_33 ic_0 ?_
      obtain ⟨v7, hv7, hf⟩ := bindE hf
      refine rx_cSi hG (c_M_of l E (SKM ++ T) p0 0 hv7) kw_M_264 ⟨Nat.le_of_ble_eq_true rfl, Nat.le_of_ble_eq_true rfl⟩ rfl (Nat.le_of_ble_eq_true rfl) dX10_does_34 ?_
      obtain ⟨v8, hv8, hf⟩ := bindE hf
      refine rx_iald hG (skM15 T) hv8 dX10_does_37 ?_
      refine rx_istore_n (lv2 := [(3, .int v8), (0, .ref (adr E 0)), (1, .int p0), (2, .int p1)]) hG dX10_does_38 (Nat.le_of_ble_eq_true rfl) rfl ?_
      refine rx_iload_n hG dX10_does_39 3 rfl ?_
      by_cases c9 : p1 = 0
      · have hf := ifT hf c9
        refine rx_tableIn hG 68 0 (by rw [c9]; rfl) dX10_does_40 (by decide) (by decide) rfl rfl ?_
        refine rx_aload_n hG dX10_does_68 1 rfl ?_
        refine rx_iload_n hG dX10_does_69 0 rfl ?_
        obtain ⟨q10, hq10, hf⟩ := bindE hf
        refine rx_cVi hG (c_M_good_0 l E T v8 hq10) (skM0 T) rfl rfl kw_M_245 ⟨Nat.le_of_ble_eq_true rfl, Nat.le_of_ble_eq_true rfl⟩ rfl (Nat.le_of_ble_eq_true rfl) dX10_does_70 ?_
        cases hf
        exact rx_iret hG dX10_does_73
      have hf := ifF hf c9
      by_cases c11 : p1 = 1
      · have hf := ifT hf c11
        refine rx_tableIn hG 74 1 (by rw [c11]; rfl) dX10_does_40 (by decide) (by decide) rfl rfl ?_
        refine rx_aload_n hG dX10_does_74 1 rfl ?_
        refine rx_aload_n hG dX10_does_75 1 rfl ?_
        refine gfM_M_57_0 l E T hG dX10_does_76 ?_
        refine rx_iload_n hG dX10_does_79 2 rfl ?_
        refine rx_iconst hG 1 dX10_does_80 ic_1 ?_
        obtain ⟨v12, hv12, hf⟩ := bindE hf
        refine rx_cSi hG (c_M_of l E (SKM ++ T) p0 1 hv12) kw_M_264 ⟨Nat.le_of_ble_eq_true rfl, Nat.le_of_ble_eq_true rfl⟩ rfl (Nat.le_of_ble_eq_true rfl) dX10_does_81 ?_
        obtain ⟨v13, hv13, hf⟩ := bindE hf
        refine rx_iald hG (skM15 T) hv13 dX10_does_84 ?_
        obtain ⟨q14, hq14, hf⟩ := bindE hf
        refine rx_cVi hG (c_M_good_0 l E T v13 hq14) (skM0 T) rfl rfl kw_M_245 ⟨Nat.le_of_ble_eq_true rfl, Nat.le_of_ble_eq_true rfl⟩ rfl (Nat.le_of_ble_eq_true rfl) dX10_does_85 ?_
        cases hf
        exact rx_iret hG dX10_does_88
      have hf := ifF hf c11
      by_cases c15 : p1 = 2
      · have hf := ifT hf c15
        refine rx_tableIn hG 89 2 (by rw [c15]; rfl) dX10_does_40 (by decide) (by decide) rfl rfl ?_
        refine rx_aload_n hG dX10_does_89 1 rfl ?_
        refine rx_iload_n hG dX10_does_90 0 rfl ?_
        refine rx_if_ne hG 98 dX10_does_91 rfl (fun c16 => ?_) (fun c16 => ?_)
        · have hf := ifF hf c16
          refine rx_aload_n hG dX10_does_98 1 rfl ?_
          refine gfM_M_57_0 l E T hG dX10_does_99 ?_
          refine rx_iload_n hG dX10_does_102 2 rfl ?_
          refine rx_iconst hG 2 dX10_does_103 ic_2 ?_
          obtain ⟨v17, hv17, hf⟩ := bindE hf
          refine rx_cSi hG (c_M_of l E (SKM ++ T) p0 2 hv17) kw_M_264 ⟨Nat.le_of_ble_eq_true rfl, Nat.le_of_ble_eq_true rfl⟩ rfl (Nat.le_of_ble_eq_true rfl) dX10_does_104 ?_
          obtain ⟨v18, hv18, hf⟩ := bindE hf
          refine rx_iald hG (skM15 T) hv18 dX10_does_107 ?_
          refine rx_aload_n hG dX10_does_108 1 rfl ?_
          refine gfM_M_57_0 l E T hG dX10_does_109 ?_
          refine rx_iconst hG 0 dX10_does_112 ic_0 ?_
          obtain ⟨v19, hv19, hf⟩ := bindE hf
          refine rx_iald hG (skM15 T) hv19 dX10_does_113 ?_
          refine rx_isub hG dX10_does_114 ?_
          obtain ⟨q20, hq20, hf⟩ := bindE hf
          refine rx_cVi hG (c_M_good_0 l E T (v18 - v19) hq20) (skM0 T) rfl rfl kw_M_245 ⟨Nat.le_of_ble_eq_true rfl, Nat.le_of_ble_eq_true rfl⟩ rfl (Nat.le_of_ble_eq_true rfl) dX10_does_115 ?_
          cases hf
          exact rx_iret hG dX10_does_118
        · have hf := ifT hf c16
          refine rx_iconst hG 0 dX10_does_94 ic_0 ?_
          refine rx_goto hG 115 dX10_does_95 rfl ?_
          obtain ⟨q21, hq21, hf⟩ := bindE hf
          refine rx_cVi hG (c_M_good_0 l E T 0 hq21) (skM0 T) rfl rfl kw_M_245 ⟨Nat.le_of_ble_eq_true rfl, Nat.le_of_ble_eq_true rfl⟩ rfl (Nat.le_of_ble_eq_true rfl) dX10_does_115 ?_
          cases hf
          exact rx_iret hG dX10_does_118
      have hf := ifF hf c15
      refine rx_tableOut hG 119 dX10_does_40 (by have := tiN c9 (z := 0) rfl; have := tiN c11 (z := 1) rfl; have := tiN c15 (z := 2) rfl; omega) rfl ?_
      refine rx_aload_n hG dX10_does_119 1 rfl ?_
      refine rx_aload_n hG dX10_does_120 1 rfl ?_
      refine gfM_M_57_0 l E T hG dX10_does_121 ?_
      refine rx_iload_n hG dX10_does_124 2 rfl ?_
      refine rx_iconst hG 3 dX10_does_125 ic_3 ?_
      obtain ⟨v22, hv22, hf⟩ := bindE hf
      refine rx_cSi hG (c_M_of l E (SKM ++ T) p0 3 hv22) kw_M_264 ⟨Nat.le_of_ble_eq_true rfl, Nat.le_of_ble_eq_true rfl⟩ rfl (Nat.le_of_ble_eq_true rfl) dX10_does_126 ?_
      obtain ⟨v23, hv23, hf⟩ := bindE hf
      refine rx_iald hG (skM15 T) hv23 dX10_does_129 ?_
      obtain ⟨q24, hq24, hf⟩ := bindE hf
      refine rx_cVi hG (c_M_good_0 l E T v23 hq24) (skM0 T) rfl rfl kw_M_245 ⟨Nat.le_of_ble_eq_true rfl, Nat.le_of_ble_eq_true rfl⟩ rfl (Nat.le_of_ble_eq_true rfl) dX10_does_130 ?_
      cases hf
      exact rx_iret hG dX10_does_133
    · have hf := ifT hf c6
      refine rx_aload_n hG dX10_does_22 0 rfl ?_
      refine rx_iconst hG 1 dX10_does_23 ic_1 ?_
      obtain ⟨q25, hq25, hf⟩ := bindE hf
      refine rx_cVi hG (c_M_refused_0 l E T 1 hq25) (skM0 T) rfl rfl kw_M_232 ⟨Nat.le_of_ble_eq_true rfl, Nat.le_of_ble_eq_true rfl⟩ rfl (Nat.le_of_ble_eq_true rfl) dX10_does_24 ?_
      cases hf
      exact rx_iret hG dX10_does_27
set_option maxHeartbeats 4000000 in
set_option maxRecDepth 100000 in
theorem c_M_counts_0 (l : Launch) (E : En) (T : List Sk) (p0 : Int32) (p1 : Int32) {M M' : Mm} {r : Int32} (h : f_M_counts_0 p0 p1 M = some (r, M')) : Ct l (SKM ++ T) E yX10_counts cX10_counts 3 (some .int) 2 43 [.ref (adr E 0), .int p0, .int p1] M (some (.int r)) M' := by
  refine ct_of (by decide) (Nat.le_of_ble_eq_true rfl) ?_
  intro G hG
  show G 0 [(0, .ref (adr E 0)), (1, .int p0), (2, .int p1)] [] M
  have hf := h
  unfold f_M_counts_0 at hf
  refine rx_aload_n hG dX10_counts_0 0 rfl ?_
  refine rx_iconst hG 0 dX10_counts_1 ic_0 ?_
  obtain ⟨M1, hM1, hf⟩ := bindE hf
  refine pfM_M_74_0 l E T hG hM1 dX10_counts_2 ?_
  refine rx_aload_n hG dX10_counts_5 0 rfl ?_
  refine rx_iload_n hG dX10_counts_6 1 rfl ?_
  obtain ⟨v2, hv2, hf⟩ := bindE hf
  refine rx_cVi hG (c_M_isBench_0 l E T p0 hv2) (skM0 T) rfl rfl kw_M_316 ⟨Nat.le_of_ble_eq_true rfl, Nat.le_of_ble_eq_true rfl⟩ rfl (Nat.le_of_ble_eq_true rfl) dX10_counts_7 ?_
  refine rx_if_eq hG 41 dX10_counts_10 rfl (fun c3 => ?_) (fun c3 => ?_)
  · have hf := ifT hf c3
    refine rx_aload_n hG dX10_counts_41 0 rfl ?_
    refine rx_iconst hG 1 dX10_counts_42 ic_1 ?_
    obtain ⟨q4, hq4, hf⟩ := bindE hf
    refine rx_cVi hG (c_M_refused_0 l E T 1 hq4) (skM0 T) rfl rfl kw_M_232 ⟨Nat.le_of_ble_eq_true rfl, Nat.le_of_ble_eq_true rfl⟩ rfl (Nat.le_of_ble_eq_true rfl) dX10_counts_43 ?_
    cases hf
    exact rx_iret hG dX10_counts_46
  · have hf := ifF hf c3
    refine rx_iload_n hG dX10_counts_13 2 rfl ?_
    refine rx_iconst hG 0 dX10_counts_14 ic_0 ?_
    refine rx_iconst hG 4 dX10_counts_15 ic_4 ?_
    obtain ⟨v5, hv5, hf⟩ := bindE hf
    refine rx_cSi hG (c_M_in l E (SKM ++ T) p1 0 4 hv5) kw_M_95 ⟨Nat.le_of_ble_eq_true rfl, Nat.le_of_ble_eq_true rfl⟩ rfl (Nat.le_of_ble_eq_true rfl) dX10_counts_16 ?_
    refine rx_if_eq hG 41 dX10_counts_19 rfl (fun c6 => ?_) (fun c6 => ?_)
    · have hf := ifT hf c6
      refine rx_aload_n hG dX10_counts_41 0 rfl ?_
      refine rx_iconst hG 1 dX10_counts_42 ic_1 ?_
      obtain ⟨q7, hq7, hf⟩ := bindE hf
      refine rx_cVi hG (c_M_refused_0 l E T 1 hq7) (skM0 T) rfl rfl kw_M_232 ⟨Nat.le_of_ble_eq_true rfl, Nat.le_of_ble_eq_true rfl⟩ rfl (Nat.le_of_ble_eq_true rfl) dX10_counts_43 ?_
      cases hf
      exact rx_iret hG dX10_counts_46
    · have hf := ifF hf c6
      refine rx_aload_n hG dX10_counts_22 0 rfl ?_
      refine rx_aload_n hG dX10_counts_23 0 rfl ?_
      refine gfM_M_57_0 l E T hG dX10_counts_24 ?_
      refine rx_iload_n hG dX10_counts_27 1 rfl ?_
      refine rx_iconst hG 4 dX10_counts_28 ic_4 ?_
      refine rx_iload_n hG dX10_counts_29 2 rfl ?_
      refine rx_iadd hG dX10_counts_30 ?_
      obtain ⟨v8, hv8, hf⟩ := bindE hf
      refine rx_cSi hG (c_M_of l E (SKM ++ T) p0 (4 + p1) hv8) kw_M_264 ⟨Nat.le_of_ble_eq_true rfl, Nat.le_of_ble_eq_true rfl⟩ rfl (Nat.le_of_ble_eq_true rfl) dX10_counts_31 ?_
      obtain ⟨v9, hv9, hf⟩ := bindE hf
      refine rx_iald hG (skM15 T) hv9 dX10_counts_34 ?_
      obtain ⟨q10, hq10, hf⟩ := bindE hf
      refine rx_cVi hG (c_M_good_0 l E T v9 hq10) (skM0 T) rfl rfl kw_M_245 ⟨Nat.le_of_ble_eq_true rfl, Nat.le_of_ble_eq_true rfl⟩ rfl (Nat.le_of_ble_eq_true rfl) dX10_counts_35 ?_
      refine rx_goto hG 46 dX10_counts_38 rfl ?_
      cases hf
      exact rx_iret hG dX10_counts_46
set_option maxHeartbeats 4000000 in
set_option maxRecDepth 100000 in
theorem c_M_waits_0 (l : Launch) (E : En) (T : List Sk) (p0 : Int32) {M : Mm} {r : Int32} (h : f_M_waits_0 p0 M = some r) : Ct l (SKM ++ T) E yX10_waits cX10_waits 2 (some .int) 1 21 [.ref (adr E 0), .int p0] M (some (.int r)) M := by
  refine ct_of (by decide) (Nat.le_of_ble_eq_true rfl) ?_
  intro G hG
  show G 0 [(0, .ref (adr E 0)), (1, .int p0)] [] M
  have hf := h
  unfold f_M_waits_0 at hf
  refine rx_aload_n hG dX10_waits_0 0 rfl ?_
  refine gfM_M_57_0 l E T hG dX10_waits_1 ?_
  refine rx_iload_n hG dX10_waits_4 1 rfl ?_
  refine rx_iconst hG 0 dX10_waits_5 ic_0 ?_
  obtain ⟨v1, hv1, hf⟩ := bindE hf
  refine rx_cSi hG (c_M_ofKind l E (SKM ++ T) p0 0 hv1) kw_M_274 ⟨Nat.le_of_ble_eq_true rfl, Nat.le_of_ble_eq_true rfl⟩ rfl (Nat.le_of_ble_eq_true rfl) dX10_waits_6 ?_
  obtain ⟨v2, hv2, hf⟩ := bindE hf
  refine rx_iald hG (skM15 T) hv2 dX10_waits_9 ?_
  refine rx_aload_n hG dX10_waits_10 0 rfl ?_
  refine gfM_M_57_0 l E T hG dX10_waits_11 ?_
  refine rx_iload_n hG dX10_waits_14 1 rfl ?_
  refine rx_iconst hG 1 dX10_waits_15 ic_1 ?_
  obtain ⟨v3, hv3, hf⟩ := bindE hf
  refine rx_cSi hG (c_M_ofKind l E (SKM ++ T) p0 1 hv3) kw_M_274 ⟨Nat.le_of_ble_eq_true rfl, Nat.le_of_ble_eq_true rfl⟩ rfl (Nat.le_of_ble_eq_true rfl) dX10_waits_16 ?_
  obtain ⟨v4, hv4, hf⟩ := bindE hf
  refine rx_iald hG (skM15 T) hv4 dX10_waits_19 ?_
  refine rx_isub hG dX10_waits_20 ?_
  cases hf
  exact rx_iret hG dX10_waits_21
set_option maxHeartbeats 4000000 in
set_option maxRecDepth 100000 in
theorem Lblp_M_waited_0_41 (l : Launch) (E : En) (T : List Sk) {a0 b0 kc ks : Nat} {r : Int32} {M : Mm} {G : Nat → List (Nat × Value) → List Value → Mm → Prop} (hG : RX l (SKM ++ T) E RX10 cX10_waited 7 (some .int) { frames := 2, cells := a0, slots := b0, locals := 42 } kc ks (some (.int r)) M G) (rc41 : Int32 → Int32 → Int32 → Int32 → Int32 → Mm → Option Int32) (hrc41 : ∀ (x1 : Int32) (x2 : Int32) (x3 : Int32) (x4 : Int32) (x5 : Int32), rc41 x1 x2 x3 x4 x5 M = some r → G 41 [(0, .ref (adr E 0)), (1, .int x1), (2, .int x2), (3, .int x3), (4, .int x4), (5, .int x5)] [] M) : ∀ (x1 : Int32) (x2 : Int32) (x3 : Int32) (x4 : Int32) (x5 : Int32), blp_M_waited_0_41 rc41 x1 x2 x3 x4 x5 M = some r → G 41 [(0, .ref (adr E 0)), (1, .int x1), (2, .int x2), (3, .int x3), (4, .int x4), (5, .int x5)] [] M := by
  intro x1 x2 x3 x4 x5 hf
  unfold blp_M_waited_0_41 at hf
  refine rx_iload_n hG dX10_waited_41 3 rfl ?_
  refine rx_if_le hG 88 dX10_waited_42 rfl (fun c1 => ?_) (fun c1 => ?_)
  · have hf := ifT hf c1
    refine rx_iload_n hG dX10_waited_88 2 rfl ?_
    cases hf
    exact rx_iret hG dX10_waited_89
  · have hf := ifF hf c1
    refine rx_aload_n hG dX10_waited_45 0 rfl ?_
    refine rx_iload_n hG dX10_waited_46 1 rfl ?_
    refine rx_iload hG dX10_waited_47 5 rfl ?_
    obtain ⟨v2, hv2, hf⟩ := bindE hf
    refine rx_cVi hG (c_M_comeIn_0 l E T x1 x5 hv2) (skM0 T) rfl rfl kw_M_277 ⟨Nat.le_of_ble_eq_true rfl, Nat.le_of_ble_eq_true rfl⟩ rfl (Nat.le_of_ble_eq_true rfl) dX10_waited_49 ?_
    refine rx_iload hG dX10_waited_52 4 rfl ?_
    refine rx_isub hG dX10_waited_54 ?_
    refine rx_istore (lv2 := [(6, .int (v2 - x4)), (0, .ref (adr E 0)), (1, .int x1), (2, .int x2), (3, .int x3), (4, .int x4), (5, .int x5)]) hG dX10_waited_55 (Nat.le_of_ble_eq_true rfl) rfl ?_
    refine rx_iconst hG 0 dX10_waited_57 ic_0 ?_
    refine rx_istore (lv2 := [(4, .int 0), (6, .int (v2 - x4)), (0, .ref (adr E 0)), (1, .int x1), (2, .int x2), (3, .int x3), (5, .int x5)]) hG dX10_waited_58 (Nat.le_of_ble_eq_true rfl) rfl ?_
    refine rx_iload_n hG dX10_waited_60 4 rfl ?_
    refine rx_iload hG dX10_waited_61 1 rfl ?_
    refine rx_aload_n hG dX10_waited_63 2 rfl ?_
    refine gfM_M_57_0 l E T hG dX10_waited_64 ?_
    refine rx_iconst hG 0 dX10_waited_67 ic_0 ?_
    obtain ⟨v3, hv3, hf⟩ := bindE hf
    refine rx_iald hG (skM15 T) hv3 dX10_waited_68 ?_
    refine rx_iconst hG 1 dX10_waited_69 ic_1 ?_
    refine rx_isub hG dX10_waited_70 ?_
    refine rx_iload hG dX10_waited_71 6 rfl ?_
    refine rx_isub hG dX10_waited_73 ?_
    refine rx_imul hG dX10_waited_74 ?_
    refine rx_iadd hG dX10_waited_75 ?_
    refine rx_istore_n (lv2 := [(2, .int (x2 + ((v2 - x4) * ((v3 - 1) - x5)))), (4, .int 0), (6, .int (v2 - x4)), (0, .ref (adr E 0)), (1, .int x1), (3, .int x3), (5, .int x5)]) hG dX10_waited_76 (Nat.le_of_ble_eq_true rfl) rfl ?_
    refine rx_iload_n hG dX10_waited_77 5 rfl ?_
    refine rx_iload hG dX10_waited_78 2 rfl ?_
    refine rx_isub hG dX10_waited_80 ?_
    refine rx_istore_n (lv2 := [(3, .int (x3 - (v2 - x4))), (2, .int (x2 + ((v2 - x4) * ((v3 - 1) - x5)))), (4, .int 0), (6, .int (v2 - x4)), (0, .ref (adr E 0)), (1, .int x1), (5, .int x5)]) hG dX10_waited_81 (Nat.le_of_ble_eq_true rfl) rfl ?_
    refine rx_iinc (lv2 := [(5, .int (x5 + 1)), (3, .int (x3 - (v2 - x4))), (2, .int (x2 + ((v2 - x4) * ((v3 - 1) - x5)))), (4, .int 0), (6, .int (v2 - x4)), (0, .ref (adr E 0)), (1, .int x1)]) hG 1 dX10_waited_82 ic_1 6 rfl (Nat.le_of_ble_eq_true rfl) rfl ?_
    refine rx_goto hG 41 dX10_waited_85 rfl ?_
    refine rx_sub hG [5, 6, 2, 1, 3, 0] (lv' := [(0, .ref (adr E 0)), (1, .int x1), (2, .int (x2 + ((v2 - x4) * ((v3 - 1) - x5)))), (3, .int (x3 - (v2 - x4))), (4, .int 0), (5, .int (x5 + 1))]) rfl ?_
    exact hrc41 x1 (x2 + ((v2 - x4) * ((v3 - 1) - x5))) (x3 - (v2 - x4)) 0 (x5 + 1) hf
theorem Llp_M_waited_0_41 (l : Launch) (E : En) (T : List Sk) {a0 b0 kc ks : Nat} {r : Int32} {M : Mm} {G : Nat → List (Nat × Value) → List Value → Mm → Prop} (hG : RX l (SKM ++ T) E RX10 cX10_waited 7 (some .int) { frames := 2, cells := a0, slots := b0, locals := 42 } kc ks (some (.int r)) M G)  : ∀ (n : Nat) (x1 : Int32) (x2 : Int32) (x3 : Int32) (x4 : Int32) (x5 : Int32), lp_M_waited_0_41  n x1 x2 x3 x4 x5 M = some r → G 41 [(0, .ref (adr E 0)), (1, .int x1), (2, .int x2), (3, .int x3), (4, .int x4), (5, .int x5)] [] M := by
  intro n
  induction n with
  | zero => intro x1 x2 x3 x4 x5 hf; cases hf
  | succ n ih => intro x1 x2 x3 x4 x5 hf; exact Lblp_M_waited_0_41 l E T hG  (lp_M_waited_0_41  n) ih x1 x2 x3 x4 x5 hf
set_option maxHeartbeats 4000000 in
set_option maxRecDepth 100000 in
theorem c_M_waited_0 (l : Launch) (E : En) (T : List Sk) (p0 : Int32) {M : Mm} {r : Int32} (h : f_M_waited_0 p0 M = some r) : Ct l (SKM ++ T) E yX10_waited cX10_waited 7 (some .int) 2 42 [.ref (adr E 0), .int p0] M (some (.int r)) M := by
  refine ct_of (by decide) (Nat.le_of_ble_eq_true rfl) ?_
  intro G hG
  show G 0 [(0, .ref (adr E 0)), (1, .int p0)] [] M
  have hf := h
  unfold f_M_waited_0 at hf
  refine rx_aload_n hG dX10_waited_0 0 rfl ?_
  refine gfM_M_57_0 l E T hG dX10_waited_1 ?_
  refine rx_iload_n hG dX10_waited_4 1 rfl ?_
  refine rx_iconst hG 2 dX10_waited_5 ic_2 ?_
  obtain ⟨v1, hv1, hf⟩ := bindE hf
  refine rx_cSi hG (c_M_ofKind l E (SKM ++ T) p0 2 hv1) kw_M_274 ⟨Nat.le_of_ble_eq_true rfl, Nat.le_of_ble_eq_true rfl⟩ rfl (Nat.le_of_ble_eq_true rfl) dX10_waited_6 ?_
  obtain ⟨v2, hv2, hf⟩ := bindE hf
  refine rx_iald hG (skM15 T) hv2 dX10_waited_9 ?_
  refine rx_istore_n (lv2 := [(2, .int v2), (0, .ref (adr E 0)), (1, .int p0)]) hG dX10_waited_10 (Nat.le_of_ble_eq_true rfl) rfl ?_
  refine rx_aload_n hG dX10_waited_11 1 rfl ?_
  refine rx_iload_n hG dX10_waited_12 2 rfl ?_
  obtain ⟨v3, hv3, hf⟩ := bindE hf
  refine rx_cVi hG (c_M_waits_0 l E T p0 hv3) (skM0 T) rfl rfl kw_M_333 ⟨Nat.le_of_ble_eq_true rfl, Nat.le_of_ble_eq_true rfl⟩ rfl (Nat.le_of_ble_eq_true rfl) dX10_waited_13 ?_
  refine rx_istore_n (lv2 := [(3, .int v3), (2, .int v2), (0, .ref (adr E 0)), (1, .int p0)]) hG dX10_waited_16 (Nat.le_of_ble_eq_true rfl) rfl ?_
  refine rx_aload_n hG dX10_waited_17 2 rfl ?_
  refine gfM_M_57_0 l E T hG dX10_waited_18 ?_
  refine rx_iload_n hG dX10_waited_21 3 rfl ?_
  refine rx_iconst hG 4 dX10_waited_22 ic_4 ?_
  obtain ⟨v4, hv4, hf⟩ := bindE hf
  refine rx_cSi hG (c_M_ofKind l E (SKM ++ T) p0 4 hv4) kw_M_274 ⟨Nat.le_of_ble_eq_true rfl, Nat.le_of_ble_eq_true rfl⟩ rfl (Nat.le_of_ble_eq_true rfl) dX10_waited_23 ?_
  obtain ⟨v5, hv5, hf⟩ := bindE hf
  refine rx_iald hG (skM15 T) hv5 dX10_waited_26 ?_
  refine rx_istore (lv2 := [(4, .int v5), (3, .int v3), (2, .int v2), (0, .ref (adr E 0)), (1, .int p0)]) hG dX10_waited_27 (Nat.le_of_ble_eq_true rfl) rfl ?_
  refine rx_aload_n hG dX10_waited_29 3 rfl ?_
  refine gfM_M_57_0 l E T hG dX10_waited_30 ?_
  refine rx_iload_n hG dX10_waited_33 4 rfl ?_
  refine rx_iconst hG 3 dX10_waited_34 ic_3 ?_
  obtain ⟨v6, hv6, hf⟩ := bindE hf
  refine rx_cSi hG (c_M_ofKind l E (SKM ++ T) p0 3 hv6) kw_M_274 ⟨Nat.le_of_ble_eq_true rfl, Nat.le_of_ble_eq_true rfl⟩ rfl (Nat.le_of_ble_eq_true rfl) dX10_waited_35 ?_
  obtain ⟨v7, hv7, hf⟩ := bindE hf
  refine rx_iald hG (skM15 T) hv7 dX10_waited_38 ?_
  refine rx_istore (lv2 := [(5, .int v7), (4, .int v5), (3, .int v3), (2, .int v2), (0, .ref (adr E 0)), (1, .int p0)]) hG dX10_waited_39 (Nat.le_of_ble_eq_true rfl) rfl ?_
  refine rx_sub hG [4, 5, 3, 2, 1, 0] (lv' := [(0, .ref (adr E 0)), (1, .int p0), (2, .int v2), (3, .int v3), (4, .int v5), (5, .int v7)]) rfl ?_
  exact Llp_M_waited_0_41 l E T hG  FW p0 v2 v3 v5 v7 hf

set_option maxHeartbeats 4000000 in
set_option maxRecDepth 100000 in
theorem c_M_thinAt_0 (l : Launch) (E : En) (T : List Sk) (p0 : Int32) (p1 : Int32) (p2 : Int32) {M M' : Mm} {r : Int32} (h : f_M_thinAt_0 p0 p1 p2 M = some (r, M')) : Ct l (SKM ++ T) E yX10_thinAt cX10_thinAt 4 (some .int) 10 239 [.ref (adr E 0), .int p0, .int p1, .int p2] M (some (.int r)) M' := by
  refine ct_of (by decide) (Nat.le_of_ble_eq_true rfl) ?_
  intro G hG
  show G 0 [(0, .ref (adr E 0)), (1, .int p0), (2, .int p1), (3, .int p2)] [] M
  have hf := h
  unfold f_M_thinAt_0 at hf
  refine rx_aload_n hG dX10_thinAt_0 0 rfl ?_
  refine rx_iconst hG 0 dX10_thinAt_1 ic_0 ?_
  obtain ⟨M1, hM1, hf⟩ := bindE hf
  refine pfM_M_74_0 l E T hG hM1 dX10_thinAt_2 ?_
  refine rx_aload_n hG dX10_thinAt_5 0 rfl ?_
  refine rx_iload_n hG dX10_thinAt_6 1 rfl ?_
  obtain ⟨v2, hv2, hf⟩ := bindE hf
  refine rx_cVi hG (c_M_isBench_0 l E T p0 hv2) (skM0 T) rfl rfl kw_M_316 ⟨Nat.le_of_ble_eq_true rfl, Nat.le_of_ble_eq_true rfl⟩ rfl (Nat.le_of_ble_eq_true rfl) dX10_thinAt_7 ?_
  refine rx_if_eq hG 21 dX10_thinAt_10 rfl (fun c3 => ?_) (fun c3 => ?_)
  · have hf := ifT hf c3
    refine rx_aload_n hG dX10_thinAt_21 0 rfl ?_
    refine rx_iconst hG 1 dX10_thinAt_22 ic_1 ?_
    obtain ⟨q4, hq4, hf⟩ := bindE hf
    refine rx_cVi hG (c_M_refused_0 l E T 1 hq4) (skM0 T) rfl rfl kw_M_232 ⟨Nat.le_of_ble_eq_true rfl, Nat.le_of_ble_eq_true rfl⟩ rfl (Nat.le_of_ble_eq_true rfl) dX10_thinAt_23 ?_
    cases hf
    exact rx_iret hG dX10_thinAt_26
  · have hf := ifF hf c3
    refine rx_aload_n hG dX10_thinAt_13 0 rfl ?_
    refine rx_iload_n hG dX10_thinAt_14 2 rfl ?_
    obtain ⟨v5, hv5, hf⟩ := bindE hf
    refine rx_cVi hG (c_M_isKind_0 l E T p1 hv5) (skM0 T) rfl rfl kw_M_319 ⟨Nat.le_of_ble_eq_true rfl, Nat.le_of_ble_eq_true rfl⟩ rfl (Nat.le_of_ble_eq_true rfl) dX10_thinAt_15 ?_
    refine rx_if_ne hG 27 dX10_thinAt_18 rfl (fun c6 => ?_) (fun c6 => ?_)
    · have hf := ifF hf c6
      refine rx_iload_n hG dX10_thinAt_27 3 rfl ?_
      obtain ⟨v7, hv7, hf⟩ := bindE hf
      refine rx_cSi hG (c_M_isTerm l E (SKM ++ T) p2 hv7) kw_M_348 ⟨Nat.le_of_ble_eq_true rfl, Nat.le_of_ble_eq_true rfl⟩ rfl (Nat.le_of_ble_eq_true rfl) dX10_thinAt_28 ?_
      refine rx_if_ne hG 40 dX10_thinAt_31 rfl (fun c8 => ?_) (fun c8 => ?_)
      · have hf := ifF hf c8
        refine rx_aload_n hG dX10_thinAt_40 0 rfl ?_
        refine rx_iload_n hG dX10_thinAt_41 3 rfl ?_
        obtain ⟨M9, hM9, hf⟩ := bindE hf
        refine rx_cVv hG (c_M_takesOut_0 l E T p2 hM9) (skM0 T) rfl rfl kw_M_354 ⟨Nat.le_of_ble_eq_true rfl, Nat.le_of_ble_eq_true rfl⟩ rfl (Nat.le_of_ble_eq_true rfl) dX10_thinAt_42 ?_
        refine rx_aload_n hG dX10_thinAt_45 0 rfl ?_
        refine rx_aload_n hG dX10_thinAt_46 0 rfl ?_
        refine gfM_M_48_0 l E T hG dX10_thinAt_47 ?_
        refine rx_iconst hG 3 dX10_thinAt_50 ic_3 ?_
        refine rx_iload_n hG dX10_thinAt_51 1 rfl ?_
        refine rx_imul hG dX10_thinAt_52 ?_
        refine rx_iload_n hG dX10_thinAt_53 2 rfl ?_
        refine rx_iadd hG dX10_thinAt_54 ?_
        obtain ⟨v10, hv10, hf⟩ := bindE hf
        refine rx_iald hG (skM12 T) hv10 dX10_thinAt_55 ?_
        obtain ⟨q11, hq11, hf⟩ := bindE hf
        refine rx_cVi hG (c_M_good_0 l E T v10 hq11) (skM0 T) rfl rfl kw_M_245 ⟨Nat.le_of_ble_eq_true rfl, Nat.le_of_ble_eq_true rfl⟩ rfl (Nat.le_of_ble_eq_true rfl) dX10_thinAt_56 ?_
        cases hf
        exact rx_iret hG dX10_thinAt_59
      · have hf := ifT hf c8
        refine rx_aload_n hG dX10_thinAt_34 0 rfl ?_
        refine rx_iconst hG 2 dX10_thinAt_35 ic_2 ?_
        obtain ⟨q12, hq12, hf⟩ := bindE hf
        refine rx_cVi hG (c_M_refused_0 l E T 2 hq12) (skM0 T) rfl rfl kw_M_232 ⟨Nat.le_of_ble_eq_true rfl, Nat.le_of_ble_eq_true rfl⟩ rfl (Nat.le_of_ble_eq_true rfl) dX10_thinAt_36 ?_
        cases hf
        exact rx_iret hG dX10_thinAt_39
    · have hf := ifT hf c6
      refine rx_aload_n hG dX10_thinAt_21 0 rfl ?_
      refine rx_iconst hG 1 dX10_thinAt_22 ic_1 ?_
      obtain ⟨q13, hq13, hf⟩ := bindE hf
      refine rx_cVi hG (c_M_refused_0 l E T 1 hq13) (skM0 T) rfl rfl kw_M_232 ⟨Nat.le_of_ble_eq_true rfl, Nat.le_of_ble_eq_true rfl⟩ rfl (Nat.le_of_ble_eq_true rfl) dX10_thinAt_23 ?_
      cases hf
      exact rx_iret hG dX10_thinAt_26
set_option maxHeartbeats 4000000 in
set_option maxRecDepth 100000 in
theorem Lj_M_helps_0_137 (l : Launch) (E : En) (T : List Sk) {a0 b0 kc ks : Nat} {r : Int32} {M' : Mm} {G : Nat → List (Nat × Value) → List Value → Mm → Prop} (hG : RX l (SKM ++ T) E RX10 cX10_helps 7 (some .int) { frames := 9, cells := a0, slots := b0, locals := 213 } kc ks (some (.int r)) M' G) (rc43 : Int32 → Int32 → Int32 → Int32 → Mm → Option (Int32 × Mm)) (hrc43 : ∀ (x1 : Int32) (x2 : Int32) (x3 : Int32) (x4 : Int32) (M : Mm), rc43 x1 x2 x3 x4 M = some (r, M') → G 43 [(0, .ref (adr E 0)), (1, .int x1), (2, .int x2), (3, .int x3), (4, .int x4)] [] M) : ∀ (x1 : Int32) (x2 : Int32) (x3 : Int32) (x4 : Int32) (M : Mm), j_M_helps_0_137 rc43 x1 x2 x3 x4 M = some (r, M') → G 137 [(0, .ref (adr E 0)), (1, .int x1), (2, .int x2), (3, .int x3), (4, .int x4)] [] M := by
  intro x1 x2 x3 x4 M hf
  unfold j_M_helps_0_137 at hf
  refine rx_iinc (lv2 := [(4, .int (x4 + 1)), (0, .ref (adr E 0)), (1, .int x1), (2, .int x2), (3, .int x3)]) hG 1 dX10_helps_137 ic_1 4 rfl (Nat.le_of_ble_eq_true rfl) rfl ?_
  refine rx_goto hG 43 dX10_helps_140 rfl ?_
  refine rx_sub hG [1, 2, 3, 4, 0] (lv' := [(0, .ref (adr E 0)), (1, .int x1), (2, .int x2), (3, .int x3), (4, .int (x4 + 1))]) rfl ?_
  exact hrc43 x1 x2 x3 (x4 + 1) M hf
set_option maxHeartbeats 4000000 in
set_option maxRecDepth 100000 in
theorem Lj_M_helps_0_131 (l : Launch) (E : En) (T : List Sk) {a0 b0 kc ks : Nat} {r : Int32} {M' : Mm} {G : Nat → List (Nat × Value) → List Value → Mm → Prop} (hG : RX l (SKM ++ T) E RX10 cX10_helps 7 (some .int) { frames := 9, cells := a0, slots := b0, locals := 213 } kc ks (some (.int r)) M' G) (rc55 : Int32 → Int32 → Int32 → Int32 → Int32 → Mm → Option (Int32 × Mm)) (hrc55 : ∀ (x1 : Int32) (x2 : Int32) (x3 : Int32) (x4 : Int32) (x5 : Int32) (M : Mm), rc55 x1 x2 x3 x4 x5 M = some (r, M') → G 55 [(0, .ref (adr E 0)), (1, .int x1), (2, .int x2), (3, .int x3), (4, .int x4), (5, .int x5)] [] M) : ∀ (x1 : Int32) (x2 : Int32) (x3 : Int32) (x4 : Int32) (x5 : Int32) (M : Mm), j_M_helps_0_131 rc55 x1 x2 x3 x4 x5 M = some (r, M') → G 131 [(0, .ref (adr E 0)), (1, .int x1), (2, .int x2), (3, .int x3), (4, .int x4), (5, .int x5)] [] M := by
  intro x1 x2 x3 x4 x5 M hf
  unfold j_M_helps_0_131 at hf
  refine rx_iinc (lv2 := [(5, .int (x5 + 1)), (0, .ref (adr E 0)), (1, .int x1), (2, .int x2), (3, .int x3), (4, .int x4)]) hG 1 dX10_helps_131 ic_1 5 rfl (Nat.le_of_ble_eq_true rfl) rfl ?_
  refine rx_goto hG 55 dX10_helps_134 rfl ?_
  refine rx_sub hG [1, 2, 3, 4, 5, 0] (lv' := [(0, .ref (adr E 0)), (1, .int x1), (2, .int x2), (3, .int x3), (4, .int x4), (5, .int (x5 + 1))]) rfl ?_
  exact hrc55 x1 x2 x3 x4 (x5 + 1) M hf
set_option maxHeartbeats 4000000 in
set_option maxRecDepth 100000 in
theorem Lblp_M_helps_0_55 (l : Launch) (E : En) (T : List Sk) {a0 b0 kc ks : Nat} {r : Int32} {M' : Mm} {G : Nat → List (Nat × Value) → List Value → Mm → Prop} (hG : RX l (SKM ++ T) E RX10 cX10_helps 7 (some .int) { frames := 9, cells := a0, slots := b0, locals := 213 } kc ks (some (.int r)) M' G) (rc43 : Int32 → Int32 → Int32 → Int32 → Mm → Option (Int32 × Mm)) (hrc43 : ∀ (x1 : Int32) (x2 : Int32) (x3 : Int32) (x4 : Int32) (M : Mm), rc43 x1 x2 x3 x4 M = some (r, M') → G 43 [(0, .ref (adr E 0)), (1, .int x1), (2, .int x2), (3, .int x3), (4, .int x4)] [] M) (rc55 : Int32 → Int32 → Int32 → Int32 → Int32 → Mm → Option (Int32 × Mm)) (hrc55 : ∀ (x1 : Int32) (x2 : Int32) (x3 : Int32) (x4 : Int32) (x5 : Int32) (M : Mm), rc55 x1 x2 x3 x4 x5 M = some (r, M') → G 55 [(0, .ref (adr E 0)), (1, .int x1), (2, .int x2), (3, .int x3), (4, .int x4), (5, .int x5)] [] M) : ∀ (x1 : Int32) (x2 : Int32) (x3 : Int32) (x4 : Int32) (x5 : Int32) (M : Mm), blp_M_helps_0_55 rc43 rc55 x1 x2 x3 x4 x5 M = some (r, M') → G 55 [(0, .ref (adr E 0)), (1, .int x1), (2, .int x2), (3, .int x3), (4, .int x4), (5, .int x5)] [] M := by
  intro x1 x2 x3 x4 x5 M hf
  unfold blp_M_helps_0_55 at hf
  refine rx_iload hG dX10_helps_55 5 rfl ?_
  refine rx_aload_n hG dX10_helps_57 0 rfl ?_
  refine gfM_M_248_0 l E T hG dX10_helps_58 ?_
  refine rx_icmp_ge hG 137 dX10_helps_61 rfl (fun c1 => ?_) (fun c1 => ?_)
  · have hf := ifT hf c1
    refine rx_sub hG [0, 1, 2, 3, 4] (lv' := [(0, .ref (adr E 0)), (1, .int x1), (2, .int x2), (3, .int x3), (4, .int x4)]) rfl ?_
    exact Lj_M_helps_0_137 l E T hG rc43 hrc43 x1 x2 x3 x4 M hf
  · have hf := ifF hf c1
    refine rx_aload_n hG dX10_helps_64 0 rfl ?_
    refine gfM_M_42_0 l E T hG dX10_helps_65 ?_
    refine rx_iconst hG 3 dX10_helps_68 ic_3 ?_
    refine rx_iload hG dX10_helps_69 4 rfl ?_
    refine rx_imul hG dX10_helps_71 ?_
    refine rx_iload hG dX10_helps_72 5 rfl ?_
    refine rx_iadd hG dX10_helps_74 ?_
    obtain ⟨v2, hv2, hf⟩ := bindE hf
    refine rx_iald hG (skM10 T) hv2 dX10_helps_75 ?_
    refine rx_bipush hG 9 dX10_helps_76 bp_9 ?_
    refine rx_icmp_ne hG 84 dX10_helps_78 rfl (fun c3 => ?_) (fun c3 => ?_)
    · have hf := ifF hf c3
      refine rx_aload_n hG dX10_helps_84 0 rfl ?_
      obtain ⟨M4, hM4, hf⟩ := bindE hf
      refine rx_cVv hG (c_M_papers_0 l E T  hM4) (skM0 T) rfl rfl kw_M_342 ⟨Nat.le_of_ble_eq_true rfl, Nat.le_of_ble_eq_true rfl⟩ rfl (Nat.le_of_ble_eq_true rfl) dX10_helps_85 ?_
      refine rx_aload_n hG dX10_helps_88 0 rfl ?_
      refine gfM_M_48_0 l E T hG dX10_helps_89 ?_
      refine rx_iconst hG 3 dX10_helps_92 ic_3 ?_
      refine rx_iload hG dX10_helps_93 4 rfl ?_
      refine rx_imul hG dX10_helps_95 ?_
      refine rx_iload hG dX10_helps_96 5 rfl ?_
      refine rx_iadd hG dX10_helps_98 ?_
      refine rx_dup2 hG dX10_helps_99 rfl rfl ?_
      obtain ⟨v5, hv5, hf⟩ := bindE hf
      refine rx_iald hG (skM12 T) hv5 dX10_helps_100 ?_
      refine rx_iconst hG 1 dX10_helps_101 ic_1 ?_
      refine rx_iadd hG dX10_helps_102 ?_
      obtain ⟨M6, hM6, hf⟩ := bindE hf
      refine rx_iast hG (skM12 T) hM6 dX10_helps_103 ?_
      refine rx_aload_n hG dX10_helps_104 0 rfl ?_
      refine rx_iload_n hG dX10_helps_105 1 rfl ?_
      obtain ⟨q7, hq7, hf⟩ := bindE hf
      refine rx_cVi hG (c_M_yieldOf_0 l E T x1 hq7) (skM0 T) rfl rfl kw_M_345 ⟨Nat.le_of_ble_eq_true rfl, Nat.le_of_ble_eq_true rfl⟩ rfl (Nat.le_of_ble_eq_true rfl) dX10_helps_106 ?_
      refine rx_istore (lv2 := [(6, .int q7.1), (0, .ref (adr E 0)), (1, .int x1), (2, .int x2), (3, .int x3), (4, .int x4), (5, .int x5)]) hG dX10_helps_109 (Nat.le_of_ble_eq_true rfl) rfl ?_
      refine rx_iload hG dX10_helps_111 0 rfl ?_
      refine rx_iload_n hG dX10_helps_113 3 rfl ?_
      refine rx_icmp_gt hG 120 dX10_helps_114 rfl (fun c8 => ?_) (fun c8 => ?_)
      · have hf := ifT hf c8
        refine rx_iload hG dX10_helps_120 0 rfl ?_
        refine rx_istore_n (lv2 := [(2, .int q7.1), (6, .int q7.1), (0, .ref (adr E 0)), (1, .int x1), (3, .int x3), (4, .int x4), (5, .int x5)]) hG dX10_helps_122 (Nat.le_of_ble_eq_true rfl) rfl ?_
        refine rx_iconst hG 3 dX10_helps_123 ic_3 ?_
        refine rx_iload hG dX10_helps_124 5 rfl ?_
        refine rx_imul hG dX10_helps_126 ?_
        refine rx_iload hG dX10_helps_127 6 rfl ?_
        refine rx_iadd hG dX10_helps_129 ?_
        refine rx_istore_n (lv2 := [(3, .int ((3 * x4) + x5)), (2, .int q7.1), (6, .int q7.1), (0, .ref (adr E 0)), (1, .int x1), (4, .int x4), (5, .int x5)]) hG dX10_helps_130 (Nat.le_of_ble_eq_true rfl) rfl ?_
        refine rx_sub hG [3, 4, 1, 0, 5, 6] (lv' := [(0, .ref (adr E 0)), (1, .int x1), (2, .int q7.1), (3, .int ((3 * x4) + x5)), (4, .int x4), (5, .int x5)]) rfl ?_
        exact Lj_M_helps_0_131 l E T hG rc55 hrc55 x1 q7.1 ((3 * x4) + x5) x4 x5 q7.2 hf
      · have hf := ifF hf c8
        refine rx_goto hG 131 dX10_helps_117 rfl ?_
        refine rx_sub hG [1, 2, 3, 4, 5, 6] (lv' := [(0, .ref (adr E 0)), (1, .int x1), (2, .int x2), (3, .int x3), (4, .int x4), (5, .int x5)]) rfl ?_
        exact Lj_M_helps_0_131 l E T hG rc55 hrc55 x1 x2 x3 x4 x5 q7.2 hf
    · have hf := ifT hf c3
      refine rx_goto hG 131 dX10_helps_81 rfl ?_
      exact Lj_M_helps_0_131 l E T hG rc55 hrc55 x1 x2 x3 x4 x5 M hf
theorem Llp_M_helps_0_55 (l : Launch) (E : En) (T : List Sk) {a0 b0 kc ks : Nat} {r : Int32} {M' : Mm} {G : Nat → List (Nat × Value) → List Value → Mm → Prop} (hG : RX l (SKM ++ T) E RX10 cX10_helps 7 (some .int) { frames := 9, cells := a0, slots := b0, locals := 213 } kc ks (some (.int r)) M' G) (rc43 : Int32 → Int32 → Int32 → Int32 → Mm → Option (Int32 × Mm)) (hrc43 : ∀ (x1 : Int32) (x2 : Int32) (x3 : Int32) (x4 : Int32) (M : Mm), rc43 x1 x2 x3 x4 M = some (r, M') → G 43 [(0, .ref (adr E 0)), (1, .int x1), (2, .int x2), (3, .int x3), (4, .int x4)] [] M) : ∀ (n : Nat) (x1 : Int32) (x2 : Int32) (x3 : Int32) (x4 : Int32) (x5 : Int32) (M : Mm), lp_M_helps_0_55 rc43 n x1 x2 x3 x4 x5 M = some (r, M') → G 55 [(0, .ref (adr E 0)), (1, .int x1), (2, .int x2), (3, .int x3), (4, .int x4), (5, .int x5)] [] M := by
  intro n
  induction n with
  | zero => intro x1 x2 x3 x4 x5 M hf; cases hf
  | succ n ih => intro x1 x2 x3 x4 x5 M hf; exact Lblp_M_helps_0_55 l E T hG rc43 hrc43 (lp_M_helps_0_55 rc43 n) ih x1 x2 x3 x4 x5 M hf
set_option maxHeartbeats 4000000 in
set_option maxRecDepth 100000 in
theorem Lblp_M_helps_0_43 (l : Launch) (E : En) (T : List Sk) {a0 b0 kc ks : Nat} {r : Int32} {M' : Mm} {G : Nat → List (Nat × Value) → List Value → Mm → Prop} (hG : RX l (SKM ++ T) E RX10 cX10_helps 7 (some .int) { frames := 9, cells := a0, slots := b0, locals := 213 } kc ks (some (.int r)) M' G) (rc43 : Int32 → Int32 → Int32 → Int32 → Mm → Option (Int32 × Mm)) (hrc43 : ∀ (x1 : Int32) (x2 : Int32) (x3 : Int32) (x4 : Int32) (M : Mm), rc43 x1 x2 x3 x4 M = some (r, M') → G 43 [(0, .ref (adr E 0)), (1, .int x1), (2, .int x2), (3, .int x3), (4, .int x4)] [] M) : ∀ (x1 : Int32) (x2 : Int32) (x3 : Int32) (x4 : Int32) (M : Mm), blp_M_helps_0_43 rc43 x1 x2 x3 x4 M = some (r, M') → G 43 [(0, .ref (adr E 0)), (1, .int x1), (2, .int x2), (3, .int x3), (4, .int x4)] [] M := by
  intro x1 x2 x3 x4 M hf
  unfold blp_M_helps_0_43 at hf
  refine rx_iload hG dX10_helps_43 4 rfl ?_
  refine rx_aload_n hG dX10_helps_45 0 rfl ?_
  refine gfM_M_242_0 l E T hG dX10_helps_46 ?_
  refine rx_icmp_ge hG 143 dX10_helps_49 rfl (fun c1 => ?_) (fun c1 => ?_)
  · have hf := ifT hf c1
    refine rx_aload_n hG dX10_helps_143 0 rfl ?_
    refine rx_iload_n hG dX10_helps_144 3 rfl ?_
    obtain ⟨q2, hq2, hf⟩ := bindE hf
    refine rx_cVi hG (c_M_good_0 l E T x3 hq2) (skM0 T) rfl rfl kw_M_245 ⟨Nat.le_of_ble_eq_true rfl, Nat.le_of_ble_eq_true rfl⟩ rfl (Nat.le_of_ble_eq_true rfl) dX10_helps_145 ?_
    cases hf
    exact rx_iret hG dX10_helps_148
  · have hf := ifF hf c1
    refine rx_iconst hG 0 dX10_helps_52 ic_0 ?_
    refine rx_istore (lv2 := [(5, .int 0), (0, .ref (adr E 0)), (1, .int x1), (2, .int x2), (3, .int x3), (4, .int x4)]) hG dX10_helps_53 (Nat.le_of_ble_eq_true rfl) rfl ?_
    refine rx_sub hG [1, 2, 3, 4, 5, 0] (lv' := [(0, .ref (adr E 0)), (1, .int x1), (2, .int x2), (3, .int x3), (4, .int x4), (5, .int 0)]) rfl ?_
    exact Llp_M_helps_0_55 l E T hG rc43 hrc43 FW x1 x2 x3 x4 0 M hf
theorem Llp_M_helps_0_43 (l : Launch) (E : En) (T : List Sk) {a0 b0 kc ks : Nat} {r : Int32} {M' : Mm} {G : Nat → List (Nat × Value) → List Value → Mm → Prop} (hG : RX l (SKM ++ T) E RX10 cX10_helps 7 (some .int) { frames := 9, cells := a0, slots := b0, locals := 213 } kc ks (some (.int r)) M' G)  : ∀ (n : Nat) (x1 : Int32) (x2 : Int32) (x3 : Int32) (x4 : Int32) (M : Mm), lp_M_helps_0_43  n x1 x2 x3 x4 M = some (r, M') → G 43 [(0, .ref (adr E 0)), (1, .int x1), (2, .int x2), (3, .int x3), (4, .int x4)] [] M := by
  intro n
  induction n with
  | zero => intro x1 x2 x3 x4 M hf; cases hf
  | succ n ih => intro x1 x2 x3 x4 M hf; exact Lblp_M_helps_0_43 l E T hG  (lp_M_helps_0_43  n) ih x1 x2 x3 x4 M hf
set_option maxHeartbeats 4000000 in
set_option maxRecDepth 100000 in
theorem c_M_helps_0 (l : Launch) (E : En) (T : List Sk) (p0 : Int32) {M M' : Mm} {r : Int32} (h : f_M_helps_0 p0 M = some (r, M')) : Ct l (SKM ++ T) E yX10_helps cX10_helps 7 (some .int) 9 213 [.ref (adr E 0), .int p0] M (some (.int r)) M' := by
  refine ct_of (by decide) (Nat.le_of_ble_eq_true rfl) ?_
  intro G hG
  show G 0 [(0, .ref (adr E 0)), (1, .int p0)] [] M
  have hf := h
  unfold f_M_helps_0 at hf
  refine rx_aload_n hG dX10_helps_0 0 rfl ?_
  refine rx_iconst hG 0 dX10_helps_1 ic_0 ?_
  obtain ⟨M1, hM1, hf⟩ := bindE hf
  refine pfM_M_74_0 l E T hG hM1 dX10_helps_2 ?_
  refine rx_aload_n hG dX10_helps_5 0 rfl ?_
  refine gfM_M_257_0 l E T hG dX10_helps_6 ?_
  refine rx_if_ne hG 18 dX10_helps_9 rfl (fun c2 => ?_) (fun c2 => ?_)
  · have hf := ifF hf c2
    refine rx_iload_n hG dX10_helps_18 1 rfl ?_
    obtain ⟨v3, hv3, hf⟩ := bindE hf
    refine rx_cSi hG (c_M_isTerm l E (SKM ++ T) p0 hv3) kw_M_348 ⟨Nat.le_of_ble_eq_true rfl, Nat.le_of_ble_eq_true rfl⟩ rfl (Nat.le_of_ble_eq_true rfl) dX10_helps_19 ?_
    refine rx_if_ne hG 31 dX10_helps_22 rfl (fun c4 => ?_) (fun c4 => ?_)
    · have hf := ifF hf c4
      refine rx_aload_n hG dX10_helps_31 0 rfl ?_
      refine rx_iload_n hG dX10_helps_32 1 rfl ?_
      obtain ⟨q5, hq5, hf⟩ := bindE hf
      refine rx_cVi hG (c_M_yieldNow_0 l E T p0 hq5) (skM0 T) rfl rfl kw_M_351 ⟨Nat.le_of_ble_eq_true rfl, Nat.le_of_ble_eq_true rfl⟩ rfl (Nat.le_of_ble_eq_true rfl) dX10_helps_33 ?_
      refine rx_istore_n (lv2 := [(2, .int q5.1), (0, .ref (adr E 0)), (1, .int p0)]) hG dX10_helps_36 (Nat.le_of_ble_eq_true rfl) rfl ?_
      refine rx_bipush hG (-2) dX10_helps_37 bp_m2 ?_
      refine rx_istore_n (lv2 := [(3, .int (-2)), (2, .int q5.1), (0, .ref (adr E 0)), (1, .int p0)]) hG dX10_helps_39 (Nat.le_of_ble_eq_true rfl) rfl ?_
      refine rx_iconst hG 0 dX10_helps_40 ic_0 ?_
      refine rx_istore (lv2 := [(4, .int 0), (3, .int (-2)), (2, .int q5.1), (0, .ref (adr E 0)), (1, .int p0)]) hG dX10_helps_41 (Nat.le_of_ble_eq_true rfl) rfl ?_
      refine rx_sub hG [3, 4, 2, 1, 0] (lv' := [(0, .ref (adr E 0)), (1, .int p0), (2, .int q5.1), (3, .int (-2)), (4, .int 0)]) rfl ?_
      exact Llp_M_helps_0_43 l E T hG  FW p0 q5.1 (-2) 0 q5.2 hf
    · have hf := ifT hf c4
      refine rx_aload_n hG dX10_helps_25 0 rfl ?_
      refine rx_iconst hG 2 dX10_helps_26 ic_2 ?_
      obtain ⟨q6, hq6, hf⟩ := bindE hf
      refine rx_cVi hG (c_M_refused_0 l E T 2 hq6) (skM0 T) rfl rfl kw_M_232 ⟨Nat.le_of_ble_eq_true rfl, Nat.le_of_ble_eq_true rfl⟩ rfl (Nat.le_of_ble_eq_true rfl) dX10_helps_27 ?_
      cases hf
      exact rx_iret hG dX10_helps_30
  · have hf := ifT hf c2
    refine rx_aload_n hG dX10_helps_12 0 rfl ?_
    refine rx_iconst hG 1 dX10_helps_13 ic_1 ?_
    obtain ⟨q7, hq7, hf⟩ := bindE hf
    refine rx_cVi hG (c_M_refused_0 l E T 1 hq7) (skM0 T) rfl rfl kw_M_232 ⟨Nat.le_of_ble_eq_true rfl, Nat.le_of_ble_eq_true rfl⟩ rfl (Nat.le_of_ble_eq_true rfl) dX10_helps_14 ?_
    cases hf
    exact rx_iret hG dX10_helps_17
set_option maxHeartbeats 4000000 in
set_option maxRecDepth 100000 in
theorem Lj_M_holds_0_107 (l : Launch) (E : En) (T : List Sk) {a0 b0 kc ks : Nat} {r : Int32} {M' : Mm} {G : Nat → List (Nat × Value) → List Value → Mm → Prop} (hG : RX l (SKM ++ T) E RX10 cX10_holds 6 (some .int) { frames := 8, cells := a0, slots := b0, locals := 192 } kc ks (some (.int r)) M' G) (rc38 : Int32 → Int32 → Int32 → Int32 → Mm → Option (Int32 × Mm)) (hrc38 : ∀ (x1 : Int32) (x2 : Int32) (x3 : Int32) (x4 : Int32) (M : Mm), rc38 x1 x2 x3 x4 M = some (r, M') → G 38 [(0, .ref (adr E 0)), (1, .int x1), (2, .int x2), (3, .int x3), (4, .int x4)] [] M) : ∀ (x1 : Int32) (x2 : Int32) (x3 : Int32) (x4 : Int32) (M : Mm), j_M_holds_0_107 rc38 x1 x2 x3 x4 M = some (r, M') → G 107 [(0, .ref (adr E 0)), (1, .int x1), (2, .int x2), (3, .int x3), (4, .int x4)] [] M := by
  intro x1 x2 x3 x4 M hf
  unfold j_M_holds_0_107 at hf
  refine rx_iinc (lv2 := [(4, .int (x4 + 1)), (0, .ref (adr E 0)), (1, .int x1), (2, .int x2), (3, .int x3)]) hG 1 dX10_holds_107 ic_1 4 rfl (Nat.le_of_ble_eq_true rfl) rfl ?_
  refine rx_goto hG 38 dX10_holds_110 rfl ?_
  refine rx_sub hG [1, 2, 3, 4, 0] (lv' := [(0, .ref (adr E 0)), (1, .int x1), (2, .int x2), (3, .int x3), (4, .int (x4 + 1))]) rfl ?_
  exact hrc38 x1 x2 x3 (x4 + 1) M hf
set_option maxHeartbeats 4000000 in
set_option maxRecDepth 100000 in
theorem Lj_M_holds_0_85 (l : Launch) (E : En) (T : List Sk) {a0 b0 kc ks : Nat} {r : Int32} {M' : Mm} {G : Nat → List (Nat × Value) → List Value → Mm → Prop} (hG : RX l (SKM ++ T) E RX10 cX10_holds 6 (some .int) { frames := 8, cells := a0, slots := b0, locals := 192 } kc ks (some (.int r)) M' G) (rc38 : Int32 → Int32 → Int32 → Int32 → Mm → Option (Int32 × Mm)) (hrc38 : ∀ (x1 : Int32) (x2 : Int32) (x3 : Int32) (x4 : Int32) (M : Mm), rc38 x1 x2 x3 x4 M = some (r, M') → G 38 [(0, .ref (adr E 0)), (1, .int x1), (2, .int x2), (3, .int x3), (4, .int x4)] [] M) : ∀ (x1 : Int32) (x2 : Int32) (x3 : Int32) (x4 : Int32) (M : Mm), j_M_holds_0_85 rc38 x1 x2 x3 x4 M = some (r, M') → G 85 [(0, .ref (adr E 0)), (1, .int x1), (2, .int x2), (3, .int x3), (4, .int x4)] [] M := by
  intro x1 x2 x3 x4 M hf
  unfold j_M_holds_0_85 at hf
  refine rx_aload_n hG dX10_holds_85 0 rfl ?_
  refine rx_iload_n hG dX10_holds_86 1 rfl ?_
  obtain ⟨q1, hq1, hf⟩ := bindE hf
  refine rx_cVi hG (c_M_yieldOf_0 l E T x1 hq1) (skM0 T) rfl rfl kw_M_345 ⟨Nat.le_of_ble_eq_true rfl, Nat.le_of_ble_eq_true rfl⟩ rfl (Nat.le_of_ble_eq_true rfl) dX10_holds_87 ?_
  refine rx_istore (lv2 := [(5, .int q1.1), (0, .ref (adr E 0)), (1, .int x1), (2, .int x2), (3, .int x3), (4, .int x4)]) hG dX10_holds_90 (Nat.le_of_ble_eq_true rfl) rfl ?_
  refine rx_iload hG dX10_holds_92 0 rfl ?_
  refine rx_iload_n hG dX10_holds_94 3 rfl ?_
  refine rx_icmp_gt hG 101 dX10_holds_95 rfl (fun c2 => ?_) (fun c2 => ?_)
  · have hf := ifT hf c2
    refine rx_iload hG dX10_holds_101 0 rfl ?_
    refine rx_istore_n (lv2 := [(2, .int q1.1), (5, .int q1.1), (0, .ref (adr E 0)), (1, .int x1), (3, .int x3), (4, .int x4)]) hG dX10_holds_103 (Nat.le_of_ble_eq_true rfl) rfl ?_
    refine rx_iload hG dX10_holds_104 5 rfl ?_
    refine rx_istore_n (lv2 := [(3, .int x4), (2, .int q1.1), (5, .int q1.1), (0, .ref (adr E 0)), (1, .int x1), (4, .int x4)]) hG dX10_holds_106 (Nat.le_of_ble_eq_true rfl) rfl ?_
    refine rx_sub hG [3, 4, 1, 0, 5] (lv' := [(0, .ref (adr E 0)), (1, .int x1), (2, .int q1.1), (3, .int x4), (4, .int x4)]) rfl ?_
    exact Lj_M_holds_0_107 l E T hG rc38 hrc38 x1 q1.1 x4 x4 q1.2 hf
  · have hf := ifF hf c2
    refine rx_goto hG 107 dX10_holds_98 rfl ?_
    refine rx_sub hG [1, 2, 3, 4, 5] (lv' := [(0, .ref (adr E 0)), (1, .int x1), (2, .int x2), (3, .int x3), (4, .int x4)]) rfl ?_
    exact Lj_M_holds_0_107 l E T hG rc38 hrc38 x1 x2 x3 x4 q1.2 hf
set_option maxHeartbeats 4000000 in
set_option maxRecDepth 100000 in
theorem Lblp_M_holds_0_54 (l : Launch) (E : En) (T : List Sk) {a0 b0 kc ks : Nat} {r : Int32} {M' : Mm} {G : Nat → List (Nat × Value) → List Value → Mm → Prop} (hG : RX l (SKM ++ T) E RX10 cX10_holds 6 (some .int) { frames := 8, cells := a0, slots := b0, locals := 192 } kc ks (some (.int r)) M' G) (rc38 : Int32 → Int32 → Int32 → Int32 → Mm → Option (Int32 × Mm)) (hrc38 : ∀ (x1 : Int32) (x2 : Int32) (x3 : Int32) (x4 : Int32) (M : Mm), rc38 x1 x2 x3 x4 M = some (r, M') → G 38 [(0, .ref (adr E 0)), (1, .int x1), (2, .int x2), (3, .int x3), (4, .int x4)] [] M) (rc54 : Int32 → Int32 → Int32 → Int32 → Int32 → Mm → Option (Int32 × Mm)) (hrc54 : ∀ (x1 : Int32) (x2 : Int32) (x3 : Int32) (x4 : Int32) (x5 : Int32) (M : Mm), rc54 x1 x2 x3 x4 x5 M = some (r, M') → G 54 [(0, .ref (adr E 0)), (1, .int x1), (2, .int x2), (3, .int x3), (4, .int x4), (5, .int x5)] [] M) : ∀ (x1 : Int32) (x2 : Int32) (x3 : Int32) (x4 : Int32) (x5 : Int32) (M : Mm), blp_M_holds_0_54 rc38 rc54 x1 x2 x3 x4 x5 M = some (r, M') → G 54 [(0, .ref (adr E 0)), (1, .int x1), (2, .int x2), (3, .int x3), (4, .int x4), (5, .int x5)] [] M := by
  intro x1 x2 x3 x4 x5 M hf
  unfold blp_M_holds_0_54 at hf
  refine rx_iload hG dX10_holds_54 5 rfl ?_
  refine rx_aload_n hG dX10_holds_56 0 rfl ?_
  refine gfM_M_248_0 l E T hG dX10_holds_57 ?_
  refine rx_icmp_ge hG 85 dX10_holds_60 rfl (fun c1 => ?_) (fun c1 => ?_)
  · have hf := ifT hf c1
    refine rx_sub hG [0, 1, 2, 3, 4] (lv' := [(0, .ref (adr E 0)), (1, .int x1), (2, .int x2), (3, .int x3), (4, .int x4)]) rfl ?_
    exact Lj_M_holds_0_85 l E T hG rc38 hrc38 x1 x2 x3 x4 M hf
  · have hf := ifF hf c1
    refine rx_aload_n hG dX10_holds_63 0 rfl ?_
    refine gfM_M_48_0 l E T hG dX10_holds_64 ?_
    refine rx_bipush hG 18 dX10_holds_67 bp_18 ?_
    refine rx_iconst hG 3 dX10_holds_69 ic_3 ?_
    refine rx_iload hG dX10_holds_70 4 rfl ?_
    refine rx_imul hG dX10_holds_72 ?_
    refine rx_iadd hG dX10_holds_73 ?_
    refine rx_iload hG dX10_holds_74 5 rfl ?_
    refine rx_iadd hG dX10_holds_76 ?_
    refine rx_iconst hG 1 dX10_holds_77 ic_1 ?_
    obtain ⟨M2, hM2, hf⟩ := bindE hf
    refine rx_iast hG (skM12 T) hM2 dX10_holds_78 ?_
    refine rx_iinc (lv2 := [(5, .int (x5 + 1)), (0, .ref (adr E 0)), (1, .int x1), (2, .int x2), (3, .int x3), (4, .int x4)]) hG 1 dX10_holds_79 ic_1 5 rfl (Nat.le_of_ble_eq_true rfl) rfl ?_
    refine rx_goto hG 54 dX10_holds_82 rfl ?_
    refine rx_sub hG [1, 2, 3, 4, 5, 0] (lv' := [(0, .ref (adr E 0)), (1, .int x1), (2, .int x2), (3, .int x3), (4, .int x4), (5, .int (x5 + 1))]) rfl ?_
    exact hrc54 x1 x2 x3 x4 (x5 + 1) M2 hf
theorem Llp_M_holds_0_54 (l : Launch) (E : En) (T : List Sk) {a0 b0 kc ks : Nat} {r : Int32} {M' : Mm} {G : Nat → List (Nat × Value) → List Value → Mm → Prop} (hG : RX l (SKM ++ T) E RX10 cX10_holds 6 (some .int) { frames := 8, cells := a0, slots := b0, locals := 192 } kc ks (some (.int r)) M' G) (rc38 : Int32 → Int32 → Int32 → Int32 → Mm → Option (Int32 × Mm)) (hrc38 : ∀ (x1 : Int32) (x2 : Int32) (x3 : Int32) (x4 : Int32) (M : Mm), rc38 x1 x2 x3 x4 M = some (r, M') → G 38 [(0, .ref (adr E 0)), (1, .int x1), (2, .int x2), (3, .int x3), (4, .int x4)] [] M) : ∀ (n : Nat) (x1 : Int32) (x2 : Int32) (x3 : Int32) (x4 : Int32) (x5 : Int32) (M : Mm), lp_M_holds_0_54 rc38 n x1 x2 x3 x4 x5 M = some (r, M') → G 54 [(0, .ref (adr E 0)), (1, .int x1), (2, .int x2), (3, .int x3), (4, .int x4), (5, .int x5)] [] M := by
  intro n
  induction n with
  | zero => intro x1 x2 x3 x4 x5 M hf; cases hf
  | succ n ih => intro x1 x2 x3 x4 x5 M hf; exact Lblp_M_holds_0_54 l E T hG rc38 hrc38 (lp_M_holds_0_54 rc38 n) ih x1 x2 x3 x4 x5 M hf
set_option maxHeartbeats 4000000 in
set_option maxRecDepth 100000 in
theorem Lblp_M_holds_0_38 (l : Launch) (E : En) (T : List Sk) {a0 b0 kc ks : Nat} {r : Int32} {M' : Mm} {G : Nat → List (Nat × Value) → List Value → Mm → Prop} (hG : RX l (SKM ++ T) E RX10 cX10_holds 6 (some .int) { frames := 8, cells := a0, slots := b0, locals := 192 } kc ks (some (.int r)) M' G) (rc38 : Int32 → Int32 → Int32 → Int32 → Mm → Option (Int32 × Mm)) (hrc38 : ∀ (x1 : Int32) (x2 : Int32) (x3 : Int32) (x4 : Int32) (M : Mm), rc38 x1 x2 x3 x4 M = some (r, M') → G 38 [(0, .ref (adr E 0)), (1, .int x1), (2, .int x2), (3, .int x3), (4, .int x4)] [] M) : ∀ (x1 : Int32) (x2 : Int32) (x3 : Int32) (x4 : Int32) (M : Mm), blp_M_holds_0_38 rc38 x1 x2 x3 x4 M = some (r, M') → G 38 [(0, .ref (adr E 0)), (1, .int x1), (2, .int x2), (3, .int x3), (4, .int x4)] [] M := by
  intro x1 x2 x3 x4 M hf
  unfold blp_M_holds_0_38 at hf
  refine rx_iload hG dX10_holds_38 4 rfl ?_
  refine rx_aload_n hG dX10_holds_40 0 rfl ?_
  refine gfM_M_242_0 l E T hG dX10_holds_41 ?_
  refine rx_icmp_ge hG 113 dX10_holds_44 rfl (fun c1 => ?_) (fun c1 => ?_)
  · have hf := ifT hf c1
    refine rx_aload_n hG dX10_holds_113 0 rfl ?_
    refine rx_iload_n hG dX10_holds_114 3 rfl ?_
    obtain ⟨q2, hq2, hf⟩ := bindE hf
    refine rx_cVi hG (c_M_good_0 l E T x3 hq2) (skM0 T) rfl rfl kw_M_245 ⟨Nat.le_of_ble_eq_true rfl, Nat.le_of_ble_eq_true rfl⟩ rfl (Nat.le_of_ble_eq_true rfl) dX10_holds_115 ?_
    cases hf
    exact rx_iret hG dX10_holds_118
  · have hf := ifF hf c1
    refine rx_aload_n hG dX10_holds_47 0 rfl ?_
    obtain ⟨M3, hM3, hf⟩ := bindE hf
    refine rx_cVv hG (c_M_papers_0 l E T  hM3) (skM0 T) rfl rfl kw_M_342 ⟨Nat.le_of_ble_eq_true rfl, Nat.le_of_ble_eq_true rfl⟩ rfl (Nat.le_of_ble_eq_true rfl) dX10_holds_48 ?_
    refine rx_iconst hG 0 dX10_holds_51 ic_0 ?_
    refine rx_istore (lv2 := [(5, .int 0), (0, .ref (adr E 0)), (1, .int x1), (2, .int x2), (3, .int x3), (4, .int x4)]) hG dX10_holds_52 (Nat.le_of_ble_eq_true rfl) rfl ?_
    refine rx_sub hG [1, 2, 3, 4, 5, 0] (lv' := [(0, .ref (adr E 0)), (1, .int x1), (2, .int x2), (3, .int x3), (4, .int x4), (5, .int 0)]) rfl ?_
    exact Llp_M_holds_0_54 l E T hG rc38 hrc38 FW x1 x2 x3 x4 0 M3 hf
theorem Llp_M_holds_0_38 (l : Launch) (E : En) (T : List Sk) {a0 b0 kc ks : Nat} {r : Int32} {M' : Mm} {G : Nat → List (Nat × Value) → List Value → Mm → Prop} (hG : RX l (SKM ++ T) E RX10 cX10_holds 6 (some .int) { frames := 8, cells := a0, slots := b0, locals := 192 } kc ks (some (.int r)) M' G)  : ∀ (n : Nat) (x1 : Int32) (x2 : Int32) (x3 : Int32) (x4 : Int32) (M : Mm), lp_M_holds_0_38  n x1 x2 x3 x4 M = some (r, M') → G 38 [(0, .ref (adr E 0)), (1, .int x1), (2, .int x2), (3, .int x3), (4, .int x4)] [] M := by
  intro n
  induction n with
  | zero => intro x1 x2 x3 x4 M hf; cases hf
  | succ n ih => intro x1 x2 x3 x4 M hf; exact Lblp_M_holds_0_38 l E T hG  (lp_M_holds_0_38  n) ih x1 x2 x3 x4 M hf
set_option maxHeartbeats 4000000 in
set_option maxRecDepth 100000 in
theorem c_M_holds_0 (l : Launch) (E : En) (T : List Sk) (p0 : Int32) {M M' : Mm} {r : Int32} (h : f_M_holds_0 p0 M = some (r, M')) : Ct l (SKM ++ T) E yX10_holds cX10_holds 6 (some .int) 8 192 [.ref (adr E 0), .int p0] M (some (.int r)) M' := by
  refine ct_of (by decide) (Nat.le_of_ble_eq_true rfl) ?_
  intro G hG
  show G 0 [(0, .ref (adr E 0)), (1, .int p0)] [] M
  have hf := h
  unfold f_M_holds_0 at hf
  refine rx_aload_n hG dX10_holds_0 0 rfl ?_
  refine rx_iconst hG 0 dX10_holds_1 ic_0 ?_
  obtain ⟨M1, hM1, hf⟩ := bindE hf
  refine pfM_M_74_0 l E T hG hM1 dX10_holds_2 ?_
  refine rx_aload_n hG dX10_holds_5 0 rfl ?_
  refine gfM_M_257_0 l E T hG dX10_holds_6 ?_
  refine rx_if_ne hG 18 dX10_holds_9 rfl (fun c2 => ?_) (fun c2 => ?_)
  · have hf := ifF hf c2
    refine rx_iload_n hG dX10_holds_18 1 rfl ?_
    obtain ⟨v3, hv3, hf⟩ := bindE hf
    refine rx_cSi hG (c_M_isTerm l E (SKM ++ T) p0 hv3) kw_M_348 ⟨Nat.le_of_ble_eq_true rfl, Nat.le_of_ble_eq_true rfl⟩ rfl (Nat.le_of_ble_eq_true rfl) dX10_holds_19 ?_
    refine rx_if_ne hG 31 dX10_holds_22 rfl (fun c4 => ?_) (fun c4 => ?_)
    · have hf := ifF hf c4
      refine rx_iconst hG (-1) dX10_holds_31 ic_m1 ?_
      refine rx_istore_n (lv2 := [(2, .int (-1)), (0, .ref (adr E 0)), (1, .int p0)]) hG dX10_holds_32 (Nat.le_of_ble_eq_true rfl) rfl ?_
      refine rx_iconst hG 0 dX10_holds_33 ic_0 ?_
      refine rx_istore_n (lv2 := [(3, .int 0), (2, .int (-1)), (0, .ref (adr E 0)), (1, .int p0)]) hG dX10_holds_34 (Nat.le_of_ble_eq_true rfl) rfl ?_
      refine rx_iconst hG 0 dX10_holds_35 ic_0 ?_
      refine rx_istore (lv2 := [(4, .int 0), (3, .int 0), (2, .int (-1)), (0, .ref (adr E 0)), (1, .int p0)]) hG dX10_holds_36 (Nat.le_of_ble_eq_true rfl) rfl ?_
      refine rx_sub hG [3, 4, 2, 1, 0] (lv' := [(0, .ref (adr E 0)), (1, .int p0), (2, .int (-1)), (3, .int 0), (4, .int 0)]) rfl ?_
      exact Llp_M_holds_0_38 l E T hG  FW p0 (-1) 0 0 M1 hf
    · have hf := ifT hf c4
      refine rx_aload_n hG dX10_holds_25 0 rfl ?_
      refine rx_iconst hG 2 dX10_holds_26 ic_2 ?_
      obtain ⟨q5, hq5, hf⟩ := bindE hf
      refine rx_cVi hG (c_M_refused_0 l E T 2 hq5) (skM0 T) rfl rfl kw_M_232 ⟨Nat.le_of_ble_eq_true rfl, Nat.le_of_ble_eq_true rfl⟩ rfl (Nat.le_of_ble_eq_true rfl) dX10_holds_27 ?_
      cases hf
      exact rx_iret hG dX10_holds_30
  · have hf := ifT hf c2
    refine rx_aload_n hG dX10_holds_12 0 rfl ?_
    refine rx_iconst hG 1 dX10_holds_13 ic_1 ?_
    obtain ⟨q6, hq6, hf⟩ := bindE hf
    refine rx_cVi hG (c_M_refused_0 l E T 1 hq6) (skM0 T) rfl rfl kw_M_232 ⟨Nat.le_of_ble_eq_true rfl, Nat.le_of_ble_eq_true rfl⟩ rfl (Nat.le_of_ble_eq_true rfl) dX10_holds_14 ?_
    cases hf
    exact rx_iret hG dX10_holds_17
set_option maxHeartbeats 4000000 in
set_option maxRecDepth 100000 in
theorem Lj_M_laysStand_0_320 (l : Launch) (E : En) (T : List Sk) {a0 b0 kc ks : Nat} {M' : Mm} {G : Nat → List (Nat × Value) → List Value → Mm → Prop} (hG : RX l (SKM ++ T) E RX10 cX10_laysStand 5 none { frames := 1, cells := a0, slots := b0, locals := 21 } kc ks none M' G) (rc268 : Int32 → Int32 → Int32 → Mm → Option Mm) (hrc268 : ∀ (x1 : Int32) (x2 : Int32) (x3 : Int32) (M : Mm), rc268 x1 x2 x3 M = some M' → G 268 [(0, .ref (adr E 0)), (1, .int x1), (2, .int x2), (3, .int x3)] [] M) : ∀ (x1 : Int32) (x2 : Int32) (x3 : Int32) (t0 : Int32) (t1 : Int32) (M : Mm), j_M_laysStand_0_320 rc268 x1 x2 x3 t0 t1 M = some M' → G 320 [(0, .ref (adr E 0)), (1, .int x1), (2, .int x2), (3, .int x3)] [.int t0, .int t1, .ref (adr E 19)] M := by
  intro x1 x2 x3 t0 t1 M hf
  unfold j_M_laysStand_0_320 at hf
  obtain ⟨M1, hM1, hf⟩ := bindE hf
  refine rx_iast hG (skM19 T) hM1 dX10_laysStand_320 ?_
  refine rx_iinc (lv2 := [(3, .int (x3 + 1)), (0, .ref (adr E 0)), (1, .int x1), (2, .int x2)]) hG 1 dX10_laysStand_321 ic_1 3 rfl (Nat.le_of_ble_eq_true rfl) rfl ?_
  refine rx_goto hG 268 dX10_laysStand_324 rfl ?_
  refine rx_sub hG [1, 2, 3, 0] (lv' := [(0, .ref (adr E 0)), (1, .int x1), (2, .int x2), (3, .int (x3 + 1))]) rfl ?_
  exact hrc268 x1 x2 (x3 + 1) M1 hf
set_option maxHeartbeats 4000000 in
set_option maxRecDepth 100000 in
theorem Lj_M_laysStand_0_319 (l : Launch) (E : En) (T : List Sk) {a0 b0 kc ks : Nat} {M' : Mm} {G : Nat → List (Nat × Value) → List Value → Mm → Prop} (hG : RX l (SKM ++ T) E RX10 cX10_laysStand 5 none { frames := 1, cells := a0, slots := b0, locals := 21 } kc ks none M' G) (rc268 : Int32 → Int32 → Int32 → Mm → Option Mm) (hrc268 : ∀ (x1 : Int32) (x2 : Int32) (x3 : Int32) (M : Mm), rc268 x1 x2 x3 M = some M' → G 268 [(0, .ref (adr E 0)), (1, .int x1), (2, .int x2), (3, .int x3)] [] M) : ∀ (x1 : Int32) (x2 : Int32) (x3 : Int32) (t0 : Int32) (M : Mm), j_M_laysStand_0_319 rc268 x1 x2 x3 t0 M = some M' → G 319 [(0, .ref (adr E 0)), (1, .int x1), (2, .int x2), (3, .int x3)] [.int t0, .ref (adr E 19)] M := by
  intro x1 x2 x3 t0 M hf
  unfold j_M_laysStand_0_319 at hf
  refine rx_iconst hG 0 dX10_laysStand_319 ic_0 ?_
  exact Lj_M_laysStand_0_320 l E T hG rc268 hrc268 x1 x2 x3 0 t0 M hf
set_option maxHeartbeats 4000000 in
set_option maxRecDepth 100000 in
theorem Lblp_M_laysStand_0_268 (l : Launch) (E : En) (T : List Sk) {a0 b0 kc ks : Nat} {M' : Mm} {G : Nat → List (Nat × Value) → List Value → Mm → Prop} (hG : RX l (SKM ++ T) E RX10 cX10_laysStand 5 none { frames := 1, cells := a0, slots := b0, locals := 21 } kc ks none M' G) (rc268 : Int32 → Int32 → Int32 → Mm → Option Mm) (hrc268 : ∀ (x1 : Int32) (x2 : Int32) (x3 : Int32) (M : Mm), rc268 x1 x2 x3 M = some M' → G 268 [(0, .ref (adr E 0)), (1, .int x1), (2, .int x2), (3, .int x3)] [] M) : ∀ (x1 : Int32) (x2 : Int32) (x3 : Int32) (M : Mm), blp_M_laysStand_0_268 rc268 x1 x2 x3 M = some M' → G 268 [(0, .ref (adr E 0)), (1, .int x1), (2, .int x2), (3, .int x3)] [] M := by
  intro x1 x2 x3 M hf
  unfold blp_M_laysStand_0_268 at hf
  refine rx_iload_n hG dX10_laysStand_268 3 rfl ?_
  refine rx_iconst hG 4 dX10_laysStand_269 ic_4 ?_
  refine rx_icmp_ge hG 327 dX10_laysStand_270 rfl (fun c1 => ?_) (fun c1 => ?_)
  · have hf := ifT hf c1
    cases hf
    exact rx_vret hG dX10_laysStand_327
  · have hf := ifF hf c1
    refine rx_aload_n hG dX10_laysStand_273 0 rfl ?_
    refine gfM_M_71_0 l E T hG dX10_laysStand_274 ?_
    refine rx_iload_n hG dX10_laysStand_277 2 rfl ?_
    refine rx_bipush hG 45 dX10_laysStand_278 bp_45 ?_
    refine rx_iadd hG dX10_laysStand_280 ?_
    refine rx_iload_n hG dX10_laysStand_281 3 rfl ?_
    refine rx_iadd hG dX10_laysStand_282 ?_
    refine rx_iload_n hG dX10_laysStand_283 3 rfl ?_
    refine rx_aload_n hG dX10_laysStand_284 0 rfl ?_
    refine gfM_M_251_0 l E T hG dX10_laysStand_285 ?_
    refine rx_icmp_ge hG 319 dX10_laysStand_288 rfl (fun c2 => ?_) (fun c2 => ?_)
    · have hf := ifT hf c2
      exact Lj_M_laysStand_0_319 l E T hG rc268 hrc268 x1 x2 x3 ((x2 + 45) + x3) M hf
    · have hf := ifF hf c2
      refine rx_iload_n hG dX10_laysStand_291 1 rfl ?_
      refine rx_aload_n hG dX10_laysStand_292 0 rfl ?_
      refine gfM_M_39_0 l E T hG dX10_laysStand_293 ?_
      refine rx_iload_n hG dX10_laysStand_296 3 rfl ?_
      obtain ⟨v3, hv3, hf⟩ := bindE hf
      refine rx_iald hG (skM9 T) hv3 dX10_laysStand_297 ?_
      refine rx_icmp_lt hG 319 dX10_laysStand_298 rfl (fun c4 => ?_) (fun c4 => ?_)
      · have hf := ifT hf c4
        exact Lj_M_laysStand_0_319 l E T hG rc268 hrc268 x1 x2 x3 ((x2 + 45) + x3) M hf
      · have hf := ifF hf c4
        refine rx_iload_n hG dX10_laysStand_301 1 rfl ?_
        refine rx_aload_n hG dX10_laysStand_302 0 rfl ?_
        refine gfM_M_39_0 l E T hG dX10_laysStand_303 ?_
        refine rx_iload_n hG dX10_laysStand_306 3 rfl ?_
        obtain ⟨v5, hv5, hf⟩ := bindE hf
        refine rx_iald hG (skM9 T) hv5 dX10_laysStand_307 ?_
        refine rx_isub hG dX10_laysStand_308 ?_
        refine rx_aload_n hG dX10_laysStand_309 0 rfl ?_
        refine gfM_M_36_0 l E T hG dX10_laysStand_310 ?_
        refine rx_iload_n hG dX10_laysStand_313 3 rfl ?_
        obtain ⟨v6, hv6, hf⟩ := bindE hf
        refine rx_iald hG (skM8 T) hv6 dX10_laysStand_314 ?_
        obtain ⟨v7, hv7, hf⟩ := bindE hf
        refine rx_irem hG hv7 dX10_laysStand_315 ?_
        refine rx_goto hG 320 dX10_laysStand_316 rfl ?_
        exact Lj_M_laysStand_0_320 l E T hG rc268 hrc268 x1 x2 x3 v7 ((x2 + 45) + x3) M hf
theorem Llp_M_laysStand_0_268 (l : Launch) (E : En) (T : List Sk) {a0 b0 kc ks : Nat} {M' : Mm} {G : Nat → List (Nat × Value) → List Value → Mm → Prop} (hG : RX l (SKM ++ T) E RX10 cX10_laysStand 5 none { frames := 1, cells := a0, slots := b0, locals := 21 } kc ks none M' G)  : ∀ (n : Nat) (x1 : Int32) (x2 : Int32) (x3 : Int32) (M : Mm), lp_M_laysStand_0_268  n x1 x2 x3 M = some M' → G 268 [(0, .ref (adr E 0)), (1, .int x1), (2, .int x2), (3, .int x3)] [] M := by
  intro n
  induction n with
  | zero => intro x1 x2 x3 M hf; cases hf
  | succ n ih => intro x1 x2 x3 M hf; exact Lblp_M_laysStand_0_268 l E T hG  (lp_M_laysStand_0_268  n) ih x1 x2 x3 M hf
set_option maxHeartbeats 4000000 in
set_option maxRecDepth 100000 in
theorem Lj_M_laysStand_0_266 (l : Launch) (E : En) (T : List Sk) {a0 b0 kc ks : Nat} {M' : Mm} {G : Nat → List (Nat × Value) → List Value → Mm → Prop} (hG : RX l (SKM ++ T) E RX10 cX10_laysStand 5 none { frames := 1, cells := a0, slots := b0, locals := 21 } kc ks none M' G)  : ∀ (x1 : Int32) (x2 : Int32) (M : Mm), j_M_laysStand_0_266  x1 x2 M = some M' → G 266 [(0, .ref (adr E 0)), (1, .int x1), (2, .int x2)] [] M := by
  intro x1 x2 M hf
  unfold j_M_laysStand_0_266 at hf
  refine rx_iconst hG 0 dX10_laysStand_266 ic_0 ?_
  refine rx_istore_n (lv2 := [(3, .int 0), (0, .ref (adr E 0)), (1, .int x1), (2, .int x2)]) hG dX10_laysStand_267 (Nat.le_of_ble_eq_true rfl) rfl ?_
  refine rx_sub hG [1, 2, 3, 0] (lv' := [(0, .ref (adr E 0)), (1, .int x1), (2, .int x2), (3, .int 0)]) rfl ?_
  exact Llp_M_laysStand_0_268 l E T hG  FW x1 x2 0 M hf
set_option maxHeartbeats 4000000 in
set_option maxRecDepth 100000 in
theorem Lblp_M_laysStand_0_223 (l : Launch) (E : En) (T : List Sk) {a0 b0 kc ks : Nat} {M' : Mm} {G : Nat → List (Nat × Value) → List Value → Mm → Prop} (hG : RX l (SKM ++ T) E RX10 cX10_laysStand 5 none { frames := 1, cells := a0, slots := b0, locals := 21 } kc ks none M' G) (rc223 : Int32 → Int32 → Int32 → Mm → Option Mm) (hrc223 : ∀ (x1 : Int32) (x2 : Int32) (x3 : Int32) (M : Mm), rc223 x1 x2 x3 M = some M' → G 223 [(0, .ref (adr E 0)), (1, .int x1), (2, .int x2), (3, .int x3)] [] M) : ∀ (x1 : Int32) (x2 : Int32) (x3 : Int32) (M : Mm), blp_M_laysStand_0_223 rc223 x1 x2 x3 M = some M' → G 223 [(0, .ref (adr E 0)), (1, .int x1), (2, .int x2), (3, .int x3)] [] M := by
  intro x1 x2 x3 M hf
  unfold blp_M_laysStand_0_223 at hf
  refine rx_iload_n hG dX10_laysStand_223 3 rfl ?_
  refine rx_iconst hG 3 dX10_laysStand_224 ic_3 ?_
  refine rx_icmp_ge hG 266 dX10_laysStand_225 rfl (fun c1 => ?_) (fun c1 => ?_)
  · have hf := ifT hf c1
    refine rx_sub hG [0, 1, 2] (lv' := [(0, .ref (adr E 0)), (1, .int x1), (2, .int x2)]) rfl ?_
    exact Lj_M_laysStand_0_266 l E T hG  x1 x2 M hf
  · have hf := ifF hf c1
    refine rx_aload_n hG dX10_laysStand_228 0 rfl ?_
    refine gfM_M_71_0 l E T hG dX10_laysStand_229 ?_
    refine rx_iload_n hG dX10_laysStand_232 2 rfl ?_
    refine rx_bipush hG 42 dX10_laysStand_233 bp_42 ?_
    refine rx_iadd hG dX10_laysStand_235 ?_
    refine rx_iload_n hG dX10_laysStand_236 3 rfl ?_
    refine rx_iadd hG dX10_laysStand_237 ?_
    refine rx_aload_n hG dX10_laysStand_238 0 rfl ?_
    refine gfM_M_60_0 l E T hG dX10_laysStand_239 ?_
    refine rx_iload_n hG dX10_laysStand_242 3 rfl ?_
    refine rx_iconst hG 0 dX10_laysStand_243 ic_0 ?_
    obtain ⟨v2, hv2, hf⟩ := bindE hf
    refine rx_cSi hG (c_M_ofKind l E (SKM ++ T) x3 0 hv2) kw_M_274 ⟨Nat.le_of_ble_eq_true rfl, Nat.le_of_ble_eq_true rfl⟩ rfl (Nat.le_of_ble_eq_true rfl) dX10_laysStand_244 ?_
    obtain ⟨v3, hv3, hf⟩ := bindE hf
    refine rx_iald hG (skM16 T) hv3 dX10_laysStand_247 ?_
    refine rx_aload_n hG dX10_laysStand_248 0 rfl ?_
    refine gfM_M_60_0 l E T hG dX10_laysStand_249 ?_
    refine rx_iload_n hG dX10_laysStand_252 3 rfl ?_
    refine rx_iconst hG 1 dX10_laysStand_253 ic_1 ?_
    obtain ⟨v4, hv4, hf⟩ := bindE hf
    refine rx_cSi hG (c_M_ofKind l E (SKM ++ T) x3 1 hv4) kw_M_274 ⟨Nat.le_of_ble_eq_true rfl, Nat.le_of_ble_eq_true rfl⟩ rfl (Nat.le_of_ble_eq_true rfl) dX10_laysStand_254 ?_
    obtain ⟨v5, hv5, hf⟩ := bindE hf
    refine rx_iald hG (skM16 T) hv5 dX10_laysStand_257 ?_
    refine rx_isub hG dX10_laysStand_258 ?_
    obtain ⟨M6, hM6, hf⟩ := bindE hf
    refine rx_iast hG (skM19 T) hM6 dX10_laysStand_259 ?_
    refine rx_iinc (lv2 := [(3, .int (x3 + 1)), (0, .ref (adr E 0)), (1, .int x1), (2, .int x2)]) hG 1 dX10_laysStand_260 ic_1 3 rfl (Nat.le_of_ble_eq_true rfl) rfl ?_
    refine rx_goto hG 223 dX10_laysStand_263 rfl ?_
    refine rx_sub hG [1, 2, 3, 0] (lv' := [(0, .ref (adr E 0)), (1, .int x1), (2, .int x2), (3, .int (x3 + 1))]) rfl ?_
    exact hrc223 x1 x2 (x3 + 1) M6 hf
theorem Llp_M_laysStand_0_223 (l : Launch) (E : En) (T : List Sk) {a0 b0 kc ks : Nat} {M' : Mm} {G : Nat → List (Nat × Value) → List Value → Mm → Prop} (hG : RX l (SKM ++ T) E RX10 cX10_laysStand 5 none { frames := 1, cells := a0, slots := b0, locals := 21 } kc ks none M' G)  : ∀ (n : Nat) (x1 : Int32) (x2 : Int32) (x3 : Int32) (M : Mm), lp_M_laysStand_0_223  n x1 x2 x3 M = some M' → G 223 [(0, .ref (adr E 0)), (1, .int x1), (2, .int x2), (3, .int x3)] [] M := by
  intro n
  induction n with
  | zero => intro x1 x2 x3 M hf; cases hf
  | succ n ih => intro x1 x2 x3 M hf; exact Lblp_M_laysStand_0_223 l E T hG  (lp_M_laysStand_0_223  n) ih x1 x2 x3 M hf
set_option maxHeartbeats 4000000 in
set_option maxRecDepth 100000 in
theorem Lj_M_laysStand_0_221 (l : Launch) (E : En) (T : List Sk) {a0 b0 kc ks : Nat} {M' : Mm} {G : Nat → List (Nat × Value) → List Value → Mm → Prop} (hG : RX l (SKM ++ T) E RX10 cX10_laysStand 5 none { frames := 1, cells := a0, slots := b0, locals := 21 } kc ks none M' G)  : ∀ (x1 : Int32) (x2 : Int32) (M : Mm), j_M_laysStand_0_221  x1 x2 M = some M' → G 221 [(0, .ref (adr E 0)), (1, .int x1), (2, .int x2)] [] M := by
  intro x1 x2 M hf
  unfold j_M_laysStand_0_221 at hf
  refine rx_iconst hG 0 dX10_laysStand_221 ic_0 ?_
  refine rx_istore_n (lv2 := [(3, .int 0), (0, .ref (adr E 0)), (1, .int x1), (2, .int x2)]) hG dX10_laysStand_222 (Nat.le_of_ble_eq_true rfl) rfl ?_
  refine rx_sub hG [1, 2, 3, 0] (lv' := [(0, .ref (adr E 0)), (1, .int x1), (2, .int x2), (3, .int 0)]) rfl ?_
  exact Llp_M_laysStand_0_223 l E T hG  FW x1 x2 0 M hf
set_option maxHeartbeats 4000000 in
set_option maxRecDepth 100000 in
theorem Lblp_M_laysStand_0_189 (l : Launch) (E : En) (T : List Sk) {a0 b0 kc ks : Nat} {M' : Mm} {G : Nat → List (Nat × Value) → List Value → Mm → Prop} (hG : RX l (SKM ++ T) E RX10 cX10_laysStand 5 none { frames := 1, cells := a0, slots := b0, locals := 21 } kc ks none M' G) (rc189 : Int32 → Int32 → Int32 → Mm → Option Mm) (hrc189 : ∀ (x1 : Int32) (x2 : Int32) (x3 : Int32) (M : Mm), rc189 x1 x2 x3 M = some M' → G 189 [(0, .ref (adr E 0)), (1, .int x1), (2, .int x2), (3, .int x3)] [] M) : ∀ (x1 : Int32) (x2 : Int32) (x3 : Int32) (M : Mm), blp_M_laysStand_0_189 rc189 x1 x2 x3 M = some M' → G 189 [(0, .ref (adr E 0)), (1, .int x1), (2, .int x2), (3, .int x3)] [] M := by
  intro x1 x2 x3 M hf
  unfold blp_M_laysStand_0_189 at hf
  refine rx_iload_n hG dX10_laysStand_189 3 rfl ?_
  refine rx_bipush hG 18 dX10_laysStand_190 bp_18 ?_
  refine rx_icmp_ge hG 221 dX10_laysStand_192 rfl (fun c1 => ?_) (fun c1 => ?_)
  · have hf := ifT hf c1
    refine rx_sub hG [0, 1, 2] (lv' := [(0, .ref (adr E 0)), (1, .int x1), (2, .int x2)]) rfl ?_
    exact Lj_M_laysStand_0_221 l E T hG  x1 x2 M hf
  · have hf := ifF hf c1
    refine rx_aload_n hG dX10_laysStand_195 0 rfl ?_
    refine gfM_M_71_0 l E T hG dX10_laysStand_196 ?_
    refine rx_iload_n hG dX10_laysStand_199 2 rfl ?_
    refine rx_bipush hG 24 dX10_laysStand_200 bp_24 ?_
    refine rx_iadd hG dX10_laysStand_202 ?_
    refine rx_iload_n hG dX10_laysStand_203 3 rfl ?_
    refine rx_iadd hG dX10_laysStand_204 ?_
    refine rx_aload_n hG dX10_laysStand_205 0 rfl ?_
    refine gfM_M_60_0 l E T hG dX10_laysStand_206 ?_
    refine rx_bipush hG 57 dX10_laysStand_209 bp_57 ?_
    refine rx_iload_n hG dX10_laysStand_211 3 rfl ?_
    refine rx_iadd hG dX10_laysStand_212 ?_
    obtain ⟨v2, hv2, hf⟩ := bindE hf
    refine rx_iald hG (skM16 T) hv2 dX10_laysStand_213 ?_
    obtain ⟨M3, hM3, hf⟩ := bindE hf
    refine rx_iast hG (skM19 T) hM3 dX10_laysStand_214 ?_
    refine rx_iinc (lv2 := [(3, .int (x3 + 1)), (0, .ref (adr E 0)), (1, .int x1), (2, .int x2)]) hG 1 dX10_laysStand_215 ic_1 3 rfl (Nat.le_of_ble_eq_true rfl) rfl ?_
    refine rx_goto hG 189 dX10_laysStand_218 rfl ?_
    refine rx_sub hG [1, 2, 3, 0] (lv' := [(0, .ref (adr E 0)), (1, .int x1), (2, .int x2), (3, .int (x3 + 1))]) rfl ?_
    exact hrc189 x1 x2 (x3 + 1) M3 hf
theorem Llp_M_laysStand_0_189 (l : Launch) (E : En) (T : List Sk) {a0 b0 kc ks : Nat} {M' : Mm} {G : Nat → List (Nat × Value) → List Value → Mm → Prop} (hG : RX l (SKM ++ T) E RX10 cX10_laysStand 5 none { frames := 1, cells := a0, slots := b0, locals := 21 } kc ks none M' G)  : ∀ (n : Nat) (x1 : Int32) (x2 : Int32) (x3 : Int32) (M : Mm), lp_M_laysStand_0_189  n x1 x2 x3 M = some M' → G 189 [(0, .ref (adr E 0)), (1, .int x1), (2, .int x2), (3, .int x3)] [] M := by
  intro n
  induction n with
  | zero => intro x1 x2 x3 M hf; cases hf
  | succ n ih => intro x1 x2 x3 M hf; exact Lblp_M_laysStand_0_189 l E T hG  (lp_M_laysStand_0_189  n) ih x1 x2 x3 M hf
set_option maxHeartbeats 4000000 in
set_option maxRecDepth 100000 in
theorem Lj_M_laysStand_0_187 (l : Launch) (E : En) (T : List Sk) {a0 b0 kc ks : Nat} {M' : Mm} {G : Nat → List (Nat × Value) → List Value → Mm → Prop} (hG : RX l (SKM ++ T) E RX10 cX10_laysStand 5 none { frames := 1, cells := a0, slots := b0, locals := 21 } kc ks none M' G)  : ∀ (x1 : Int32) (x2 : Int32) (M : Mm), j_M_laysStand_0_187  x1 x2 M = some M' → G 187 [(0, .ref (adr E 0)), (1, .int x1), (2, .int x2)] [] M := by
  intro x1 x2 M hf
  unfold j_M_laysStand_0_187 at hf
  refine rx_iconst hG 0 dX10_laysStand_187 ic_0 ?_
  refine rx_istore_n (lv2 := [(3, .int 0), (0, .ref (adr E 0)), (1, .int x1), (2, .int x2)]) hG dX10_laysStand_188 (Nat.le_of_ble_eq_true rfl) rfl ?_
  refine rx_sub hG [1, 2, 3, 0] (lv' := [(0, .ref (adr E 0)), (1, .int x1), (2, .int x2), (3, .int 0)]) rfl ?_
  exact Llp_M_laysStand_0_189 l E T hG  FW x1 x2 0 M hf
set_option maxHeartbeats 4000000 in
set_option maxRecDepth 100000 in
theorem Lj_M_laysStand_0_180 (l : Launch) (E : En) (T : List Sk) {a0 b0 kc ks : Nat} {M' : Mm} {G : Nat → List (Nat × Value) → List Value → Mm → Prop} (hG : RX l (SKM ++ T) E RX10 cX10_laysStand 5 none { frames := 1, cells := a0, slots := b0, locals := 21 } kc ks none M' G) (rc7 : Int32 → Int32 → Int32 → Mm → Option Mm) (hrc7 : ∀ (x1 : Int32) (x2 : Int32) (x3 : Int32) (M : Mm), rc7 x1 x2 x3 M = some M' → G 7 [(0, .ref (adr E 0)), (1, .int x1), (2, .int x2), (3, .int x3)] [] M) : ∀ (x1 : Int32) (x2 : Int32) (x3 : Int32) (t0 : Int32) (t1 : Int32) (M : Mm), j_M_laysStand_0_180 rc7 x1 x2 x3 t0 t1 M = some M' → G 180 [(0, .ref (adr E 0)), (1, .int x1), (2, .int x2), (3, .int x3)] [.int t0, .int t1, .ref (adr E 19)] M := by
  intro x1 x2 x3 t0 t1 M hf
  unfold j_M_laysStand_0_180 at hf
  obtain ⟨M1, hM1, hf⟩ := bindE hf
  refine rx_iast hG (skM19 T) hM1 dX10_laysStand_180 ?_
  refine rx_iinc (lv2 := [(3, .int (x3 + 1)), (0, .ref (adr E 0)), (1, .int x1), (2, .int x2)]) hG 1 dX10_laysStand_181 ic_1 3 rfl (Nat.le_of_ble_eq_true rfl) rfl ?_
  refine rx_goto hG 7 dX10_laysStand_184 rfl ?_
  refine rx_sub hG [1, 2, 3, 0] (lv' := [(0, .ref (adr E 0)), (1, .int x1), (2, .int x2), (3, .int (x3 + 1))]) rfl ?_
  exact hrc7 x1 x2 (x3 + 1) M1 hf
set_option maxHeartbeats 4000000 in
set_option maxRecDepth 100000 in
theorem Lj_M_laysStand_0_179 (l : Launch) (E : En) (T : List Sk) {a0 b0 kc ks : Nat} {M' : Mm} {G : Nat → List (Nat × Value) → List Value → Mm → Prop} (hG : RX l (SKM ++ T) E RX10 cX10_laysStand 5 none { frames := 1, cells := a0, slots := b0, locals := 21 } kc ks none M' G) (rc7 : Int32 → Int32 → Int32 → Mm → Option Mm) (hrc7 : ∀ (x1 : Int32) (x2 : Int32) (x3 : Int32) (M : Mm), rc7 x1 x2 x3 M = some M' → G 7 [(0, .ref (adr E 0)), (1, .int x1), (2, .int x2), (3, .int x3)] [] M) : ∀ (x1 : Int32) (x2 : Int32) (x3 : Int32) (t0 : Int32) (M : Mm), j_M_laysStand_0_179 rc7 x1 x2 x3 t0 M = some M' → G 179 [(0, .ref (adr E 0)), (1, .int x1), (2, .int x2), (3, .int x3)] [.int t0, .ref (adr E 19)] M := by
  intro x1 x2 x3 t0 M hf
  unfold j_M_laysStand_0_179 at hf
  refine rx_iconst hG 0 dX10_laysStand_179 ic_0 ?_
  exact Lj_M_laysStand_0_180 l E T hG rc7 hrc7 x1 x2 x3 0 t0 M hf
set_option maxHeartbeats 4000000 in
set_option maxRecDepth 100000 in
theorem Lj_M_laysStand_0_133 (l : Launch) (E : En) (T : List Sk) {a0 b0 kc ks : Nat} {M' : Mm} {G : Nat → List (Nat × Value) → List Value → Mm → Prop} (hG : RX l (SKM ++ T) E RX10 cX10_laysStand 5 none { frames := 1, cells := a0, slots := b0, locals := 21 } kc ks none M' G) (rc7 : Int32 → Int32 → Int32 → Mm → Option Mm) (hrc7 : ∀ (x1 : Int32) (x2 : Int32) (x3 : Int32) (M : Mm), rc7 x1 x2 x3 M = some M' → G 7 [(0, .ref (adr E 0)), (1, .int x1), (2, .int x2), (3, .int x3)] [] M) : ∀ (x1 : Int32) (x2 : Int32) (x3 : Int32) (x4 : Int32) (t0 : Int32) (t1 : Int32) (M : Mm), j_M_laysStand_0_133 rc7 x1 x2 x3 x4 t0 t1 M = some M' → G 133 [(0, .ref (adr E 0)), (1, .int x1), (2, .int x2), (3, .int x3), (4, .int x4)] [.int t0, .int t1, .ref (adr E 19)] M := by
  intro x1 x2 x3 x4 t0 t1 M hf
  unfold j_M_laysStand_0_133 at hf
  obtain ⟨M1, hM1, hf⟩ := bindE hf
  refine rx_iast hG (skM19 T) hM1 dX10_laysStand_133 ?_
  refine rx_aload_n hG dX10_laysStand_134 0 rfl ?_
  refine gfM_M_71_0 l E T hG dX10_laysStand_135 ?_
  refine rx_iload_n hG dX10_laysStand_138 2 rfl ?_
  refine rx_iconst hG 4 dX10_laysStand_139 ic_4 ?_
  refine rx_iload_n hG dX10_laysStand_140 3 rfl ?_
  refine rx_imul hG dX10_laysStand_141 ?_
  refine rx_iadd hG dX10_laysStand_142 ?_
  refine rx_iconst hG 3 dX10_laysStand_143 ic_3 ?_
  refine rx_iadd hG dX10_laysStand_144 ?_
  refine rx_iload hG dX10_laysStand_145 4 rfl ?_
  refine rx_if_eq hG 179 dX10_laysStand_147 rfl (fun c2 => ?_) (fun c2 => ?_)
  · have hf := ifT hf c2
    refine rx_sub hG [0, 1, 2, 3] (lv' := [(0, .ref (adr E 0)), (1, .int x1), (2, .int x2), (3, .int x3)]) rfl ?_
    exact Lj_M_laysStand_0_179 l E T hG rc7 hrc7 x1 x2 x3 ((x2 + (4 * x3)) + 3) M1 hf
  · have hf := ifF hf c2
    refine rx_aload_n hG dX10_laysStand_150 0 rfl ?_
    refine gfM_M_30_0 l E T hG dX10_laysStand_151 ?_
    refine rx_iload_n hG dX10_laysStand_154 3 rfl ?_
    obtain ⟨v3, hv3, hf⟩ := bindE hf
    refine rx_iald hG (skM6 T) hv3 dX10_laysStand_155 ?_
    refine rx_if_le hG 179 dX10_laysStand_156 rfl (fun c4 => ?_) (fun c4 => ?_)
    · have hf := ifT hf c4
      refine rx_sub hG [0, 1, 2, 3] (lv' := [(0, .ref (adr E 0)), (1, .int x1), (2, .int x2), (3, .int x3)]) rfl ?_
      exact Lj_M_laysStand_0_179 l E T hG rc7 hrc7 x1 x2 x3 ((x2 + (4 * x3)) + 3) M1 hf
    · have hf := ifF hf c4
      refine rx_aload_n hG dX10_laysStand_159 0 rfl ?_
      refine gfM_M_60_0 l E T hG dX10_laysStand_160 ?_
      refine rx_iload_n hG dX10_laysStand_163 3 rfl ?_
      refine rx_iconst hG 4 dX10_laysStand_164 ic_4 ?_
      obtain ⟨v5, hv5, hf⟩ := bindE hf
      refine rx_cSi hG (c_M_of l E (SKM ++ T) x3 4 hv5) kw_M_264 ⟨Nat.le_of_ble_eq_true rfl, Nat.le_of_ble_eq_true rfl⟩ rfl (Nat.le_of_ble_eq_true rfl) dX10_laysStand_165 ?_
      obtain ⟨v6, hv6, hf⟩ := bindE hf
      refine rx_iald hG (skM16 T) hv6 dX10_laysStand_168 ?_
      refine rx_aload_n hG dX10_laysStand_169 0 rfl ?_
      refine gfM_M_30_0 l E T hG dX10_laysStand_170 ?_
      refine rx_iload_n hG dX10_laysStand_173 3 rfl ?_
      obtain ⟨v7, hv7, hf⟩ := bindE hf
      refine rx_iald hG (skM6 T) hv7 dX10_laysStand_174 ?_
      obtain ⟨v8, hv8, hf⟩ := bindE hf
      refine rx_irem hG hv8 dX10_laysStand_175 ?_
      refine rx_goto hG 180 dX10_laysStand_176 rfl ?_
      refine rx_sub hG [0, 1, 2, 3] (lv' := [(0, .ref (adr E 0)), (1, .int x1), (2, .int x2), (3, .int x3)]) rfl ?_
      exact Lj_M_laysStand_0_180 l E T hG rc7 hrc7 x1 x2 x3 v8 ((x2 + (4 * x3)) + 3) M1 hf
set_option maxHeartbeats 4000000 in
set_option maxRecDepth 100000 in
theorem Lj_M_laysStand_0_102 (l : Launch) (E : En) (T : List Sk) {a0 b0 kc ks : Nat} {M' : Mm} {G : Nat → List (Nat × Value) → List Value → Mm → Prop} (hG : RX l (SKM ++ T) E RX10 cX10_laysStand 5 none { frames := 1, cells := a0, slots := b0, locals := 21 } kc ks none M' G) (rc7 : Int32 → Int32 → Int32 → Mm → Option Mm) (hrc7 : ∀ (x1 : Int32) (x2 : Int32) (x3 : Int32) (M : Mm), rc7 x1 x2 x3 M = some M' → G 7 [(0, .ref (adr E 0)), (1, .int x1), (2, .int x2), (3, .int x3)] [] M) : ∀ (x1 : Int32) (x2 : Int32) (x3 : Int32) (x4 : Int32) (t0 : Int32) (t1 : Int32) (M : Mm), j_M_laysStand_0_102 rc7 x1 x2 x3 x4 t0 t1 M = some M' → G 102 [(0, .ref (adr E 0)), (1, .int x1), (2, .int x2), (3, .int x3), (4, .int x4)] [.int t0, .int t1, .ref (adr E 19)] M := by
  intro x1 x2 x3 x4 t0 t1 M hf
  unfold j_M_laysStand_0_102 at hf
  obtain ⟨M1, hM1, hf⟩ := bindE hf
  refine rx_iast hG (skM19 T) hM1 dX10_laysStand_102 ?_
  refine rx_aload_n hG dX10_laysStand_103 0 rfl ?_
  refine gfM_M_71_0 l E T hG dX10_laysStand_104 ?_
  refine rx_iload_n hG dX10_laysStand_107 2 rfl ?_
  refine rx_iconst hG 4 dX10_laysStand_108 ic_4 ?_
  refine rx_iload_n hG dX10_laysStand_109 3 rfl ?_
  refine rx_imul hG dX10_laysStand_110 ?_
  refine rx_iadd hG dX10_laysStand_111 ?_
  refine rx_iconst hG 2 dX10_laysStand_112 ic_2 ?_
  refine rx_iadd hG dX10_laysStand_113 ?_
  refine rx_iload hG dX10_laysStand_114 4 rfl ?_
  refine rx_if_eq hG 132 dX10_laysStand_116 rfl (fun c2 => ?_) (fun c2 => ?_)
  · have hf := ifT hf c2
    refine rx_iconst hG 0 dX10_laysStand_132 ic_0 ?_
    exact Lj_M_laysStand_0_133 l E T hG rc7 hrc7 x1 x2 x3 x4 0 ((x2 + (4 * x3)) + 2) M1 hf
  · have hf := ifF hf c2
    refine rx_aload_n hG dX10_laysStand_119 0 rfl ?_
    refine gfM_M_60_0 l E T hG dX10_laysStand_120 ?_
    refine rx_iload_n hG dX10_laysStand_123 3 rfl ?_
    refine rx_iconst hG 3 dX10_laysStand_124 ic_3 ?_
    obtain ⟨v3, hv3, hf⟩ := bindE hf
    refine rx_cSi hG (c_M_of l E (SKM ++ T) x3 3 hv3) kw_M_264 ⟨Nat.le_of_ble_eq_true rfl, Nat.le_of_ble_eq_true rfl⟩ rfl (Nat.le_of_ble_eq_true rfl) dX10_laysStand_125 ?_
    obtain ⟨v4, hv4, hf⟩ := bindE hf
    refine rx_iald hG (skM16 T) hv4 dX10_laysStand_128 ?_
    refine rx_goto hG 133 dX10_laysStand_129 rfl ?_
    exact Lj_M_laysStand_0_133 l E T hG rc7 hrc7 x1 x2 x3 x4 v4 ((x2 + (4 * x3)) + 2) M1 hf
set_option maxHeartbeats 4000000 in
set_option maxRecDepth 100000 in
theorem Lj_M_laysStand_0_101 (l : Launch) (E : En) (T : List Sk) {a0 b0 kc ks : Nat} {M' : Mm} {G : Nat → List (Nat × Value) → List Value → Mm → Prop} (hG : RX l (SKM ++ T) E RX10 cX10_laysStand 5 none { frames := 1, cells := a0, slots := b0, locals := 21 } kc ks none M' G) (rc7 : Int32 → Int32 → Int32 → Mm → Option Mm) (hrc7 : ∀ (x1 : Int32) (x2 : Int32) (x3 : Int32) (M : Mm), rc7 x1 x2 x3 M = some M' → G 7 [(0, .ref (adr E 0)), (1, .int x1), (2, .int x2), (3, .int x3)] [] M) : ∀ (x1 : Int32) (x2 : Int32) (x3 : Int32) (x4 : Int32) (t0 : Int32) (M : Mm), j_M_laysStand_0_101 rc7 x1 x2 x3 x4 t0 M = some M' → G 101 [(0, .ref (adr E 0)), (1, .int x1), (2, .int x2), (3, .int x3), (4, .int x4)] [.int t0, .ref (adr E 19)] M := by
  intro x1 x2 x3 x4 t0 M hf
  unfold j_M_laysStand_0_101 at hf
  refine rx_iconst hG 0 dX10_laysStand_101 ic_0 ?_
  exact Lj_M_laysStand_0_102 l E T hG rc7 hrc7 x1 x2 x3 x4 0 t0 M hf
set_option maxHeartbeats 4000000 in
set_option maxRecDepth 100000 in
theorem Lj_M_laysStand_0_56 (l : Launch) (E : En) (T : List Sk) {a0 b0 kc ks : Nat} {M' : Mm} {G : Nat → List (Nat × Value) → List Value → Mm → Prop} (hG : RX l (SKM ++ T) E RX10 cX10_laysStand 5 none { frames := 1, cells := a0, slots := b0, locals := 21 } kc ks none M' G) (rc7 : Int32 → Int32 → Int32 → Mm → Option Mm) (hrc7 : ∀ (x1 : Int32) (x2 : Int32) (x3 : Int32) (M : Mm), rc7 x1 x2 x3 M = some M' → G 7 [(0, .ref (adr E 0)), (1, .int x1), (2, .int x2), (3, .int x3)] [] M) : ∀ (x1 : Int32) (x2 : Int32) (x3 : Int32) (x4 : Int32) (t0 : Int32) (t1 : Int32) (M : Mm), j_M_laysStand_0_56 rc7 x1 x2 x3 x4 t0 t1 M = some M' → G 56 [(0, .ref (adr E 0)), (1, .int x1), (2, .int x2), (3, .int x3), (4, .int x4)] [.int t0, .int t1, .ref (adr E 19)] M := by
  intro x1 x2 x3 x4 t0 t1 M hf
  unfold j_M_laysStand_0_56 at hf
  obtain ⟨M1, hM1, hf⟩ := bindE hf
  refine rx_iast hG (skM19 T) hM1 dX10_laysStand_56 ?_
  refine rx_aload_n hG dX10_laysStand_57 0 rfl ?_
  refine gfM_M_71_0 l E T hG dX10_laysStand_58 ?_
  refine rx_iload_n hG dX10_laysStand_61 2 rfl ?_
  refine rx_iconst hG 4 dX10_laysStand_62 ic_4 ?_
  refine rx_iload_n hG dX10_laysStand_63 3 rfl ?_
  refine rx_imul hG dX10_laysStand_64 ?_
  refine rx_iadd hG dX10_laysStand_65 ?_
  refine rx_iconst hG 1 dX10_laysStand_66 ic_1 ?_
  refine rx_iadd hG dX10_laysStand_67 ?_
  refine rx_iload hG dX10_laysStand_68 4 rfl ?_
  refine rx_if_eq hG 101 dX10_laysStand_70 rfl (fun c2 => ?_) (fun c2 => ?_)
  · have hf := ifT hf c2
    exact Lj_M_laysStand_0_101 l E T hG rc7 hrc7 x1 x2 x3 x4 ((x2 + (4 * x3)) + 1) M1 hf
  · have hf := ifF hf c2
    refine rx_aload_n hG dX10_laysStand_73 0 rfl ?_
    refine gfM_M_60_0 l E T hG dX10_laysStand_74 ?_
    refine rx_iload_n hG dX10_laysStand_77 3 rfl ?_
    refine rx_iconst hG 0 dX10_laysStand_78 ic_0 ?_
    obtain ⟨v3, hv3, hf⟩ := bindE hf
    refine rx_cSi hG (c_M_of l E (SKM ++ T) x3 0 hv3) kw_M_264 ⟨Nat.le_of_ble_eq_true rfl, Nat.le_of_ble_eq_true rfl⟩ rfl (Nat.le_of_ble_eq_true rfl) dX10_laysStand_79 ?_
    obtain ⟨v4, hv4, hf⟩ := bindE hf
    refine rx_iald hG (skM16 T) hv4 dX10_laysStand_82 ?_
    refine rx_if_le hG 101 dX10_laysStand_83 rfl (fun c5 => ?_) (fun c5 => ?_)
    · have hf := ifT hf c5
      exact Lj_M_laysStand_0_101 l E T hG rc7 hrc7 x1 x2 x3 x4 ((x2 + (4 * x3)) + 1) M1 hf
    · have hf := ifF hf c5
      refine rx_aload_n hG dX10_laysStand_86 0 rfl ?_
      refine gfM_M_60_0 l E T hG dX10_laysStand_87 ?_
      refine rx_iload_n hG dX10_laysStand_90 3 rfl ?_
      refine rx_iconst hG 2 dX10_laysStand_91 ic_2 ?_
      obtain ⟨v6, hv6, hf⟩ := bindE hf
      refine rx_cSi hG (c_M_of l E (SKM ++ T) x3 2 hv6) kw_M_264 ⟨Nat.le_of_ble_eq_true rfl, Nat.le_of_ble_eq_true rfl⟩ rfl (Nat.le_of_ble_eq_true rfl) dX10_laysStand_92 ?_
      obtain ⟨v7, hv7, hf⟩ := bindE hf
      refine rx_iald hG (skM16 T) hv7 dX10_laysStand_95 ?_
      refine rx_iload_n hG dX10_laysStand_96 1 rfl ?_
      refine rx_isub hG dX10_laysStand_97 ?_
      refine rx_goto hG 102 dX10_laysStand_98 rfl ?_
      exact Lj_M_laysStand_0_102 l E T hG rc7 hrc7 x1 x2 x3 x4 (v7 - x1) ((x2 + (4 * x3)) + 1) M1 hf
set_option maxHeartbeats 4000000 in
set_option maxRecDepth 100000 in
theorem Lj_M_laysStand_0_26 (l : Launch) (E : En) (T : List Sk) {a0 b0 kc ks : Nat} {M' : Mm} {G : Nat → List (Nat × Value) → List Value → Mm → Prop} (hG : RX l (SKM ++ T) E RX10 cX10_laysStand 5 none { frames := 1, cells := a0, slots := b0, locals := 21 } kc ks none M' G) (rc7 : Int32 → Int32 → Int32 → Mm → Option Mm) (hrc7 : ∀ (x1 : Int32) (x2 : Int32) (x3 : Int32) (M : Mm), rc7 x1 x2 x3 M = some M' → G 7 [(0, .ref (adr E 0)), (1, .int x1), (2, .int x2), (3, .int x3)] [] M) : ∀ (x1 : Int32) (x2 : Int32) (x3 : Int32) (t0 : Int32) (M : Mm), j_M_laysStand_0_26 rc7 x1 x2 x3 t0 M = some M' → G 26 [(0, .ref (adr E 0)), (1, .int x1), (2, .int x2), (3, .int x3)] [.int t0] M := by
  intro x1 x2 x3 t0 M hf
  unfold j_M_laysStand_0_26 at hf
  refine rx_istore (lv2 := [(4, .int t0), (0, .ref (adr E 0)), (1, .int x1), (2, .int x2), (3, .int x3)]) hG dX10_laysStand_26 (Nat.le_of_ble_eq_true rfl) rfl ?_
  refine rx_aload_n hG dX10_laysStand_28 1 rfl ?_
  refine gfM_M_71_0 l E T hG dX10_laysStand_29 ?_
  refine rx_iload_n hG dX10_laysStand_32 3 rfl ?_
  refine rx_iconst hG 4 dX10_laysStand_33 ic_4 ?_
  refine rx_iload_n hG dX10_laysStand_34 4 rfl ?_
  refine rx_imul hG dX10_laysStand_35 ?_
  refine rx_iadd hG dX10_laysStand_36 ?_
  refine rx_iload hG dX10_laysStand_37 0 rfl ?_
  refine rx_if_eq hG 55 dX10_laysStand_39 rfl (fun c1 => ?_) (fun c1 => ?_)
  · have hf := ifT hf c1
    refine rx_iconst hG 0 dX10_laysStand_55 ic_0 ?_
    refine rx_sub hG [1, 2, 3, 4, 0] (lv' := [(0, .ref (adr E 0)), (1, .int x1), (2, .int x2), (3, .int x3), (4, .int t0)]) rfl ?_
    exact Lj_M_laysStand_0_56 l E T hG rc7 hrc7 x1 x2 x3 t0 0 (x2 + (4 * x3)) M hf
  · have hf := ifF hf c1
    refine rx_aload_n hG dX10_laysStand_42 1 rfl ?_
    refine gfM_M_60_0 l E T hG dX10_laysStand_43 ?_
    refine rx_iload_n hG dX10_laysStand_46 4 rfl ?_
    refine rx_iconst hG 0 dX10_laysStand_47 ic_0 ?_
    obtain ⟨v2, hv2, hf⟩ := bindE hf
    refine rx_cSi hG (c_M_of l E (SKM ++ T) x3 0 hv2) kw_M_264 ⟨Nat.le_of_ble_eq_true rfl, Nat.le_of_ble_eq_true rfl⟩ rfl (Nat.le_of_ble_eq_true rfl) dX10_laysStand_48 ?_
    obtain ⟨v3, hv3, hf⟩ := bindE hf
    refine rx_iald hG (skM16 T) hv3 dX10_laysStand_51 ?_
    refine rx_goto hG 56 dX10_laysStand_52 rfl ?_
    refine rx_sub hG [1, 2, 3, 4, 0] (lv' := [(0, .ref (adr E 0)), (1, .int x1), (2, .int x2), (3, .int x3), (4, .int t0)]) rfl ?_
    exact Lj_M_laysStand_0_56 l E T hG rc7 hrc7 x1 x2 x3 t0 v3 (x2 + (4 * x3)) M hf
set_option maxHeartbeats 4000000 in
set_option maxRecDepth 100000 in
theorem Lblp_M_laysStand_0_7 (l : Launch) (E : En) (T : List Sk) {a0 b0 kc ks : Nat} {M' : Mm} {G : Nat → List (Nat × Value) → List Value → Mm → Prop} (hG : RX l (SKM ++ T) E RX10 cX10_laysStand 5 none { frames := 1, cells := a0, slots := b0, locals := 21 } kc ks none M' G) (rc7 : Int32 → Int32 → Int32 → Mm → Option Mm) (hrc7 : ∀ (x1 : Int32) (x2 : Int32) (x3 : Int32) (M : Mm), rc7 x1 x2 x3 M = some M' → G 7 [(0, .ref (adr E 0)), (1, .int x1), (2, .int x2), (3, .int x3)] [] M) : ∀ (x1 : Int32) (x2 : Int32) (x3 : Int32) (M : Mm), blp_M_laysStand_0_7 rc7 x1 x2 x3 M = some M' → G 7 [(0, .ref (adr E 0)), (1, .int x1), (2, .int x2), (3, .int x3)] [] M := by
  intro x1 x2 x3 M hf
  unfold blp_M_laysStand_0_7 at hf
  refine rx_iload_n hG dX10_laysStand_7 3 rfl ?_
  refine rx_bipush hG 6 dX10_laysStand_8 bp_6 ?_
  refine rx_icmp_ge hG 187 dX10_laysStand_10 rfl (fun c1 => ?_) (fun c1 => ?_)
  · have hf := ifT hf c1
    refine rx_sub hG [0, 1, 2] (lv' := [(0, .ref (adr E 0)), (1, .int x1), (2, .int x2)]) rfl ?_
    exact Lj_M_laysStand_0_187 l E T hG  x1 x2 M hf
  · have hf := ifF hf c1
    refine rx_iload_n hG dX10_laysStand_13 3 rfl ?_
    refine rx_aload_n hG dX10_laysStand_14 0 rfl ?_
    refine gfM_M_242_0 l E T hG dX10_laysStand_15 ?_
    refine rx_icmp_ge hG 25 dX10_laysStand_18 rfl (fun c2 => ?_) (fun c2 => ?_)
    · have hf := ifT hf c2
      refine rx_iconst hG 0 dX10_laysStand_25 ic_0 ?_
      exact Lj_M_laysStand_0_26 l E T hG rc7 hrc7 x1 x2 x3 0 M hf
    · have hf := ifF hf c2
      refine rx_iconst hG 1 dX10_laysStand_21 ic_1 ?_
      refine rx_goto hG 26 dX10_laysStand_22 rfl ?_
      exact Lj_M_laysStand_0_26 l E T hG rc7 hrc7 x1 x2 x3 1 M hf
theorem Llp_M_laysStand_0_7 (l : Launch) (E : En) (T : List Sk) {a0 b0 kc ks : Nat} {M' : Mm} {G : Nat → List (Nat × Value) → List Value → Mm → Prop} (hG : RX l (SKM ++ T) E RX10 cX10_laysStand 5 none { frames := 1, cells := a0, slots := b0, locals := 21 } kc ks none M' G)  : ∀ (n : Nat) (x1 : Int32) (x2 : Int32) (x3 : Int32) (M : Mm), lp_M_laysStand_0_7  n x1 x2 x3 M = some M' → G 7 [(0, .ref (adr E 0)), (1, .int x1), (2, .int x2), (3, .int x3)] [] M := by
  intro n
  induction n with
  | zero => intro x1 x2 x3 M hf; cases hf
  | succ n ih => intro x1 x2 x3 M hf; exact Lblp_M_laysStand_0_7 l E T hG  (lp_M_laysStand_0_7  n) ih x1 x2 x3 M hf
set_option maxHeartbeats 4000000 in
set_option maxRecDepth 100000 in
theorem c_M_laysStand_0 (l : Launch) (E : En) (T : List Sk) (p0 : Int32) {M M' : Mm} (h : f_M_laysStand_0 p0 M = some M') : Ct l (SKM ++ T) E yX10_laysStand cX10_laysStand 5 none 1 21 [.ref (adr E 0), .int p0] M none M' := by
  refine ct_of (by decide) (Nat.le_of_ble_eq_true rfl) ?_
  intro G hG
  show G 0 [(0, .ref (adr E 0)), (1, .int p0)] [] M
  have hf := h
  unfold f_M_laysStand_0 at hf
  refine rx_bipush hG 49 dX10_laysStand_0 bp_49 ?_
  refine rx_iload_n hG dX10_laysStand_2 1 rfl ?_
  refine rx_imul hG dX10_laysStand_3 ?_
  refine rx_istore_n (lv2 := [(2, .int (49 * p0)), (0, .ref (adr E 0)), (1, .int p0)]) hG dX10_laysStand_4 (Nat.le_of_ble_eq_true rfl) rfl ?_
  refine rx_iconst hG 0 dX10_laysStand_5 ic_0 ?_
  refine rx_istore_n (lv2 := [(3, .int 0), (2, .int (49 * p0)), (0, .ref (adr E 0)), (1, .int p0)]) hG dX10_laysStand_6 (Nat.le_of_ble_eq_true rfl) rfl ?_
  refine rx_sub hG [2, 3, 1, 0] (lv' := [(0, .ref (adr E 0)), (1, .int p0), (2, .int (49 * p0)), (3, .int 0)]) rfl ?_
  exact Llp_M_laysStand_0_7 l E T hG  FW p0 (49 * p0) 0 M hf
set_option maxHeartbeats 4000000 in
set_option maxRecDepth 100000 in
theorem Lj_M_areAlike_0_48 (l : Launch) (E : En) (T : List Sk) {a0 b0 kc ks : Nat} {r : Int32} {M : Mm} {G : Nat → List (Nat × Value) → List Value → Mm → Prop} (hG : RX l (SKM ++ T) E RX10 cX10_areAlike 5 (some .boolean) { frames := 0, cells := a0, slots := b0, locals := 0 } kc ks (some (.int r)) M G) (rc5 : Int32 → Int32 → Int32 → Int32 → Mm → Option Int32) (hrc5 : ∀ (x1 : Int32) (x2 : Int32) (x3 : Int32) (x4 : Int32), rc5 x1 x2 x3 x4 M = some r → G 5 [(0, .ref (adr E 0)), (1, .int x1), (2, .int x2), (3, .int x3), (4, .int x4)] [] M) : ∀ (x1 : Int32) (x2 : Int32) (x4 : Int32) (t0 : Int32), j_M_areAlike_0_48 rc5 x1 x2 x4 t0 M = some r → G 48 [(0, .ref (adr E 0)), (1, .int x1), (2, .int x2), (4, .int x4)] [.int t0] M := by
  intro x1 x2 x4 t0 hf
  unfold j_M_areAlike_0_48 at hf
  refine rx_istore_n (lv2 := [(3, .int t0), (0, .ref (adr E 0)), (1, .int x1), (2, .int x2), (4, .int x4)]) hG dX10_areAlike_48 (Nat.le_of_ble_eq_true rfl) rfl ?_
  refine rx_iinc (lv2 := [(4, .int (x4 + 1)), (3, .int t0), (0, .ref (adr E 0)), (1, .int x1), (2, .int x2)]) hG 1 dX10_areAlike_49 ic_1 4 rfl (Nat.le_of_ble_eq_true rfl) rfl ?_
  refine rx_goto hG 5 dX10_areAlike_52 rfl ?_
  refine rx_sub hG [2, 3, 4, 1, 0] (lv' := [(0, .ref (adr E 0)), (1, .int x1), (2, .int x2), (3, .int t0), (4, .int (x4 + 1))]) rfl ?_
  exact hrc5 x1 x2 t0 (x4 + 1) hf
set_option maxHeartbeats 4000000 in
set_option maxRecDepth 100000 in
theorem Lblp_M_areAlike_0_5 (l : Launch) (E : En) (T : List Sk) {a0 b0 kc ks : Nat} {r : Int32} {M : Mm} {G : Nat → List (Nat × Value) → List Value → Mm → Prop} (hG : RX l (SKM ++ T) E RX10 cX10_areAlike 5 (some .boolean) { frames := 0, cells := a0, slots := b0, locals := 0 } kc ks (some (.int r)) M G) (rc5 : Int32 → Int32 → Int32 → Int32 → Mm → Option Int32) (hrc5 : ∀ (x1 : Int32) (x2 : Int32) (x3 : Int32) (x4 : Int32), rc5 x1 x2 x3 x4 M = some r → G 5 [(0, .ref (adr E 0)), (1, .int x1), (2, .int x2), (3, .int x3), (4, .int x4)] [] M) : ∀ (x1 : Int32) (x2 : Int32) (x3 : Int32) (x4 : Int32), blp_M_areAlike_0_5 rc5 x1 x2 x3 x4 M = some r → G 5 [(0, .ref (adr E 0)), (1, .int x1), (2, .int x2), (3, .int x3), (4, .int x4)] [] M := by
  intro x1 x2 x3 x4 hf
  unfold blp_M_areAlike_0_5 at hf
  refine rx_iload_n hG dX10_areAlike_5 3 rfl ?_
  refine rx_if_eq hG 55 dX10_areAlike_6 rfl (fun c1 => ?_) (fun c1 => ?_)
  · have hf := ifT hf c1
    refine rx_iload_n hG dX10_areAlike_55 3 rfl ?_
    obtain ⟨z2, hz2, hf⟩ := bindE hf
    cases hf
    exact rx_zret hG hz2 dX10_areAlike_56
  · have hf := ifF hf c1
    refine rx_iload hG dX10_areAlike_9 4 rfl ?_
    refine rx_bipush hG 49 dX10_areAlike_11 bp_49 ?_
    refine rx_icmp_ge hG 55 dX10_areAlike_13 rfl (fun c3 => ?_) (fun c3 => ?_)
    · have hf := ifT hf c3
      refine rx_iload_n hG dX10_areAlike_55 3 rfl ?_
      obtain ⟨z4, hz4, hf⟩ := bindE hf
      cases hf
      exact rx_zret hG hz4 dX10_areAlike_56
    · have hf := ifF hf c3
      refine rx_aload_n hG dX10_areAlike_16 0 rfl ?_
      refine gfM_M_71_0 l E T hG dX10_areAlike_17 ?_
      refine rx_bipush hG 49 dX10_areAlike_20 bp_49 ?_
      refine rx_iload_n hG dX10_areAlike_22 1 rfl ?_
      refine rx_imul hG dX10_areAlike_23 ?_
      refine rx_iload hG dX10_areAlike_24 4 rfl ?_
      refine rx_iadd hG dX10_areAlike_26 ?_
      obtain ⟨v5, hv5, hf⟩ := bindE hf
      refine rx_iald hG (skM19 T) hv5 dX10_areAlike_27 ?_
      refine rx_aload_n hG dX10_areAlike_28 0 rfl ?_
      refine gfM_M_71_0 l E T hG dX10_areAlike_29 ?_
      refine rx_bipush hG 49 dX10_areAlike_32 bp_49 ?_
      refine rx_iload_n hG dX10_areAlike_34 2 rfl ?_
      refine rx_imul hG dX10_areAlike_35 ?_
      refine rx_iload hG dX10_areAlike_36 4 rfl ?_
      refine rx_iadd hG dX10_areAlike_38 ?_
      obtain ⟨v6, hv6, hf⟩ := bindE hf
      refine rx_iald hG (skM19 T) hv6 dX10_areAlike_39 ?_
      refine rx_icmp_ne hG 47 dX10_areAlike_40 rfl (fun c7 => ?_) (fun c7 => ?_)
      · have hf := ifF hf c7
        refine rx_iconst hG 0 dX10_areAlike_47 ic_0 ?_
        refine rx_sub hG [0, 1, 2, 4] (lv' := [(0, .ref (adr E 0)), (1, .int x1), (2, .int x2), (4, .int x4)]) rfl ?_
        exact Lj_M_areAlike_0_48 l E T hG rc5 hrc5 x1 x2 x4 0 hf
      · have hf := ifT hf c7
        refine rx_iconst hG 1 dX10_areAlike_43 ic_1 ?_
        refine rx_goto hG 48 dX10_areAlike_44 rfl ?_
        refine rx_sub hG [0, 1, 2, 4] (lv' := [(0, .ref (adr E 0)), (1, .int x1), (2, .int x2), (4, .int x4)]) rfl ?_
        exact Lj_M_areAlike_0_48 l E T hG rc5 hrc5 x1 x2 x4 1 hf
theorem Llp_M_areAlike_0_5 (l : Launch) (E : En) (T : List Sk) {a0 b0 kc ks : Nat} {r : Int32} {M : Mm} {G : Nat → List (Nat × Value) → List Value → Mm → Prop} (hG : RX l (SKM ++ T) E RX10 cX10_areAlike 5 (some .boolean) { frames := 0, cells := a0, slots := b0, locals := 0 } kc ks (some (.int r)) M G)  : ∀ (n : Nat) (x1 : Int32) (x2 : Int32) (x3 : Int32) (x4 : Int32), lp_M_areAlike_0_5  n x1 x2 x3 x4 M = some r → G 5 [(0, .ref (adr E 0)), (1, .int x1), (2, .int x2), (3, .int x3), (4, .int x4)] [] M := by
  intro n
  induction n with
  | zero => intro x1 x2 x3 x4 hf; cases hf
  | succ n ih => intro x1 x2 x3 x4 hf; exact Lblp_M_areAlike_0_5 l E T hG  (lp_M_areAlike_0_5  n) ih x1 x2 x3 x4 hf
set_option maxHeartbeats 4000000 in
set_option maxRecDepth 100000 in
theorem c_M_areAlike_0 (l : Launch) (E : En) (T : List Sk) (p0 : Int32) (p1 : Int32) {M : Mm} {r : Int32} (h : f_M_areAlike_0 p0 p1 M = some r) : Ct l (SKM ++ T) E yX10_areAlike cX10_areAlike 5 (some .boolean) 0 0 [.ref (adr E 0), .int p0, .int p1] M (some (.int r)) M := by
  refine ct_of (by decide) (Nat.le_of_ble_eq_true rfl) ?_
  intro G hG
  show G 0 [(0, .ref (adr E 0)), (1, .int p0), (2, .int p1)] [] M
  have hf := h
  unfold f_M_areAlike_0 at hf
  refine rx_iconst hG 1 dX10_areAlike_0 ic_1 ?_
  refine rx_istore_n (lv2 := [(3, .int 1), (0, .ref (adr E 0)), (1, .int p0), (2, .int p1)]) hG dX10_areAlike_1 (Nat.le_of_ble_eq_true rfl) rfl ?_
  refine rx_iconst hG 0 dX10_areAlike_2 ic_0 ?_
  refine rx_istore (lv2 := [(4, .int 0), (3, .int 1), (0, .ref (adr E 0)), (1, .int p0), (2, .int p1)]) hG dX10_areAlike_3 (Nat.le_of_ble_eq_true rfl) rfl ?_
  refine rx_sub hG [2, 3, 4, 1, 0] (lv' := [(0, .ref (adr E 0)), (1, .int p0), (2, .int p1), (3, .int 1), (4, .int 0)]) rfl ?_
  exact Llp_M_areAlike_0_5 l E T hG  FW p0 p1 1 0 hf
set_option maxHeartbeats 4000000 in
set_option maxRecDepth 100000 in
theorem Lj_M_comesAgain_0_170 (l : Launch) (E : En) (T : List Sk) {a0 b0 kc ks : Nat} {r : Int32} {M' : Mm} {G : Nat → List (Nat × Value) → List Value → Mm → Prop} (hG : RX l (SKM ++ T) E RX10 cX10_comesAgain 6 (some .int) { frames := 7, cells := a0, slots := b0, locals := 170 } kc ks (some (.int r)) M' G) (rc98 : Int32 → Int32 → Int32 → Int32 → Mm → Option (Int32 × Mm)) (hrc98 : ∀ (x1 : Int32) (x2 : Int32) (x3 : Int32) (x4 : Int32) (M : Mm), rc98 x1 x2 x3 x4 M = some (r, M') → G 98 [(0, .ref (adr E 0)), (1, .int x1), (2, .int x2), (3, .int x3), (4, .int x4)] [] M) : ∀ (x1 : Int32) (x2 : Int32) (x3 : Int32) (x4 : Int32) (M : Mm), j_M_comesAgain_0_170 rc98 x1 x2 x3 x4 M = some (r, M') → G 170 [(0, .ref (adr E 0)), (1, .int x1), (2, .int x2), (3, .int x3), (4, .int x4)] [] M := by
  intro x1 x2 x3 x4 M hf
  unfold j_M_comesAgain_0_170 at hf
  refine rx_iinc (lv2 := [(4, .int (x4 + 1)), (0, .ref (adr E 0)), (1, .int x1), (2, .int x2), (3, .int x3)]) hG 1 dX10_comesAgain_170 ic_1 4 rfl (Nat.le_of_ble_eq_true rfl) rfl ?_
  refine rx_goto hG 98 dX10_comesAgain_173 rfl ?_
  refine rx_sub hG [1, 2, 3, 4, 0] (lv' := [(0, .ref (adr E 0)), (1, .int x1), (2, .int x2), (3, .int x3), (4, .int (x4 + 1))]) rfl ?_
  exact hrc98 x1 x2 x3 (x4 + 1) M hf
set_option maxHeartbeats 4000000 in
set_option maxRecDepth 100000 in
theorem Lj_M_comesAgain_0_145 (l : Launch) (E : En) (T : List Sk) {a0 b0 kc ks : Nat} {r : Int32} {M' : Mm} {G : Nat → List (Nat × Value) → List Value → Mm → Prop} (hG : RX l (SKM ++ T) E RX10 cX10_comesAgain 6 (some .int) { frames := 7, cells := a0, slots := b0, locals := 170 } kc ks (some (.int r)) M' G)  : ∀ (x2 : Int32) (x4 : Int32) (x5 : Int32) (M : Mm), j_M_comesAgain_0_145  x2 x4 x5 M = some (r, M') → G 145 [(0, .ref (adr E 0)), (2, .int x2), (4, .int x4), (5, .int x5)] [] M := by
  intro x2 x4 x5 M hf
  unfold j_M_comesAgain_0_145 at hf
  refine rx_aload_n hG dX10_comesAgain_145 0 rfl ?_
  refine rx_iload_n hG dX10_comesAgain_146 1 rfl ?_
  refine rx_if_ne hG 155 dX10_comesAgain_147 rfl (fun c1 => ?_) (fun c1 => ?_)
  · have hf := ifF hf c1
    refine rx_iload hG dX10_comesAgain_155 2 rfl ?_
    refine rx_iload hG dX10_comesAgain_157 3 rfl ?_
    refine rx_isub hG dX10_comesAgain_159 ?_
    obtain ⟨q2, hq2, hf⟩ := bindE hf
    refine rx_cVi hG (c_M_good_0 l E T (x4 - x5) hq2) (skM0 T) rfl rfl kw_M_245 ⟨Nat.le_of_ble_eq_true rfl, Nat.le_of_ble_eq_true rfl⟩ rfl (Nat.le_of_ble_eq_true rfl) dX10_comesAgain_160 ?_
    cases hf
    exact rx_iret hG dX10_comesAgain_163
  · have hf := ifT hf c1
    refine rx_iload hG dX10_comesAgain_150 2 rfl ?_
    refine rx_goto hG 160 dX10_comesAgain_152 rfl ?_
    obtain ⟨q3, hq3, hf⟩ := bindE hf
    refine rx_cVi hG (c_M_good_0 l E T x4 hq3) (skM0 T) rfl rfl kw_M_245 ⟨Nat.le_of_ble_eq_true rfl, Nat.le_of_ble_eq_true rfl⟩ rfl (Nat.le_of_ble_eq_true rfl) dX10_comesAgain_160 ?_
    cases hf
    exact rx_iret hG dX10_comesAgain_163
set_option maxHeartbeats 4000000 in
set_option maxRecDepth 100000 in
theorem Lblp_M_comesAgain_0_128 (l : Launch) (E : En) (T : List Sk) {a0 b0 kc ks : Nat} {r : Int32} {M' : Mm} {G : Nat → List (Nat × Value) → List Value → Mm → Prop} (hG : RX l (SKM ++ T) E RX10 cX10_comesAgain 6 (some .int) { frames := 7, cells := a0, slots := b0, locals := 170 } kc ks (some (.int r)) M' G) (rc98 : Int32 → Int32 → Int32 → Int32 → Mm → Option (Int32 × Mm)) (hrc98 : ∀ (x1 : Int32) (x2 : Int32) (x3 : Int32) (x4 : Int32) (M : Mm), rc98 x1 x2 x3 x4 M = some (r, M') → G 98 [(0, .ref (adr E 0)), (1, .int x1), (2, .int x2), (3, .int x3), (4, .int x4)] [] M) (rc128 : Int32 → Int32 → Int32 → Int32 → Int32 → Mm → Option (Int32 × Mm)) (hrc128 : ∀ (x1 : Int32) (x2 : Int32) (x3 : Int32) (x4 : Int32) (x5 : Int32) (M : Mm), rc128 x1 x2 x3 x4 x5 M = some (r, M') → G 128 [(0, .ref (adr E 0)), (1, .int x1), (2, .int x2), (3, .int x3), (4, .int x4), (5, .int x5)] [] M) : ∀ (x1 : Int32) (x2 : Int32) (x3 : Int32) (x4 : Int32) (x5 : Int32) (M : Mm), blp_M_comesAgain_0_128 rc98 rc128 x1 x2 x3 x4 x5 M = some (r, M') → G 128 [(0, .ref (adr E 0)), (1, .int x1), (2, .int x2), (3, .int x3), (4, .int x4), (5, .int x5)] [] M := by
  intro x1 x2 x3 x4 x5 M hf
  unfold blp_M_comesAgain_0_128 at hf
  refine rx_iload hG dX10_comesAgain_128 5 rfl ?_
  refine rx_iload_n hG dX10_comesAgain_130 3 rfl ?_
  refine rx_icmp_lt hG 170 dX10_comesAgain_131 rfl (fun c1 => ?_) (fun c1 => ?_)
  · have hf := ifT hf c1
    refine rx_sub hG [0, 1, 2, 3, 4] (lv' := [(0, .ref (adr E 0)), (1, .int x1), (2, .int x2), (3, .int x3), (4, .int x4)]) rfl ?_
    exact Lj_M_comesAgain_0_170 l E T hG rc98 hrc98 x1 x2 x3 x4 M hf
  · have hf := ifF hf c1
    refine rx_aload_n hG dX10_comesAgain_134 0 rfl ?_
    refine rx_iload hG dX10_comesAgain_135 4 rfl ?_
    refine rx_iload hG dX10_comesAgain_137 5 rfl ?_
    obtain ⟨v2, hv2, hf⟩ := bindE hf
    refine rx_cVi hG (c_M_areAlike_0 l E T x4 x5 hv2) (skM0 T) rfl rfl kw_M_360 ⟨Nat.le_of_ble_eq_true rfl, Nat.le_of_ble_eq_true rfl⟩ rfl (Nat.le_of_ble_eq_true rfl) dX10_comesAgain_139 ?_
    refine rx_if_eq hG 164 dX10_comesAgain_142 rfl (fun c3 => ?_) (fun c3 => ?_)
    · have hf := ifT hf c3
      refine rx_iinc (lv2 := [(5, .int (x5 + (-1))), (0, .ref (adr E 0)), (1, .int x1), (2, .int x2), (3, .int x3), (4, .int x4)]) hG (-1) dX10_comesAgain_164 ic_m1 5 rfl (Nat.le_of_ble_eq_true rfl) rfl ?_
      refine rx_goto hG 128 dX10_comesAgain_167 rfl ?_
      refine rx_sub hG [1, 2, 3, 4, 5, 0] (lv' := [(0, .ref (adr E 0)), (1, .int x1), (2, .int x2), (3, .int x3), (4, .int x4), (5, .int (x5 + (-1)))]) rfl ?_
      exact hrc128 x1 x2 x3 x4 (x5 + (-1)) M hf
    · have hf := ifF hf c3
      refine rx_sub hG [0, 2, 4, 5] (lv' := [(0, .ref (adr E 0)), (2, .int x2), (4, .int x4), (5, .int x5)]) rfl ?_
      exact Lj_M_comesAgain_0_145 l E T hG  x2 x4 x5 M hf
theorem Llp_M_comesAgain_0_128 (l : Launch) (E : En) (T : List Sk) {a0 b0 kc ks : Nat} {r : Int32} {M' : Mm} {G : Nat → List (Nat × Value) → List Value → Mm → Prop} (hG : RX l (SKM ++ T) E RX10 cX10_comesAgain 6 (some .int) { frames := 7, cells := a0, slots := b0, locals := 170 } kc ks (some (.int r)) M' G) (rc98 : Int32 → Int32 → Int32 → Int32 → Mm → Option (Int32 × Mm)) (hrc98 : ∀ (x1 : Int32) (x2 : Int32) (x3 : Int32) (x4 : Int32) (M : Mm), rc98 x1 x2 x3 x4 M = some (r, M') → G 98 [(0, .ref (adr E 0)), (1, .int x1), (2, .int x2), (3, .int x3), (4, .int x4)] [] M) : ∀ (n : Nat) (x1 : Int32) (x2 : Int32) (x3 : Int32) (x4 : Int32) (x5 : Int32) (M : Mm), lp_M_comesAgain_0_128 rc98 n x1 x2 x3 x4 x5 M = some (r, M') → G 128 [(0, .ref (adr E 0)), (1, .int x1), (2, .int x2), (3, .int x3), (4, .int x4), (5, .int x5)] [] M := by
  intro n
  induction n with
  | zero => intro x1 x2 x3 x4 x5 M hf; cases hf
  | succ n ih => intro x1 x2 x3 x4 x5 M hf; exact Lblp_M_comesAgain_0_128 l E T hG rc98 hrc98 (lp_M_comesAgain_0_128 rc98 n) ih x1 x2 x3 x4 x5 M hf
set_option maxHeartbeats 4000000 in
set_option maxRecDepth 100000 in
theorem Lblp_M_comesAgain_0_98 (l : Launch) (E : En) (T : List Sk) {a0 b0 kc ks : Nat} {r : Int32} {M' : Mm} {G : Nat → List (Nat × Value) → List Value → Mm → Prop} (hG : RX l (SKM ++ T) E RX10 cX10_comesAgain 6 (some .int) { frames := 7, cells := a0, slots := b0, locals := 170 } kc ks (some (.int r)) M' G) (rc98 : Int32 → Int32 → Int32 → Int32 → Mm → Option (Int32 × Mm)) (hrc98 : ∀ (x1 : Int32) (x2 : Int32) (x3 : Int32) (x4 : Int32) (M : Mm), rc98 x1 x2 x3 x4 M = some (r, M') → G 98 [(0, .ref (adr E 0)), (1, .int x1), (2, .int x2), (3, .int x3), (4, .int x4)] [] M) : ∀ (x1 : Int32) (x2 : Int32) (x3 : Int32) (x4 : Int32) (M : Mm), blp_M_comesAgain_0_98 rc98 x1 x2 x3 x4 M = some (r, M') → G 98 [(0, .ref (adr E 0)), (1, .int x1), (2, .int x2), (3, .int x3), (4, .int x4)] [] M := by
  intro x1 x2 x3 x4 M hf
  unfold blp_M_comesAgain_0_98 at hf
  refine rx_iload hG dX10_comesAgain_98 4 rfl ?_
  refine rx_iload_n hG dX10_comesAgain_100 1 rfl ?_
  refine rx_icmp_ge hG 176 dX10_comesAgain_101 rfl (fun c1 => ?_) (fun c1 => ?_)
  · have hf := ifT hf c1
    refine rx_aload_n hG dX10_comesAgain_176 0 rfl ?_
    refine rx_bipush hG (-2) dX10_comesAgain_177 bp_m2 ?_
    obtain ⟨q2, hq2, hf⟩ := bindE hf
    refine rx_cVi hG (c_M_good_0 l E T (-2) hq2) (skM0 T) rfl rfl kw_M_245 ⟨Nat.le_of_ble_eq_true rfl, Nat.le_of_ble_eq_true rfl⟩ rfl (Nat.le_of_ble_eq_true rfl) dX10_comesAgain_179 ?_
    cases hf
    exact rx_iret hG dX10_comesAgain_182
  · have hf := ifF hf c1
    refine rx_aload_n hG dX10_comesAgain_104 0 rfl ?_
    refine rx_aload_n hG dX10_comesAgain_105 0 rfl ?_
    refine gfM_M_60_0 l E T hG dX10_comesAgain_106 ?_
    refine rx_aload_n hG dX10_comesAgain_109 0 rfl ?_
    refine gfM_M_48_0 l E T hG dX10_comesAgain_110 ?_
    obtain ⟨M3, hM3, hf⟩ := bindE hf
    refine rx_cVv hG (c_M_minute_0_16_12 l E T  hM3) (skM0 T) rfl rfl kw_M_329 ⟨Nat.le_of_ble_eq_true rfl, Nat.le_of_ble_eq_true rfl⟩ rfl (Nat.le_of_ble_eq_true rfl) dX10_comesAgain_113 ?_
    refine rx_aload_n hG dX10_comesAgain_116 0 rfl ?_
    refine rx_iload hG dX10_comesAgain_117 4 rfl ?_
    obtain ⟨M4, hM4, hf⟩ := bindE hf
    refine rx_cVv hG (c_M_laysStand_0 l E T x4 hM4) (skM0 T) rfl rfl kw_M_357 ⟨Nat.le_of_ble_eq_true rfl, Nat.le_of_ble_eq_true rfl⟩ rfl (Nat.le_of_ble_eq_true rfl) dX10_comesAgain_119 ?_
    refine rx_iload hG dX10_comesAgain_122 4 rfl ?_
    refine rx_iconst hG 1 dX10_comesAgain_124 ic_1 ?_
    refine rx_isub hG dX10_comesAgain_125 ?_
    refine rx_istore (lv2 := [(5, .int (x4 - 1)), (0, .ref (adr E 0)), (1, .int x1), (2, .int x2), (3, .int x3), (4, .int x4)]) hG dX10_comesAgain_126 (Nat.le_of_ble_eq_true rfl) rfl ?_
    refine rx_sub hG [1, 2, 3, 4, 5, 0] (lv' := [(0, .ref (adr E 0)), (1, .int x1), (2, .int x2), (3, .int x3), (4, .int x4), (5, .int (x4 - 1))]) rfl ?_
    exact Llp_M_comesAgain_0_128 l E T hG rc98 hrc98 FW x1 x2 x3 x4 (x4 - 1) M4 hf
theorem Llp_M_comesAgain_0_98 (l : Launch) (E : En) (T : List Sk) {a0 b0 kc ks : Nat} {r : Int32} {M' : Mm} {G : Nat → List (Nat × Value) → List Value → Mm → Prop} (hG : RX l (SKM ++ T) E RX10 cX10_comesAgain 6 (some .int) { frames := 7, cells := a0, slots := b0, locals := 170 } kc ks (some (.int r)) M' G)  : ∀ (n : Nat) (x1 : Int32) (x2 : Int32) (x3 : Int32) (x4 : Int32) (M : Mm), lp_M_comesAgain_0_98  n x1 x2 x3 x4 M = some (r, M') → G 98 [(0, .ref (adr E 0)), (1, .int x1), (2, .int x2), (3, .int x3), (4, .int x4)] [] M := by
  intro n
  induction n with
  | zero => intro x1 x2 x3 x4 M hf; cases hf
  | succ n ih => intro x1 x2 x3 x4 M hf; exact Lblp_M_comesAgain_0_98 l E T hG  (lp_M_comesAgain_0_98  n) ih x1 x2 x3 x4 M hf
set_option maxHeartbeats 4000000 in
set_option maxRecDepth 100000 in
theorem Lj_M_comesAgain_0_83 (l : Launch) (E : En) (T : List Sk) {a0 b0 kc ks : Nat} {r : Int32} {M' : Mm} {G : Nat → List (Nat × Value) → List Value → Mm → Prop} (hG : RX l (SKM ++ T) E RX10 cX10_comesAgain 6 (some .int) { frames := 7, cells := a0, slots := b0, locals := 170 } kc ks (some (.int r)) M' G)  : ∀ (x1 : Int32) (x2 : Int32) (x3 : Int32) (M : Mm), j_M_comesAgain_0_83  x1 x2 x3 M = some (r, M') → G 83 [(0, .ref (adr E 0)), (1, .int x1), (2, .int x2), (3, .int x3)] [] M := by
  intro x1 x2 x3 M hf
  unfold j_M_comesAgain_0_83 at hf
  refine rx_aload_n hG dX10_comesAgain_83 0 rfl ?_
  obtain ⟨M1, hM1, hf⟩ := bindE hf
  refine rx_cVv hG (c_M_papers_0 l E T  hM1) (skM0 T) rfl rfl kw_M_342 ⟨Nat.le_of_ble_eq_true rfl, Nat.le_of_ble_eq_true rfl⟩ rfl (Nat.le_of_ble_eq_true rfl) dX10_comesAgain_84 ?_
  refine rx_aload_n hG dX10_comesAgain_87 0 rfl ?_
  refine rx_aload_n hG dX10_comesAgain_88 0 rfl ?_
  refine gfM_M_60_0 l E T hG dX10_comesAgain_89 ?_
  obtain ⟨M2, hM2, hf⟩ := bindE hf
  refine rx_cVv hG (c_M_begins_0_16 l E T  hM2) (skM0 T) rfl rfl kw_M_260 ⟨Nat.le_of_ble_eq_true rfl, Nat.le_of_ble_eq_true rfl⟩ rfl (Nat.le_of_ble_eq_true rfl) dX10_comesAgain_92 ?_
  refine rx_iconst hG 0 dX10_comesAgain_95 ic_0 ?_
  refine rx_istore (lv2 := [(4, .int 0), (0, .ref (adr E 0)), (1, .int x1), (2, .int x2), (3, .int x3)]) hG dX10_comesAgain_96 (Nat.le_of_ble_eq_true rfl) rfl ?_
  refine rx_sub hG [1, 2, 3, 4, 0] (lv' := [(0, .ref (adr E 0)), (1, .int x1), (2, .int x2), (3, .int x3), (4, .int 0)]) rfl ?_
  exact Llp_M_comesAgain_0_98 l E T hG  FW x1 x2 x3 0 M2 hf
set_option maxHeartbeats 4000000 in
set_option maxRecDepth 100000 in
theorem Lj_M_comesAgain_0_76 (l : Launch) (E : En) (T : List Sk) {a0 b0 kc ks : Nat} {r : Int32} {M' : Mm} {G : Nat → List (Nat × Value) → List Value → Mm → Prop} (hG : RX l (SKM ++ T) E RX10 cX10_comesAgain 6 (some .int) { frames := 7, cells := a0, slots := b0, locals := 170 } kc ks (some (.int r)) M' G) (rc45 : Int32 → Int32 → Int32 → Int32 → Mm → Option (Int32 × Mm)) (hrc45 : ∀ (x1 : Int32) (x2 : Int32) (x3 : Int32) (x4 : Int32) (M : Mm), rc45 x1 x2 x3 x4 M = some (r, M') → G 45 [(0, .ref (adr E 0)), (1, .int x1), (2, .int x2), (3, .int x3), (4, .int x4)] [] M) : ∀ (x1 : Int32) (x2 : Int32) (x4 : Int32) (t0 : Int32) (M : Mm), j_M_comesAgain_0_76 rc45 x1 x2 x4 t0 M = some (r, M') → G 76 [(0, .ref (adr E 0)), (1, .int x1), (2, .int x2), (4, .int x4)] [.int t0] M := by
  intro x1 x2 x4 t0 M hf
  unfold j_M_comesAgain_0_76 at hf
  refine rx_istore_n (lv2 := [(3, .int t0), (0, .ref (adr E 0)), (1, .int x1), (2, .int x2), (4, .int x4)]) hG dX10_comesAgain_76 (Nat.le_of_ble_eq_true rfl) rfl ?_
  refine rx_iinc (lv2 := [(4, .int (x4 + 1)), (3, .int t0), (0, .ref (adr E 0)), (1, .int x1), (2, .int x2)]) hG 1 dX10_comesAgain_77 ic_1 4 rfl (Nat.le_of_ble_eq_true rfl) rfl ?_
  refine rx_goto hG 45 dX10_comesAgain_80 rfl ?_
  refine rx_sub hG [2, 3, 4, 1, 0] (lv' := [(0, .ref (adr E 0)), (1, .int x1), (2, .int x2), (3, .int t0), (4, .int (x4 + 1))]) rfl ?_
  exact hrc45 x1 x2 t0 (x4 + 1) M hf
set_option maxHeartbeats 4000000 in
set_option maxRecDepth 100000 in
theorem Lblp_M_comesAgain_0_45 (l : Launch) (E : En) (T : List Sk) {a0 b0 kc ks : Nat} {r : Int32} {M' : Mm} {G : Nat → List (Nat × Value) → List Value → Mm → Prop} (hG : RX l (SKM ++ T) E RX10 cX10_comesAgain 6 (some .int) { frames := 7, cells := a0, slots := b0, locals := 170 } kc ks (some (.int r)) M' G) (rc45 : Int32 → Int32 → Int32 → Int32 → Mm → Option (Int32 × Mm)) (hrc45 : ∀ (x1 : Int32) (x2 : Int32) (x3 : Int32) (x4 : Int32) (M : Mm), rc45 x1 x2 x3 x4 M = some (r, M') → G 45 [(0, .ref (adr E 0)), (1, .int x1), (2, .int x2), (3, .int x3), (4, .int x4)] [] M) : ∀ (x1 : Int32) (x2 : Int32) (x3 : Int32) (x4 : Int32) (M : Mm), blp_M_comesAgain_0_45 rc45 x1 x2 x3 x4 M = some (r, M') → G 45 [(0, .ref (adr E 0)), (1, .int x1), (2, .int x2), (3, .int x3), (4, .int x4)] [] M := by
  intro x1 x2 x3 x4 M hf
  unfold blp_M_comesAgain_0_45 at hf
  refine rx_iload hG dX10_comesAgain_45 4 rfl ?_
  refine rx_aload_n hG dX10_comesAgain_47 0 rfl ?_
  refine gfM_M_251_0 l E T hG dX10_comesAgain_48 ?_
  refine rx_icmp_ge hG 83 dX10_comesAgain_51 rfl (fun c1 => ?_) (fun c1 => ?_)
  · have hf := ifT hf c1
    refine rx_sub hG [0, 1, 2, 3] (lv' := [(0, .ref (adr E 0)), (1, .int x1), (2, .int x2), (3, .int x3)]) rfl ?_
    exact Lj_M_comesAgain_0_83 l E T hG  x1 x2 x3 M hf
  · have hf := ifF hf c1
    refine rx_aload_n hG dX10_comesAgain_54 0 rfl ?_
    refine gfM_M_39_0 l E T hG dX10_comesAgain_55 ?_
    refine rx_iload hG dX10_comesAgain_58 4 rfl ?_
    obtain ⟨v2, hv2, hf⟩ := bindE hf
    refine rx_iald hG (skM9 T) hv2 dX10_comesAgain_60 ?_
    refine rx_iload_n hG dX10_comesAgain_61 3 rfl ?_
    refine rx_icmp_le hG 75 dX10_comesAgain_62 rfl (fun c3 => ?_) (fun c3 => ?_)
    · have hf := ifT hf c3
      refine rx_iload_n hG dX10_comesAgain_75 3 rfl ?_
      refine rx_sub hG [0, 1, 2, 4] (lv' := [(0, .ref (adr E 0)), (1, .int x1), (2, .int x2), (4, .int x4)]) rfl ?_
      exact Lj_M_comesAgain_0_76 l E T hG rc45 hrc45 x1 x2 x4 x3 M hf
    · have hf := ifF hf c3
      refine rx_aload_n hG dX10_comesAgain_65 0 rfl ?_
      refine gfM_M_39_0 l E T hG dX10_comesAgain_66 ?_
      refine rx_iload hG dX10_comesAgain_69 4 rfl ?_
      obtain ⟨v4, hv4, hf⟩ := bindE hf
      refine rx_iald hG (skM9 T) hv4 dX10_comesAgain_71 ?_
      refine rx_goto hG 76 dX10_comesAgain_72 rfl ?_
      refine rx_sub hG [0, 1, 2, 4] (lv' := [(0, .ref (adr E 0)), (1, .int x1), (2, .int x2), (4, .int x4)]) rfl ?_
      exact Lj_M_comesAgain_0_76 l E T hG rc45 hrc45 x1 x2 x4 v4 M hf
theorem Llp_M_comesAgain_0_45 (l : Launch) (E : En) (T : List Sk) {a0 b0 kc ks : Nat} {r : Int32} {M' : Mm} {G : Nat → List (Nat × Value) → List Value → Mm → Prop} (hG : RX l (SKM ++ T) E RX10 cX10_comesAgain 6 (some .int) { frames := 7, cells := a0, slots := b0, locals := 170 } kc ks (some (.int r)) M' G)  : ∀ (n : Nat) (x1 : Int32) (x2 : Int32) (x3 : Int32) (x4 : Int32) (M : Mm), lp_M_comesAgain_0_45  n x1 x2 x3 x4 M = some (r, M') → G 45 [(0, .ref (adr E 0)), (1, .int x1), (2, .int x2), (3, .int x3), (4, .int x4)] [] M := by
  intro n
  induction n with
  | zero => intro x1 x2 x3 x4 M hf; cases hf
  | succ n ih => intro x1 x2 x3 x4 M hf; exact Lblp_M_comesAgain_0_45 l E T hG  (lp_M_comesAgain_0_45  n) ih x1 x2 x3 x4 M hf
set_option maxHeartbeats 4000000 in
set_option maxRecDepth 100000 in
theorem c_M_comesAgain_0 (l : Launch) (E : En) (T : List Sk) (p0 : Int32) (p1 : Int32) {M M' : Mm} {r : Int32} (h : f_M_comesAgain_0 p0 p1 M = some (r, M')) : Ct l (SKM ++ T) E yX10_comesAgain cX10_comesAgain 6 (some .int) 7 170 [.ref (adr E 0), .int p0, .int p1] M (some (.int r)) M' := by
  refine ct_of (by decide) (Nat.le_of_ble_eq_true rfl) ?_
  intro G hG
  show G 0 [(0, .ref (adr E 0)), (1, .int p0), (2, .int p1)] [] M
  have hf := h
  unfold f_M_comesAgain_0 at hf
  refine rx_aload_n hG dX10_comesAgain_0 0 rfl ?_
  refine rx_iconst hG 0 dX10_comesAgain_1 ic_0 ?_
  obtain ⟨M1, hM1, hf⟩ := bindE hf
  refine pfM_M_74_0 l E T hG hM1 dX10_comesAgain_2 ?_
  refine rx_aload_n hG dX10_comesAgain_5 0 rfl ?_
  refine gfM_M_257_0 l E T hG dX10_comesAgain_6 ?_
  refine rx_if_eq hG 21 dX10_comesAgain_9 rfl (fun c2 => ?_) (fun c2 => ?_)
  · have hf := ifT hf c2
    refine rx_aload_n hG dX10_comesAgain_21 0 rfl ?_
    refine rx_iconst hG 1 dX10_comesAgain_22 ic_1 ?_
    obtain ⟨q3, hq3, hf⟩ := bindE hf
    refine rx_cVi hG (c_M_refused_0 l E T 1 hq3) (skM0 T) rfl rfl kw_M_232 ⟨Nat.le_of_ble_eq_true rfl, Nat.le_of_ble_eq_true rfl⟩ rfl (Nat.le_of_ble_eq_true rfl) dX10_comesAgain_23 ?_
    cases hf
    exact rx_iret hG dX10_comesAgain_26
  · have hf := ifF hf c2
    refine rx_iload_n hG dX10_comesAgain_12 2 rfl ?_
    refine rx_iconst hG 0 dX10_comesAgain_13 ic_0 ?_
    refine rx_iconst hG 1 dX10_comesAgain_14 ic_1 ?_
    obtain ⟨v4, hv4, hf⟩ := bindE hf
    refine rx_cSi hG (c_M_in l E (SKM ++ T) p1 0 1 hv4) kw_M_95 ⟨Nat.le_of_ble_eq_true rfl, Nat.le_of_ble_eq_true rfl⟩ rfl (Nat.le_of_ble_eq_true rfl) dX10_comesAgain_15 ?_
    refine rx_if_ne hG 27 dX10_comesAgain_18 rfl (fun c5 => ?_) (fun c5 => ?_)
    · have hf := ifF hf c5
      refine rx_iload_n hG dX10_comesAgain_27 1 rfl ?_
      obtain ⟨v6, hv6, hf⟩ := bindE hf
      refine rx_cSi hG (c_M_isTerm l E (SKM ++ T) p0 hv6) kw_M_348 ⟨Nat.le_of_ble_eq_true rfl, Nat.le_of_ble_eq_true rfl⟩ rfl (Nat.le_of_ble_eq_true rfl) dX10_comesAgain_28 ?_
      refine rx_if_ne hG 40 dX10_comesAgain_31 rfl (fun c7 => ?_) (fun c7 => ?_)
      · have hf := ifF hf c7
        refine rx_iconst hG 0 dX10_comesAgain_40 ic_0 ?_
        refine rx_istore_n (lv2 := [(3, .int 0), (0, .ref (adr E 0)), (1, .int p0), (2, .int p1)]) hG dX10_comesAgain_41 (Nat.le_of_ble_eq_true rfl) rfl ?_
        refine rx_iconst hG 0 dX10_comesAgain_42 ic_0 ?_
        refine rx_istore (lv2 := [(4, .int 0), (3, .int 0), (0, .ref (adr E 0)), (1, .int p0), (2, .int p1)]) hG dX10_comesAgain_43 (Nat.le_of_ble_eq_true rfl) rfl ?_
        refine rx_sub hG [2, 3, 4, 1, 0] (lv' := [(0, .ref (adr E 0)), (1, .int p0), (2, .int p1), (3, .int 0), (4, .int 0)]) rfl ?_
        exact Llp_M_comesAgain_0_45 l E T hG  FW p0 p1 0 0 M1 hf
      · have hf := ifT hf c7
        refine rx_aload_n hG dX10_comesAgain_34 0 rfl ?_
        refine rx_iconst hG 2 dX10_comesAgain_35 ic_2 ?_
        obtain ⟨q8, hq8, hf⟩ := bindE hf
        refine rx_cVi hG (c_M_refused_0 l E T 2 hq8) (skM0 T) rfl rfl kw_M_232 ⟨Nat.le_of_ble_eq_true rfl, Nat.le_of_ble_eq_true rfl⟩ rfl (Nat.le_of_ble_eq_true rfl) dX10_comesAgain_36 ?_
        cases hf
        exact rx_iret hG dX10_comesAgain_39
    · have hf := ifT hf c5
      refine rx_aload_n hG dX10_comesAgain_21 0 rfl ?_
      refine rx_iconst hG 1 dX10_comesAgain_22 ic_1 ?_
      obtain ⟨q9, hq9, hf⟩ := bindE hf
      refine rx_cVi hG (c_M_refused_0 l E T 1 hq9) (skM0 T) rfl rfl kw_M_232 ⟨Nat.le_of_ble_eq_true rfl, Nat.le_of_ble_eq_true rfl⟩ rfl (Nat.le_of_ble_eq_true rfl) dX10_comesAgain_23 ?_
      cases hf
      exact rx_iret hG dX10_comesAgain_26
set_option maxHeartbeats 4000000 in
set_option maxRecDepth 100000 in
theorem Lblp_M_remembers_0_55 (l : Launch) (E : En) (T : List Sk) {a0 b0 kc ks : Nat} {M' : Mm} {G : Nat → List (Nat × Value) → List Value → Mm → Prop} (hG : RX l (SKM ++ T) E RX10 cX10_remembers 2 none { frames := 0, cells := a0, slots := b0, locals := 0 } kc ks none M' G) (rc55 : Int32 → Mm → Option Mm) (hrc55 : ∀ (x1 : Int32) (M : Mm), rc55 x1 M = some M' → G 55 [(0, .ref (adr E 0)), (1, .int x1)] [] M) : ∀ (x1 : Int32) (M : Mm), blp_M_remembers_0_55 rc55 x1 M = some M' → G 55 [(0, .ref (adr E 0)), (1, .int x1)] [] M := by
  intro x1 M hf
  unfold blp_M_remembers_0_55 at hf
  refine rx_iload_n hG dX10_remembers_55 1 rfl ?_
  refine rx_bipush hG 37 dX10_remembers_56 bp_37 ?_
  refine rx_icmp_ge hG 87 dX10_remembers_58 rfl (fun c1 => ?_) (fun c1 => ?_)
  · have hf := ifT hf c1
    refine rx_aload_n hG dX10_remembers_87 0 rfl ?_
    refine rx_dup hG dX10_remembers_88 rfl ?_
    refine gfM_M_254_0 l E T hG dX10_remembers_89 ?_
    refine rx_iconst hG 1 dX10_remembers_92 ic_1 ?_
    refine rx_iadd hG dX10_remembers_93 ?_
    obtain ⟨M2, hM2, hf⟩ := bindE hf
    refine pfM_M_254_0 l E T hG hM2 dX10_remembers_94 ?_
    cases hf
    exact rx_vret hG dX10_remembers_97
  · have hf := ifF hf c1
    refine rx_aload_n hG dX10_remembers_61 0 rfl ?_
    refine gfM_M_51_0 l E T hG dX10_remembers_62 ?_
    refine rx_aload_n hG dX10_remembers_65 0 rfl ?_
    refine gfM_M_254_0 l E T hG dX10_remembers_66 ?_
    refine rx_bipush hG 37 dX10_remembers_69 bp_37 ?_
    refine rx_imul hG dX10_remembers_71 ?_
    refine rx_iload_n hG dX10_remembers_72 1 rfl ?_
    refine rx_iadd hG dX10_remembers_73 ?_
    refine rx_aload_n hG dX10_remembers_74 0 rfl ?_
    refine gfM_M_42_0 l E T hG dX10_remembers_75 ?_
    refine rx_iload_n hG dX10_remembers_78 1 rfl ?_
    obtain ⟨v3, hv3, hf⟩ := bindE hf
    refine rx_iald hG (skM10 T) hv3 dX10_remembers_79 ?_
    obtain ⟨M4, hM4, hf⟩ := bindE hf
    refine rx_iast hG (skM13 T) hM4 dX10_remembers_80 ?_
    refine rx_iinc (lv2 := [(1, .int (x1 + 1)), (0, .ref (adr E 0))]) hG 1 dX10_remembers_81 ic_1 1 rfl (Nat.le_of_ble_eq_true rfl) rfl ?_
    refine rx_goto hG 55 dX10_remembers_84 rfl ?_
    refine rx_sub hG [1, 0] (lv' := [(0, .ref (adr E 0)), (1, .int (x1 + 1))]) rfl ?_
    exact hrc55 (x1 + 1) M4 hf
theorem Llp_M_remembers_0_55 (l : Launch) (E : En) (T : List Sk) {a0 b0 kc ks : Nat} {M' : Mm} {G : Nat → List (Nat × Value) → List Value → Mm → Prop} (hG : RX l (SKM ++ T) E RX10 cX10_remembers 2 none { frames := 0, cells := a0, slots := b0, locals := 0 } kc ks none M' G)  : ∀ (n : Nat) (x1 : Int32) (M : Mm), lp_M_remembers_0_55  n x1 M = some M' → G 55 [(0, .ref (adr E 0)), (1, .int x1)] [] M := by
  intro n
  induction n with
  | zero => intro x1 M hf; cases hf
  | succ n ih => intro x1 M hf; exact Lblp_M_remembers_0_55 l E T hG  (lp_M_remembers_0_55  n) ih x1 M hf
set_option maxHeartbeats 4000000 in
set_option maxRecDepth 100000 in
theorem Lj_M_remembers_0_53 (l : Launch) (E : En) (T : List Sk) {a0 b0 kc ks : Nat} {M' : Mm} {G : Nat → List (Nat × Value) → List Value → Mm → Prop} (hG : RX l (SKM ++ T) E RX10 cX10_remembers 2 none { frames := 0, cells := a0, slots := b0, locals := 0 } kc ks none M' G)  : ∀  (M : Mm), j_M_remembers_0_53  M = some M' → G 53 [(0, .ref (adr E 0))] [] M := by
  intro M hf
  unfold j_M_remembers_0_53 at hf
  refine rx_iconst hG 0 dX10_remembers_53 ic_0 ?_
  refine rx_istore_n (lv2 := [(1, .int 0), (0, .ref (adr E 0))]) hG dX10_remembers_54 (Nat.le_of_ble_eq_true rfl) rfl ?_
  refine rx_sub hG [1, 0] (lv' := [(0, .ref (adr E 0)), (1, .int 0)]) rfl ?_
  exact Llp_M_remembers_0_55 l E T hG  FW 0 M hf
set_option maxHeartbeats 4000000 in
set_option maxRecDepth 100000 in
theorem Lblp_M_remembers_0_21 (l : Launch) (E : En) (T : List Sk) {a0 b0 kc ks : Nat} {M' : Mm} {G : Nat → List (Nat × Value) → List Value → Mm → Prop} (hG : RX l (SKM ++ T) E RX10 cX10_remembers 2 none { frames := 0, cells := a0, slots := b0, locals := 0 } kc ks none M' G) (rc21 : Int32 → Mm → Option Mm) (hrc21 : ∀ (x1 : Int32) (M : Mm), rc21 x1 M = some M' → G 21 [(0, .ref (adr E 0)), (1, .int x1)] [] M) : ∀ (x1 : Int32) (M : Mm), blp_M_remembers_0_21 rc21 x1 M = some M' → G 21 [(0, .ref (adr E 0)), (1, .int x1)] [] M := by
  intro x1 M hf
  unfold blp_M_remembers_0_21 at hf
  refine rx_iload_n hG dX10_remembers_21 1 rfl ?_
  refine rx_aload_n hG dX10_remembers_22 0 rfl ?_
  refine gfM_M_254_0 l E T hG dX10_remembers_23 ?_
  refine rx_bipush hG 37 dX10_remembers_26 bp_37 ?_
  refine rx_imul hG dX10_remembers_28 ?_
  refine rx_icmp_ge hG 53 dX10_remembers_29 rfl (fun c1 => ?_) (fun c1 => ?_)
  · have hf := ifT hf c1
    refine rx_sub hG [0] (lv' := [(0, .ref (adr E 0))]) rfl ?_
    exact Lj_M_remembers_0_53 l E T hG  M hf
  · have hf := ifF hf c1
    refine rx_aload_n hG dX10_remembers_32 0 rfl ?_
    refine gfM_M_51_0 l E T hG dX10_remembers_33 ?_
    refine rx_iload_n hG dX10_remembers_36 1 rfl ?_
    refine rx_aload_n hG dX10_remembers_37 0 rfl ?_
    refine gfM_M_51_0 l E T hG dX10_remembers_38 ?_
    refine rx_iload_n hG dX10_remembers_41 1 rfl ?_
    refine rx_bipush hG 37 dX10_remembers_42 bp_37 ?_
    refine rx_iadd hG dX10_remembers_44 ?_
    obtain ⟨v2, hv2, hf⟩ := bindE hf
    refine rx_iald hG (skM13 T) hv2 dX10_remembers_45 ?_
    obtain ⟨M3, hM3, hf⟩ := bindE hf
    refine rx_iast hG (skM13 T) hM3 dX10_remembers_46 ?_
    refine rx_iinc (lv2 := [(1, .int (x1 + 1)), (0, .ref (adr E 0))]) hG 1 dX10_remembers_47 ic_1 1 rfl (Nat.le_of_ble_eq_true rfl) rfl ?_
    refine rx_goto hG 21 dX10_remembers_50 rfl ?_
    refine rx_sub hG [1, 0] (lv' := [(0, .ref (adr E 0)), (1, .int (x1 + 1))]) rfl ?_
    exact hrc21 (x1 + 1) M3 hf
theorem Llp_M_remembers_0_21 (l : Launch) (E : En) (T : List Sk) {a0 b0 kc ks : Nat} {M' : Mm} {G : Nat → List (Nat × Value) → List Value → Mm → Prop} (hG : RX l (SKM ++ T) E RX10 cX10_remembers 2 none { frames := 0, cells := a0, slots := b0, locals := 0 } kc ks none M' G)  : ∀ (n : Nat) (x1 : Int32) (M : Mm), lp_M_remembers_0_21  n x1 M = some M' → G 21 [(0, .ref (adr E 0)), (1, .int x1)] [] M := by
  intro n
  induction n with
  | zero => intro x1 M hf; cases hf
  | succ n ih => intro x1 M hf; exact Lblp_M_remembers_0_21 l E T hG  (lp_M_remembers_0_21  n) ih x1 M hf
set_option maxHeartbeats 4000000 in
set_option maxRecDepth 100000 in
theorem c_M_remembers_0 (l : Launch) (E : En) (T : List Sk)  {M M' : Mm} (h : f_M_remembers_0 M = some M') : Ct l (SKM ++ T) E yX10_remembers cX10_remembers 2 none 0 0 [.ref (adr E 0)] M none M' := by
  refine ct_of (by decide) (Nat.le_of_ble_eq_true rfl) ?_
  intro G hG
  show G 0 [(0, .ref (adr E 0))] [] M
  have hf := h
  unfold f_M_remembers_0 at hf
  refine rx_aload_n hG dX10_remembers_0 0 rfl ?_
  refine gfM_M_254_0 l E T hG dX10_remembers_1 ?_
  refine rx_bipush hG 10 dX10_remembers_4 bp_10 ?_
  refine rx_icmp_ne hG 53 dX10_remembers_6 rfl (fun c1 => ?_) (fun c1 => ?_)
  · have hf := ifF hf c1
    exact Lj_M_remembers_0_53 l E T hG  M hf
  · have hf := ifT hf c1
    refine rx_aload_n hG dX10_remembers_9 0 rfl ?_
    refine rx_dup hG dX10_remembers_10 rfl ?_
    refine gfM_M_254_0 l E T hG dX10_remembers_11 ?_
    refine rx_iconst hG 1 dX10_remembers_14 ic_1 ?_
    refine rx_isub hG dX10_remembers_15 ?_
    obtain ⟨M2, hM2, hf⟩ := bindE hf
    refine pfM_M_254_0 l E T hG hM2 dX10_remembers_16 ?_
    refine rx_iconst hG 0 dX10_remembers_19 ic_0 ?_
    refine rx_istore_n (lv2 := [(1, .int 0), (0, .ref (adr E 0))]) hG dX10_remembers_20 (Nat.le_of_ble_eq_true rfl) rfl ?_
    refine rx_sub hG [1, 0] (lv' := [(0, .ref (adr E 0)), (1, .int 0)]) rfl ?_
    exact Llp_M_remembers_0_21 l E T hG  FW 0 M2 hf
set_option maxHeartbeats 4000000 in
set_option maxRecDepth 100000 in
theorem c_M_changes_0 (l : Launch) (E : En) (T : List Sk) (p0 : Int32) (p1 : Int32) {M M' : Mm} {r : Int32} (h : f_M_changes_0 p0 p1 M = some (r, M')) : Ct l (SKM ++ T) E yX10_changes cX10_changes 4 (some .int) 1 21 [.ref (adr E 0), .int p0, .int p1] M (some (.int r)) M' := by
  refine ct_of (by decide) (Nat.le_of_ble_eq_true rfl) ?_
  intro G hG
  show G 0 [(0, .ref (adr E 0)), (1, .int p0), (2, .int p1)] [] M
  have hf := h
  unfold f_M_changes_0 at hf
  refine rx_aload_n hG dX10_changes_0 0 rfl ?_
  obtain ⟨M1, hM1, hf⟩ := bindE hf
  refine rx_cVv hG (c_M_remembers_0 l E T  hM1) (skM0 T) rfl rfl kw_M_364 ⟨Nat.le_of_ble_eq_true rfl, Nat.le_of_ble_eq_true rfl⟩ rfl (Nat.le_of_ble_eq_true rfl) dX10_changes_1 ?_
  refine rx_aload_n hG dX10_changes_4 0 rfl ?_
  refine gfM_M_42_0 l E T hG dX10_changes_5 ?_
  refine rx_iload_n hG dX10_changes_8 1 rfl ?_
  obtain ⟨v2, hv2, hf⟩ := bindE hf
  refine rx_iald hG (skM10 T) hv2 dX10_changes_9 ?_
  refine rx_istore_n (lv2 := [(3, .int v2), (0, .ref (adr E 0)), (1, .int p0), (2, .int p1)]) hG dX10_changes_10 (Nat.le_of_ble_eq_true rfl) rfl ?_
  refine rx_aload_n hG dX10_changes_11 1 rfl ?_
  refine gfM_M_42_0 l E T hG dX10_changes_12 ?_
  refine rx_iload_n hG dX10_changes_15 2 rfl ?_
  refine rx_iload_n hG dX10_changes_16 3 rfl ?_
  obtain ⟨M3, hM3, hf⟩ := bindE hf
  refine rx_iast hG (skM10 T) hM3 dX10_changes_17 ?_
  refine rx_aload_n hG dX10_changes_18 1 rfl ?_
  refine rx_iload_n hG dX10_changes_19 0 rfl ?_
  obtain ⟨q4, hq4, hf⟩ := bindE hf
  refine rx_cVi hG (c_M_good_0 l E T v2 hq4) (skM0 T) rfl rfl kw_M_245 ⟨Nat.le_of_ble_eq_true rfl, Nat.le_of_ble_eq_true rfl⟩ rfl (Nat.le_of_ble_eq_true rfl) dX10_changes_20 ?_
  cases hf
  exact rx_iret hG dX10_changes_23
set_option maxHeartbeats 4000000 in
set_option maxRecDepth 100000 in
theorem c_M_cards_0 (l : Launch) (E : En) (T : List Sk) (p0 : Int32) (p1 : Int32) (p2 : Int32) {M M' : Mm} {r : Int32} (h : f_M_cards_0 p0 p1 p2 M = some (r, M')) : Ct l (SKM ++ T) E yX10_cards cX10_cards 4 (some .int) 2 44 [.ref (adr E 0), .int p0, .int p1, .int p2] M (some (.int r)) M' := by
  refine ct_of (by decide) (Nat.le_of_ble_eq_true rfl) ?_
  intro G hG
  show G 0 [(0, .ref (adr E 0)), (1, .int p0), (2, .int p1), (3, .int p2)] [] M
  have hf := h
  unfold f_M_cards_0 at hf
  refine rx_aload_n hG dX10_cards_0 0 rfl ?_
  refine rx_iconst hG 0 dX10_cards_1 ic_0 ?_
  obtain ⟨M1, hM1, hf⟩ := bindE hf
  refine pfM_M_74_0 l E T hG hM1 dX10_cards_2 ?_
  refine rx_aload_n hG dX10_cards_5 0 rfl ?_
  refine rx_iload_n hG dX10_cards_6 1 rfl ?_
  obtain ⟨v2, hv2, hf⟩ := bindE hf
  refine rx_cVi hG (c_M_isBench_0 l E T p0 hv2) (skM0 T) rfl rfl kw_M_316 ⟨Nat.le_of_ble_eq_true rfl, Nat.le_of_ble_eq_true rfl⟩ rfl (Nat.le_of_ble_eq_true rfl) dX10_cards_7 ?_
  refine rx_if_eq hG 21 dX10_cards_10 rfl (fun c3 => ?_) (fun c3 => ?_)
  · have hf := ifT hf c3
    refine rx_aload_n hG dX10_cards_21 0 rfl ?_
    refine rx_iconst hG 1 dX10_cards_22 ic_1 ?_
    obtain ⟨q4, hq4, hf⟩ := bindE hf
    refine rx_cVi hG (c_M_refused_0 l E T 1 hq4) (skM0 T) rfl rfl kw_M_232 ⟨Nat.le_of_ble_eq_true rfl, Nat.le_of_ble_eq_true rfl⟩ rfl (Nat.le_of_ble_eq_true rfl) dX10_cards_23 ?_
    cases hf
    exact rx_iret hG dX10_cards_26
  · have hf := ifF hf c3
    refine rx_aload_n hG dX10_cards_13 0 rfl ?_
    refine rx_iload_n hG dX10_cards_14 2 rfl ?_
    obtain ⟨v5, hv5, hf⟩ := bindE hf
    refine rx_cVi hG (c_M_isKind_0 l E T p1 hv5) (skM0 T) rfl rfl kw_M_319 ⟨Nat.le_of_ble_eq_true rfl, Nat.le_of_ble_eq_true rfl⟩ rfl (Nat.le_of_ble_eq_true rfl) dX10_cards_15 ?_
    refine rx_if_ne hG 27 dX10_cards_18 rfl (fun c6 => ?_) (fun c6 => ?_)
    · have hf := ifF hf c6
      refine rx_iload_n hG dX10_cards_27 3 rfl ?_
      refine rx_iconst hG 0 dX10_cards_28 ic_0 ?_
      refine rx_bipush hG 9 dX10_cards_29 bp_9 ?_
      obtain ⟨v7, hv7, hf⟩ := bindE hf
      refine rx_cSi hG (c_M_in l E (SKM ++ T) p2 0 9 hv7) kw_M_95 ⟨Nat.le_of_ble_eq_true rfl, Nat.le_of_ble_eq_true rfl⟩ rfl (Nat.le_of_ble_eq_true rfl) dX10_cards_31 ?_
      refine rx_if_eq hG 50 dX10_cards_34 rfl (fun c8 => ?_) (fun c8 => ?_)
      · have hf := ifT hf c8
        refine rx_aload_n hG dX10_cards_50 0 rfl ?_
        refine rx_iconst hG 2 dX10_cards_51 ic_2 ?_
        obtain ⟨q9, hq9, hf⟩ := bindE hf
        refine rx_cVi hG (c_M_refused_0 l E T 2 hq9) (skM0 T) rfl rfl kw_M_232 ⟨Nat.le_of_ble_eq_true rfl, Nat.le_of_ble_eq_true rfl⟩ rfl (Nat.le_of_ble_eq_true rfl) dX10_cards_52 ?_
        cases hf
        exact rx_iret hG dX10_cards_55
      · have hf := ifF hf c8
        refine rx_aload_n hG dX10_cards_37 0 rfl ?_
        refine rx_iconst hG 3 dX10_cards_38 ic_3 ?_
        refine rx_iload_n hG dX10_cards_39 1 rfl ?_
        refine rx_imul hG dX10_cards_40 ?_
        refine rx_iload_n hG dX10_cards_41 2 rfl ?_
        refine rx_iadd hG dX10_cards_42 ?_
        refine rx_iload_n hG dX10_cards_43 3 rfl ?_
        obtain ⟨q10, hq10, hf⟩ := bindE hf
        refine rx_cVi hG (c_M_changes_0 l E T ((3 * p0) + p1) p2 hq10) (skM0 T) rfl rfl kw_M_367 ⟨Nat.le_of_ble_eq_true rfl, Nat.le_of_ble_eq_true rfl⟩ rfl (Nat.le_of_ble_eq_true rfl) dX10_cards_44 ?_
        refine rx_goto hG 55 dX10_cards_47 rfl ?_
        cases hf
        exact rx_iret hG dX10_cards_55
    · have hf := ifT hf c6
      refine rx_aload_n hG dX10_cards_21 0 rfl ?_
      refine rx_iconst hG 1 dX10_cards_22 ic_1 ?_
      obtain ⟨q11, hq11, hf⟩ := bindE hf
      refine rx_cVi hG (c_M_refused_0 l E T 1 hq11) (skM0 T) rfl rfl kw_M_232 ⟨Nat.le_of_ble_eq_true rfl, Nat.le_of_ble_eq_true rfl⟩ rfl (Nat.le_of_ble_eq_true rfl) dX10_cards_23 ?_
      cases hf
      exact rx_iret hG dX10_cards_26
set_option maxHeartbeats 4000000 in
set_option maxRecDepth 100000 in
theorem c_M_time_0 (l : Launch) (E : En) (T : List Sk) (p0 : Int32) (p1 : Int32) (p2 : Int32) {M M' : Mm} {r : Int32} (h : f_M_time_0 p0 p1 p2 M = some (r, M')) : Ct l (SKM ++ T) E yX10_time cX10_time 4 (some .int) 2 44 [.ref (adr E 0), .int p0, .int p1, .int p2] M (some (.int r)) M' := by
  refine ct_of (by decide) (Nat.le_of_ble_eq_true rfl) ?_
  intro G hG
  show G 0 [(0, .ref (adr E 0)), (1, .int p0), (2, .int p1), (3, .int p2)] [] M
  have hf := h
  unfold f_M_time_0 at hf
  refine rx_aload_n hG dX10_time_0 0 rfl ?_
  refine rx_iconst hG 0 dX10_time_1 ic_0 ?_
  obtain ⟨M1, hM1, hf⟩ := bindE hf
  refine pfM_M_74_0 l E T hG hM1 dX10_time_2 ?_
  refine rx_aload_n hG dX10_time_5 0 rfl ?_
  refine rx_iload_n hG dX10_time_6 1 rfl ?_
  obtain ⟨v2, hv2, hf⟩ := bindE hf
  refine rx_cVi hG (c_M_isBench_0 l E T p0 hv2) (skM0 T) rfl rfl kw_M_316 ⟨Nat.le_of_ble_eq_true rfl, Nat.le_of_ble_eq_true rfl⟩ rfl (Nat.le_of_ble_eq_true rfl) dX10_time_7 ?_
  refine rx_if_eq hG 21 dX10_time_10 rfl (fun c3 => ?_) (fun c3 => ?_)
  · have hf := ifT hf c3
    refine rx_aload_n hG dX10_time_21 0 rfl ?_
    refine rx_iconst hG 1 dX10_time_22 ic_1 ?_
    obtain ⟨q4, hq4, hf⟩ := bindE hf
    refine rx_cVi hG (c_M_refused_0 l E T 1 hq4) (skM0 T) rfl rfl kw_M_232 ⟨Nat.le_of_ble_eq_true rfl, Nat.le_of_ble_eq_true rfl⟩ rfl (Nat.le_of_ble_eq_true rfl) dX10_time_23 ?_
    cases hf
    exact rx_iret hG dX10_time_26
  · have hf := ifF hf c3
    refine rx_aload_n hG dX10_time_13 0 rfl ?_
    refine rx_iload_n hG dX10_time_14 2 rfl ?_
    obtain ⟨v5, hv5, hf⟩ := bindE hf
    refine rx_cVi hG (c_M_isKind_0 l E T p1 hv5) (skM0 T) rfl rfl kw_M_319 ⟨Nat.le_of_ble_eq_true rfl, Nat.le_of_ble_eq_true rfl⟩ rfl (Nat.le_of_ble_eq_true rfl) dX10_time_15 ?_
    refine rx_if_ne hG 27 dX10_time_18 rfl (fun c6 => ?_) (fun c6 => ?_)
    · have hf := ifF hf c6
      refine rx_iload_n hG dX10_time_27 3 rfl ?_
      refine rx_iconst hG 1 dX10_time_28 ic_1 ?_
      refine rx_bipush hG 60 dX10_time_29 bp_60 ?_
      obtain ⟨v7, hv7, hf⟩ := bindE hf
      refine rx_cSi hG (c_M_in l E (SKM ++ T) p2 1 60 hv7) kw_M_95 ⟨Nat.le_of_ble_eq_true rfl, Nat.le_of_ble_eq_true rfl⟩ rfl (Nat.le_of_ble_eq_true rfl) dX10_time_31 ?_
      refine rx_if_eq hG 53 dX10_time_34 rfl (fun c8 => ?_) (fun c8 => ?_)
      · have hf := ifT hf c8
        refine rx_aload_n hG dX10_time_53 0 rfl ?_
        refine rx_iconst hG 2 dX10_time_54 ic_2 ?_
        obtain ⟨q9, hq9, hf⟩ := bindE hf
        refine rx_cVi hG (c_M_refused_0 l E T 2 hq9) (skM0 T) rfl rfl kw_M_232 ⟨Nat.le_of_ble_eq_true rfl, Nat.le_of_ble_eq_true rfl⟩ rfl (Nat.le_of_ble_eq_true rfl) dX10_time_55 ?_
        cases hf
        exact rx_iret hG dX10_time_58
      · have hf := ifF hf c8
        refine rx_aload_n hG dX10_time_37 0 rfl ?_
        refine rx_bipush hG 18 dX10_time_38 bp_18 ?_
        refine rx_iconst hG 3 dX10_time_40 ic_3 ?_
        refine rx_iload_n hG dX10_time_41 1 rfl ?_
        refine rx_imul hG dX10_time_42 ?_
        refine rx_iadd hG dX10_time_43 ?_
        refine rx_iload_n hG dX10_time_44 2 rfl ?_
        refine rx_iadd hG dX10_time_45 ?_
        refine rx_iload_n hG dX10_time_46 3 rfl ?_
        obtain ⟨q10, hq10, hf⟩ := bindE hf
        refine rx_cVi hG (c_M_changes_0 l E T ((18 + (3 * p0)) + p1) p2 hq10) (skM0 T) rfl rfl kw_M_367 ⟨Nat.le_of_ble_eq_true rfl, Nat.le_of_ble_eq_true rfl⟩ rfl (Nat.le_of_ble_eq_true rfl) dX10_time_47 ?_
        refine rx_goto hG 58 dX10_time_50 rfl ?_
        cases hf
        exact rx_iret hG dX10_time_58
    · have hf := ifT hf c6
      refine rx_aload_n hG dX10_time_21 0 rfl ?_
      refine rx_iconst hG 1 dX10_time_22 ic_1 ?_
      obtain ⟨q11, hq11, hf⟩ := bindE hf
      refine rx_cVi hG (c_M_refused_0 l E T 1 hq11) (skM0 T) rfl rfl kw_M_232 ⟨Nat.le_of_ble_eq_true rfl, Nat.le_of_ble_eq_true rfl⟩ rfl (Nat.le_of_ble_eq_true rfl) dX10_time_23 ?_
      cases hf
      exact rx_iret hG dX10_time_26
set_option maxHeartbeats 4000000 in
set_option maxRecDepth 100000 in
theorem c_M_rule_0 (l : Launch) (E : En) (T : List Sk) (p0 : Int32) {M M' : Mm} {r : Int32} (h : f_M_rule_0 p0 M = some (r, M')) : Ct l (SKM ++ T) E yX10_rule cX10_rule 2 (some .int) 2 44 [.ref (adr E 0), .int p0] M (some (.int r)) M' := by
  refine ct_of (by decide) (Nat.le_of_ble_eq_true rfl) ?_
  intro G hG
  show G 0 [(0, .ref (adr E 0)), (1, .int p0)] [] M
  have hf := h
  unfold f_M_rule_0 at hf
  refine rx_aload_n hG dX10_rule_0 0 rfl ?_
  refine rx_iconst hG 0 dX10_rule_1 ic_0 ?_
  obtain ⟨M1, hM1, hf⟩ := bindE hf
  refine pfM_M_74_0 l E T hG hM1 dX10_rule_2 ?_
  refine rx_aload_n hG dX10_rule_5 0 rfl ?_
  refine gfM_M_257_0 l E T hG dX10_rule_6 ?_
  refine rx_if_ne hG 18 dX10_rule_9 rfl (fun c2 => ?_) (fun c2 => ?_)
  · have hf := ifF hf c2
    refine rx_iload_n hG dX10_rule_18 1 rfl ?_
    refine rx_iconst hG 0 dX10_rule_19 ic_0 ?_
    refine rx_iconst hG 2 dX10_rule_20 ic_2 ?_
    obtain ⟨v3, hv3, hf⟩ := bindE hf
    refine rx_cSi hG (c_M_in l E (SKM ++ T) p0 0 2 hv3) kw_M_95 ⟨Nat.le_of_ble_eq_true rfl, Nat.le_of_ble_eq_true rfl⟩ rfl (Nat.le_of_ble_eq_true rfl) dX10_rule_21 ?_
    refine rx_if_eq hG 37 dX10_rule_24 rfl (fun c4 => ?_) (fun c4 => ?_)
    · have hf := ifT hf c4
      refine rx_aload_n hG dX10_rule_37 0 rfl ?_
      refine rx_iconst hG 2 dX10_rule_38 ic_2 ?_
      obtain ⟨q5, hq5, hf⟩ := bindE hf
      refine rx_cVi hG (c_M_refused_0 l E T 2 hq5) (skM0 T) rfl rfl kw_M_232 ⟨Nat.le_of_ble_eq_true rfl, Nat.le_of_ble_eq_true rfl⟩ rfl (Nat.le_of_ble_eq_true rfl) dX10_rule_39 ?_
      cases hf
      exact rx_iret hG dX10_rule_42
    · have hf := ifF hf c4
      refine rx_aload_n hG dX10_rule_27 0 rfl ?_
      refine rx_bipush hG 36 dX10_rule_28 bp_36 ?_
      refine rx_iload_n hG dX10_rule_30 1 rfl ?_
      obtain ⟨q6, hq6, hf⟩ := bindE hf
      refine rx_cVi hG (c_M_changes_0 l E T 36 p0 hq6) (skM0 T) rfl rfl kw_M_367 ⟨Nat.le_of_ble_eq_true rfl, Nat.le_of_ble_eq_true rfl⟩ rfl (Nat.le_of_ble_eq_true rfl) dX10_rule_31 ?_
      refine rx_goto hG 42 dX10_rule_34 rfl ?_
      cases hf
      exact rx_iret hG dX10_rule_42
  · have hf := ifT hf c2
    refine rx_aload_n hG dX10_rule_12 0 rfl ?_
    refine rx_iconst hG 1 dX10_rule_13 ic_1 ?_
    obtain ⟨q7, hq7, hf⟩ := bindE hf
    refine rx_cVi hG (c_M_refused_0 l E T 1 hq7) (skM0 T) rfl rfl kw_M_232 ⟨Nat.le_of_ble_eq_true rfl, Nat.le_of_ble_eq_true rfl⟩ rfl (Nat.le_of_ble_eq_true rfl) dX10_rule_14 ?_
    cases hf
    exact rx_iret hG dX10_rule_17
set_option maxHeartbeats 4000000 in
set_option maxRecDepth 100000 in
theorem Lblp_M_undo_0_43 (l : Launch) (E : En) (T : List Sk) {a0 b0 kc ks : Nat} {r : Int32} {M' : Mm} {G : Nat → List (Nat × Value) → List Value → Mm → Prop} (hG : RX l (SKM ++ T) E RX10 cX10_undo 2 (some .int) { frames := 1, cells := a0, slots := b0, locals := 21 } kc ks (some (.int r)) M' G) (rc43 : Int32 → Mm → Option (Int32 × Mm)) (hrc43 : ∀ (x1 : Int32) (M : Mm), rc43 x1 M = some (r, M') → G 43 [(0, .ref (adr E 0)), (1, .int x1)] [] M) : ∀ (x1 : Int32) (M : Mm), blp_M_undo_0_43 rc43 x1 M = some (r, M') → G 43 [(0, .ref (adr E 0)), (1, .int x1)] [] M := by
  intro x1 M hf
  unfold blp_M_undo_0_43 at hf
  refine rx_iload_n hG dX10_undo_43 1 rfl ?_
  refine rx_bipush hG 37 dX10_undo_44 bp_37 ?_
  refine rx_icmp_ge hG 75 dX10_undo_46 rfl (fun c1 => ?_) (fun c1 => ?_)
  · have hf := ifT hf c1
    refine rx_aload_n hG dX10_undo_75 0 rfl ?_
    refine rx_aload_n hG dX10_undo_76 0 rfl ?_
    refine gfM_M_254_0 l E T hG dX10_undo_77 ?_
    obtain ⟨q2, hq2, hf⟩ := bindE hf
    refine rx_cVi hG (c_M_good_0 l E T (M.1 0 35) hq2) (skM0 T) rfl rfl kw_M_245 ⟨Nat.le_of_ble_eq_true rfl, Nat.le_of_ble_eq_true rfl⟩ rfl (Nat.le_of_ble_eq_true rfl) dX10_undo_80 ?_
    cases hf
    exact rx_iret hG dX10_undo_83
  · have hf := ifF hf c1
    refine rx_aload_n hG dX10_undo_49 0 rfl ?_
    refine gfM_M_42_0 l E T hG dX10_undo_50 ?_
    refine rx_iload_n hG dX10_undo_53 1 rfl ?_
    refine rx_aload_n hG dX10_undo_54 0 rfl ?_
    refine gfM_M_51_0 l E T hG dX10_undo_55 ?_
    refine rx_aload_n hG dX10_undo_58 0 rfl ?_
    refine gfM_M_254_0 l E T hG dX10_undo_59 ?_
    refine rx_bipush hG 37 dX10_undo_62 bp_37 ?_
    refine rx_imul hG dX10_undo_64 ?_
    refine rx_iload_n hG dX10_undo_65 1 rfl ?_
    refine rx_iadd hG dX10_undo_66 ?_
    obtain ⟨v3, hv3, hf⟩ := bindE hf
    refine rx_iald hG (skM13 T) hv3 dX10_undo_67 ?_
    obtain ⟨M4, hM4, hf⟩ := bindE hf
    refine rx_iast hG (skM10 T) hM4 dX10_undo_68 ?_
    refine rx_iinc (lv2 := [(1, .int (x1 + 1)), (0, .ref (adr E 0))]) hG 1 dX10_undo_69 ic_1 1 rfl (Nat.le_of_ble_eq_true rfl) rfl ?_
    refine rx_goto hG 43 dX10_undo_72 rfl ?_
    refine rx_sub hG [1, 0] (lv' := [(0, .ref (adr E 0)), (1, .int (x1 + 1))]) rfl ?_
    exact hrc43 (x1 + 1) M4 hf
theorem Llp_M_undo_0_43 (l : Launch) (E : En) (T : List Sk) {a0 b0 kc ks : Nat} {r : Int32} {M' : Mm} {G : Nat → List (Nat × Value) → List Value → Mm → Prop} (hG : RX l (SKM ++ T) E RX10 cX10_undo 2 (some .int) { frames := 1, cells := a0, slots := b0, locals := 21 } kc ks (some (.int r)) M' G)  : ∀ (n : Nat) (x1 : Int32) (M : Mm), lp_M_undo_0_43  n x1 M = some (r, M') → G 43 [(0, .ref (adr E 0)), (1, .int x1)] [] M := by
  intro n
  induction n with
  | zero => intro x1 M hf; cases hf
  | succ n ih => intro x1 M hf; exact Lblp_M_undo_0_43 l E T hG  (lp_M_undo_0_43  n) ih x1 M hf
set_option maxHeartbeats 4000000 in
set_option maxRecDepth 100000 in
theorem c_M_undo_0 (l : Launch) (E : En) (T : List Sk)  {M M' : Mm} {r : Int32} (h : f_M_undo_0 M = some (r, M')) : Ct l (SKM ++ T) E yX10_undo cX10_undo 2 (some .int) 1 21 [.ref (adr E 0)] M (some (.int r)) M' := by
  refine ct_of (by decide) (Nat.le_of_ble_eq_true rfl) ?_
  intro G hG
  show G 0 [(0, .ref (adr E 0))] [] M
  have hf := h
  unfold f_M_undo_0 at hf
  refine rx_aload_n hG dX10_undo_0 0 rfl ?_
  refine rx_iconst hG 0 dX10_undo_1 ic_0 ?_
  obtain ⟨M1, hM1, hf⟩ := bindE hf
  refine pfM_M_74_0 l E T hG hM1 dX10_undo_2 ?_
  refine rx_aload_n hG dX10_undo_5 0 rfl ?_
  refine gfM_M_257_0 l E T hG dX10_undo_6 ?_
  refine rx_if_ne hG 18 dX10_undo_9 rfl (fun c2 => ?_) (fun c2 => ?_)
  · have hf := ifF hf c2
    refine rx_aload_n hG dX10_undo_18 0 rfl ?_
    refine gfM_M_254_0 l E T hG dX10_undo_19 ?_
    refine rx_if_ne hG 31 dX10_undo_22 rfl (fun c3 => ?_) (fun c3 => ?_)
    · have hf := ifF hf c3
      refine rx_aload_n hG dX10_undo_31 0 rfl ?_
      refine rx_dup hG dX10_undo_32 rfl ?_
      refine gfM_M_254_0 l E T hG dX10_undo_33 ?_
      refine rx_iconst hG 1 dX10_undo_36 ic_1 ?_
      refine rx_isub hG dX10_undo_37 ?_
      obtain ⟨M4, hM4, hf⟩ := bindE hf
      refine pfM_M_254_0 l E T hG hM4 dX10_undo_38 ?_
      refine rx_iconst hG 0 dX10_undo_41 ic_0 ?_
      refine rx_istore_n (lv2 := [(1, .int 0), (0, .ref (adr E 0))]) hG dX10_undo_42 (Nat.le_of_ble_eq_true rfl) rfl ?_
      refine rx_sub hG [1, 0] (lv' := [(0, .ref (adr E 0)), (1, .int 0)]) rfl ?_
      exact Llp_M_undo_0_43 l E T hG  FW 0 M4 hf
    · have hf := ifT hf c3
      refine rx_aload_n hG dX10_undo_25 0 rfl ?_
      refine rx_iconst hG 5 dX10_undo_26 ic_5 ?_
      obtain ⟨q5, hq5, hf⟩ := bindE hf
      refine rx_cVi hG (c_M_refused_0 l E T 5 hq5) (skM0 T) rfl rfl kw_M_232 ⟨Nat.le_of_ble_eq_true rfl, Nat.le_of_ble_eq_true rfl⟩ rfl (Nat.le_of_ble_eq_true rfl) dX10_undo_27 ?_
      cases hf
      exact rx_iret hG dX10_undo_30
  · have hf := ifT hf c2
    refine rx_aload_n hG dX10_undo_12 0 rfl ?_
    refine rx_iconst hG 1 dX10_undo_13 ic_1 ?_
    obtain ⟨q6, hq6, hf⟩ := bindE hf
    refine rx_cVi hG (c_M_refused_0 l E T 1 hq6) (skM0 T) rfl rfl kw_M_232 ⟨Nat.le_of_ble_eq_true rfl, Nat.le_of_ble_eq_true rfl⟩ rfl (Nat.le_of_ble_eq_true rfl) dX10_undo_14 ?_
    cases hf
    exact rx_iret hG dX10_undo_17
set_option maxHeartbeats 4000000 in
set_option maxRecDepth 100000 in
theorem Lj_M_keep_0_89 (l : Launch) (E : En) (T : List Sk) {a0 b0 kc ks : Nat} {r : Int32} {M' : Mm} {G : Nat → List (Nat × Value) → List Value → Mm → Prop} (hG : RX l (SKM ++ T) E RX10 cX10_keep 3 (some .boolean) { frames := 1, cells := a0, slots := b0, locals := 22 } kc ks (some (.int r)) M' G)  : ∀ (x1 : Int32) (M : Mm), j_M_keep_0_89  x1 M = some (r, M') → G 89 [(0, .ref (adr E 0)), (1, .int x1)] [] M := by
  intro x1 M hf
  unfold j_M_keep_0_89 at hf
  refine rx_aload_n hG dX10_keep_89 0 rfl ?_
  refine gfM_M_66_0 l E T hG dX10_keep_90 ?_
  refine rx_iload_n hG dX10_keep_93 1 rfl ?_
  refine rx_iconst hG 1 dX10_keep_94 ic_1 ?_
  obtain ⟨M1, hM1, hf⟩ := bindE hf
  refine rx_zast hG (skM18 T) hM1 dX10_keep_95 ?_
  refine rx_aload_n hG dX10_keep_96 0 rfl ?_
  refine rx_iconst hG 0 dX10_keep_97 ic_0 ?_
  obtain ⟨q2, hq2, hf⟩ := bindE hf
  refine rx_cVi hG (c_M_granted_0 l E T 0 hq2) (skM0 T) rfl rfl kw_M_322 ⟨Nat.le_of_ble_eq_true rfl, Nat.le_of_ble_eq_true rfl⟩ rfl (Nat.le_of_ble_eq_true rfl) dX10_keep_98 ?_
  obtain ⟨z3, hz3, hf⟩ := bindE hf
  cases hf
  exact rx_zret hG hz3 dX10_keep_101
set_option maxHeartbeats 4000000 in
set_option maxRecDepth 100000 in
theorem Lblp_M_keep_0_60 (l : Launch) (E : En) (T : List Sk) {a0 b0 kc ks : Nat} {r : Int32} {M' : Mm} {G : Nat → List (Nat × Value) → List Value → Mm → Prop} (hG : RX l (SKM ++ T) E RX10 cX10_keep 3 (some .boolean) { frames := 1, cells := a0, slots := b0, locals := 22 } kc ks (some (.int r)) M' G) (rc60 : Int32 → Int32 → Mm → Option (Int32 × Mm)) (hrc60 : ∀ (x1 : Int32) (x2 : Int32) (M : Mm), rc60 x1 x2 M = some (r, M') → G 60 [(0, .ref (adr E 0)), (1, .int x1), (2, .int x2)] [] M) : ∀ (x1 : Int32) (x2 : Int32) (M : Mm), blp_M_keep_0_60 rc60 x1 x2 M = some (r, M') → G 60 [(0, .ref (adr E 0)), (1, .int x1), (2, .int x2)] [] M := by
  intro x1 x2 M hf
  unfold blp_M_keep_0_60 at hf
  refine rx_iload_n hG dX10_keep_60 2 rfl ?_
  refine rx_bipush hG 37 dX10_keep_61 bp_37 ?_
  refine rx_icmp_ge hG 89 dX10_keep_63 rfl (fun c1 => ?_) (fun c1 => ?_)
  · have hf := ifT hf c1
    refine rx_sub hG [0, 1] (lv' := [(0, .ref (adr E 0)), (1, .int x1)]) rfl ?_
    exact Lj_M_keep_0_89 l E T hG  x1 M hf
  · have hf := ifF hf c1
    refine rx_aload_n hG dX10_keep_66 0 rfl ?_
    refine gfM_M_54_0 l E T hG dX10_keep_67 ?_
    refine rx_bipush hG 37 dX10_keep_70 bp_37 ?_
    refine rx_iload_n hG dX10_keep_72 1 rfl ?_
    refine rx_imul hG dX10_keep_73 ?_
    refine rx_iload_n hG dX10_keep_74 2 rfl ?_
    refine rx_iadd hG dX10_keep_75 ?_
    refine rx_aload_n hG dX10_keep_76 0 rfl ?_
    refine gfM_M_42_0 l E T hG dX10_keep_77 ?_
    refine rx_iload_n hG dX10_keep_80 2 rfl ?_
    obtain ⟨v2, hv2, hf⟩ := bindE hf
    refine rx_iald hG (skM10 T) hv2 dX10_keep_81 ?_
    obtain ⟨M3, hM3, hf⟩ := bindE hf
    refine rx_iast hG (skM14 T) hM3 dX10_keep_82 ?_
    refine rx_iinc (lv2 := [(2, .int (x2 + 1)), (0, .ref (adr E 0)), (1, .int x1)]) hG 1 dX10_keep_83 ic_1 2 rfl (Nat.le_of_ble_eq_true rfl) rfl ?_
    refine rx_goto hG 60 dX10_keep_86 rfl ?_
    refine rx_sub hG [1, 2, 0] (lv' := [(0, .ref (adr E 0)), (1, .int x1), (2, .int (x2 + 1))]) rfl ?_
    exact hrc60 x1 (x2 + 1) M3 hf
theorem Llp_M_keep_0_60 (l : Launch) (E : En) (T : List Sk) {a0 b0 kc ks : Nat} {r : Int32} {M' : Mm} {G : Nat → List (Nat × Value) → List Value → Mm → Prop} (hG : RX l (SKM ++ T) E RX10 cX10_keep 3 (some .boolean) { frames := 1, cells := a0, slots := b0, locals := 22 } kc ks (some (.int r)) M' G)  : ∀ (n : Nat) (x1 : Int32) (x2 : Int32) (M : Mm), lp_M_keep_0_60  n x1 x2 M = some (r, M') → G 60 [(0, .ref (adr E 0)), (1, .int x1), (2, .int x2)] [] M := by
  intro n
  induction n with
  | zero => intro x1 x2 M hf; cases hf
  | succ n ih => intro x1 x2 M hf; exact Lblp_M_keep_0_60 l E T hG  (lp_M_keep_0_60  n) ih x1 x2 M hf
set_option maxHeartbeats 4000000 in
set_option maxRecDepth 100000 in
theorem Lj_M_keep_0_58 (l : Launch) (E : En) (T : List Sk) {a0 b0 kc ks : Nat} {r : Int32} {M' : Mm} {G : Nat → List (Nat × Value) → List Value → Mm → Prop} (hG : RX l (SKM ++ T) E RX10 cX10_keep 3 (some .boolean) { frames := 1, cells := a0, slots := b0, locals := 22 } kc ks (some (.int r)) M' G)  : ∀ (x1 : Int32) (M : Mm), j_M_keep_0_58  x1 M = some (r, M') → G 58 [(0, .ref (adr E 0)), (1, .int x1)] [] M := by
  intro x1 M hf
  unfold j_M_keep_0_58 at hf
  refine rx_iconst hG 0 dX10_keep_58 ic_0 ?_
  refine rx_istore_n (lv2 := [(2, .int 0), (0, .ref (adr E 0)), (1, .int x1)]) hG dX10_keep_59 (Nat.le_of_ble_eq_true rfl) rfl ?_
  refine rx_sub hG [1, 2, 0] (lv' := [(0, .ref (adr E 0)), (1, .int x1), (2, .int 0)]) rfl ?_
  exact Llp_M_keep_0_60 l E T hG  FW x1 0 M hf
set_option maxHeartbeats 4000000 in
set_option maxRecDepth 100000 in
theorem Lblp_M_keep_0_29 (l : Launch) (E : En) (T : List Sk) {a0 b0 kc ks : Nat} {r : Int32} {M' : Mm} {G : Nat → List (Nat × Value) → List Value → Mm → Prop} (hG : RX l (SKM ++ T) E RX10 cX10_keep 3 (some .boolean) { frames := 1, cells := a0, slots := b0, locals := 22 } kc ks (some (.int r)) M' G) (rc29 : Int32 → Int32 → Mm → Option (Int32 × Mm)) (hrc29 : ∀ (x1 : Int32) (x2 : Int32) (M : Mm), rc29 x1 x2 M = some (r, M') → G 29 [(0, .ref (adr E 0)), (1, .int x1), (2, .int x2)] [] M) : ∀ (x1 : Int32) (x2 : Int32) (M : Mm), blp_M_keep_0_29 rc29 x1 x2 M = some (r, M') → G 29 [(0, .ref (adr E 0)), (1, .int x1), (2, .int x2)] [] M := by
  intro x1 x2 M hf
  unfold blp_M_keep_0_29 at hf
  refine rx_iload_n hG dX10_keep_29 2 rfl ?_
  refine rx_bipush hG 99 dX10_keep_30 bp_99 ?_
  refine rx_icmp_ge hG 58 dX10_keep_32 rfl (fun c1 => ?_) (fun c1 => ?_)
  · have hf := ifT hf c1
    refine rx_sub hG [0, 1] (lv' := [(0, .ref (adr E 0)), (1, .int x1)]) rfl ?_
    exact Lj_M_keep_0_58 l E T hG  x1 M hf
  · have hf := ifF hf c1
    refine rx_aload_n hG dX10_keep_35 0 rfl ?_
    refine gfM_M_63_0 l E T hG dX10_keep_36 ?_
    refine rx_bipush hG 99 dX10_keep_39 bp_99 ?_
    refine rx_iload_n hG dX10_keep_41 1 rfl ?_
    refine rx_imul hG dX10_keep_42 ?_
    refine rx_iload_n hG dX10_keep_43 2 rfl ?_
    refine rx_iadd hG dX10_keep_44 ?_
    refine rx_aload_n hG dX10_keep_45 0 rfl ?_
    refine gfM_M_57_0 l E T hG dX10_keep_46 ?_
    refine rx_iload_n hG dX10_keep_49 2 rfl ?_
    obtain ⟨v2, hv2, hf⟩ := bindE hf
    refine rx_iald hG (skM15 T) hv2 dX10_keep_50 ?_
    obtain ⟨M3, hM3, hf⟩ := bindE hf
    refine rx_iast hG (skM17 T) hM3 dX10_keep_51 ?_
    refine rx_iinc (lv2 := [(2, .int (x2 + 1)), (0, .ref (adr E 0)), (1, .int x1)]) hG 1 dX10_keep_52 ic_1 2 rfl (Nat.le_of_ble_eq_true rfl) rfl ?_
    refine rx_goto hG 29 dX10_keep_55 rfl ?_
    refine rx_sub hG [1, 2, 0] (lv' := [(0, .ref (adr E 0)), (1, .int x1), (2, .int (x2 + 1))]) rfl ?_
    exact hrc29 x1 (x2 + 1) M3 hf
theorem Llp_M_keep_0_29 (l : Launch) (E : En) (T : List Sk) {a0 b0 kc ks : Nat} {r : Int32} {M' : Mm} {G : Nat → List (Nat × Value) → List Value → Mm → Prop} (hG : RX l (SKM ++ T) E RX10 cX10_keep 3 (some .boolean) { frames := 1, cells := a0, slots := b0, locals := 22 } kc ks (some (.int r)) M' G)  : ∀ (n : Nat) (x1 : Int32) (x2 : Int32) (M : Mm), lp_M_keep_0_29  n x1 x2 M = some (r, M') → G 29 [(0, .ref (adr E 0)), (1, .int x1), (2, .int x2)] [] M := by
  intro n
  induction n with
  | zero => intro x1 x2 M hf; cases hf
  | succ n ih => intro x1 x2 M hf; exact Lblp_M_keep_0_29 l E T hG  (lp_M_keep_0_29  n) ih x1 x2 M hf
set_option maxHeartbeats 4000000 in
set_option maxRecDepth 100000 in
theorem c_M_keep_0 (l : Launch) (E : En) (T : List Sk) (p0 : Int32) {M M' : Mm} {r : Int32} (h : f_M_keep_0 p0 M = some (r, M')) : Ct l (SKM ++ T) E yX10_keep cX10_keep 3 (some .boolean) 1 22 [.ref (adr E 0), .int p0] M (some (.int r)) M' := by
  refine ct_of (by decide) (Nat.le_of_ble_eq_true rfl) ?_
  intro G hG
  show G 0 [(0, .ref (adr E 0)), (1, .int p0)] [] M
  have hf := h
  unfold f_M_keep_0 at hf
  refine rx_aload_n hG dX10_keep_0 0 rfl ?_
  refine rx_iconst hG 0 dX10_keep_1 ic_0 ?_
  obtain ⟨M1, hM1, hf⟩ := bindE hf
  refine pfM_M_74_0 l E T hG hM1 dX10_keep_2 ?_
  refine rx_aload_n hG dX10_keep_5 0 rfl ?_
  refine gfM_M_257_0 l E T hG dX10_keep_6 ?_
  refine rx_if_eq hG 21 dX10_keep_9 rfl (fun c2 => ?_) (fun c2 => ?_)
  · have hf := ifT hf c2
    refine rx_aload_n hG dX10_keep_21 0 rfl ?_
    refine rx_iconst hG 1 dX10_keep_22 ic_1 ?_
    obtain ⟨q3, hq3, hf⟩ := bindE hf
    refine rx_cVi hG (c_M_granted_0 l E T 1 hq3) (skM0 T) rfl rfl kw_M_322 ⟨Nat.le_of_ble_eq_true rfl, Nat.le_of_ble_eq_true rfl⟩ rfl (Nat.le_of_ble_eq_true rfl) dX10_keep_23 ?_
    obtain ⟨z4, hz4, hf⟩ := bindE hf
    cases hf
    exact rx_zret hG hz4 dX10_keep_26
  · have hf := ifF hf c2
    refine rx_iload_n hG dX10_keep_12 1 rfl ?_
    refine rx_iconst hG 0 dX10_keep_13 ic_0 ?_
    refine rx_iconst hG 1 dX10_keep_14 ic_1 ?_
    obtain ⟨v5, hv5, hf⟩ := bindE hf
    refine rx_cSi hG (c_M_in l E (SKM ++ T) p0 0 1 hv5) kw_M_95 ⟨Nat.le_of_ble_eq_true rfl, Nat.le_of_ble_eq_true rfl⟩ rfl (Nat.le_of_ble_eq_true rfl) dX10_keep_15 ?_
    refine rx_if_ne hG 27 dX10_keep_18 rfl (fun c6 => ?_) (fun c6 => ?_)
    · have hf := ifF hf c6
      refine rx_iconst hG 0 dX10_keep_27 ic_0 ?_
      refine rx_istore_n (lv2 := [(2, .int 0), (0, .ref (adr E 0)), (1, .int p0)]) hG dX10_keep_28 (Nat.le_of_ble_eq_true rfl) rfl ?_
      refine rx_sub hG [1, 2, 0] (lv' := [(0, .ref (adr E 0)), (1, .int p0), (2, .int 0)]) rfl ?_
      exact Llp_M_keep_0_29 l E T hG  FW p0 0 M1 hf
    · have hf := ifT hf c6
      refine rx_aload_n hG dX10_keep_21 0 rfl ?_
      refine rx_iconst hG 1 dX10_keep_22 ic_1 ?_
      obtain ⟨q7, hq7, hf⟩ := bindE hf
      refine rx_cVi hG (c_M_granted_0 l E T 1 hq7) (skM0 T) rfl rfl kw_M_322 ⟨Nat.le_of_ble_eq_true rfl, Nat.le_of_ble_eq_true rfl⟩ rfl (Nat.le_of_ble_eq_true rfl) dX10_keep_23 ?_
      obtain ⟨z8, hz8, hf⟩ := bindE hf
      cases hf
      exact rx_zret hG hz8 dX10_keep_26
set_option maxHeartbeats 4000000 in
set_option maxRecDepth 100000 in
theorem Lblp_M_back_0_69 (l : Launch) (E : En) (T : List Sk) {a0 b0 kc ks : Nat} {r : Int32} {M' : Mm} {G : Nat → List (Nat × Value) → List Value → Mm → Prop} (hG : RX l (SKM ++ T) E RX10 cX10_back 3 (some .boolean) { frames := 1, cells := a0, slots := b0, locals := 22 } kc ks (some (.int r)) M' G) (rc69 : Int32 → Int32 → Mm → Option (Int32 × Mm)) (hrc69 : ∀ (x1 : Int32) (x2 : Int32) (M : Mm), rc69 x1 x2 M = some (r, M') → G 69 [(0, .ref (adr E 0)), (1, .int x1), (2, .int x2)] [] M) : ∀ (x1 : Int32) (x2 : Int32) (M : Mm), blp_M_back_0_69 rc69 x1 x2 M = some (r, M') → G 69 [(0, .ref (adr E 0)), (1, .int x1), (2, .int x2)] [] M := by
  intro x1 x2 M hf
  unfold blp_M_back_0_69 at hf
  refine rx_iload_n hG dX10_back_69 2 rfl ?_
  refine rx_bipush hG 37 dX10_back_70 bp_37 ?_
  refine rx_icmp_ge hG 98 dX10_back_72 rfl (fun c1 => ?_) (fun c1 => ?_)
  · have hf := ifT hf c1
    refine rx_aload_n hG dX10_back_98 0 rfl ?_
    refine rx_iconst hG 0 dX10_back_99 ic_0 ?_
    obtain ⟨M2, hM2, hf⟩ := bindE hf
    refine pfM_M_254_0 l E T hG hM2 dX10_back_100 ?_
    refine rx_aload_n hG dX10_back_103 0 rfl ?_
    refine rx_iconst hG 0 dX10_back_104 ic_0 ?_
    obtain ⟨q3, hq3, hf⟩ := bindE hf
    refine rx_cVi hG (c_M_granted_0 l E T 0 hq3) (skM0 T) rfl rfl kw_M_322 ⟨Nat.le_of_ble_eq_true rfl, Nat.le_of_ble_eq_true rfl⟩ rfl (Nat.le_of_ble_eq_true rfl) dX10_back_105 ?_
    obtain ⟨z4, hz4, hf⟩ := bindE hf
    cases hf
    exact rx_zret hG hz4 dX10_back_108
  · have hf := ifF hf c1
    refine rx_aload_n hG dX10_back_75 0 rfl ?_
    refine gfM_M_42_0 l E T hG dX10_back_76 ?_
    refine rx_iload_n hG dX10_back_79 2 rfl ?_
    refine rx_aload_n hG dX10_back_80 0 rfl ?_
    refine gfM_M_54_0 l E T hG dX10_back_81 ?_
    refine rx_bipush hG 37 dX10_back_84 bp_37 ?_
    refine rx_iload_n hG dX10_back_86 1 rfl ?_
    refine rx_imul hG dX10_back_87 ?_
    refine rx_iload_n hG dX10_back_88 2 rfl ?_
    refine rx_iadd hG dX10_back_89 ?_
    obtain ⟨v5, hv5, hf⟩ := bindE hf
    refine rx_iald hG (skM14 T) hv5 dX10_back_90 ?_
    obtain ⟨M6, hM6, hf⟩ := bindE hf
    refine rx_iast hG (skM10 T) hM6 dX10_back_91 ?_
    refine rx_iinc (lv2 := [(2, .int (x2 + 1)), (0, .ref (adr E 0)), (1, .int x1)]) hG 1 dX10_back_92 ic_1 2 rfl (Nat.le_of_ble_eq_true rfl) rfl ?_
    refine rx_goto hG 69 dX10_back_95 rfl ?_
    refine rx_sub hG [1, 2, 0] (lv' := [(0, .ref (adr E 0)), (1, .int x1), (2, .int (x2 + 1))]) rfl ?_
    exact hrc69 x1 (x2 + 1) M6 hf
theorem Llp_M_back_0_69 (l : Launch) (E : En) (T : List Sk) {a0 b0 kc ks : Nat} {r : Int32} {M' : Mm} {G : Nat → List (Nat × Value) → List Value → Mm → Prop} (hG : RX l (SKM ++ T) E RX10 cX10_back 3 (some .boolean) { frames := 1, cells := a0, slots := b0, locals := 22 } kc ks (some (.int r)) M' G)  : ∀ (n : Nat) (x1 : Int32) (x2 : Int32) (M : Mm), lp_M_back_0_69  n x1 x2 M = some (r, M') → G 69 [(0, .ref (adr E 0)), (1, .int x1), (2, .int x2)] [] M := by
  intro n
  induction n with
  | zero => intro x1 x2 M hf; cases hf
  | succ n ih => intro x1 x2 M hf; exact Lblp_M_back_0_69 l E T hG  (lp_M_back_0_69  n) ih x1 x2 M hf
set_option maxHeartbeats 4000000 in
set_option maxRecDepth 100000 in
theorem Lj_M_back_0_67 (l : Launch) (E : En) (T : List Sk) {a0 b0 kc ks : Nat} {r : Int32} {M' : Mm} {G : Nat → List (Nat × Value) → List Value → Mm → Prop} (hG : RX l (SKM ++ T) E RX10 cX10_back 3 (some .boolean) { frames := 1, cells := a0, slots := b0, locals := 22 } kc ks (some (.int r)) M' G)  : ∀ (x1 : Int32) (M : Mm), j_M_back_0_67  x1 M = some (r, M') → G 67 [(0, .ref (adr E 0)), (1, .int x1)] [] M := by
  intro x1 M hf
  unfold j_M_back_0_67 at hf
  refine rx_iconst hG 0 dX10_back_67 ic_0 ?_
  refine rx_istore_n (lv2 := [(2, .int 0), (0, .ref (adr E 0)), (1, .int x1)]) hG dX10_back_68 (Nat.le_of_ble_eq_true rfl) rfl ?_
  refine rx_sub hG [1, 2, 0] (lv' := [(0, .ref (adr E 0)), (1, .int x1), (2, .int 0)]) rfl ?_
  exact Llp_M_back_0_69 l E T hG  FW x1 0 M hf
set_option maxHeartbeats 4000000 in
set_option maxRecDepth 100000 in
theorem Lblp_M_back_0_38 (l : Launch) (E : En) (T : List Sk) {a0 b0 kc ks : Nat} {r : Int32} {M' : Mm} {G : Nat → List (Nat × Value) → List Value → Mm → Prop} (hG : RX l (SKM ++ T) E RX10 cX10_back 3 (some .boolean) { frames := 1, cells := a0, slots := b0, locals := 22 } kc ks (some (.int r)) M' G) (rc38 : Int32 → Int32 → Mm → Option (Int32 × Mm)) (hrc38 : ∀ (x1 : Int32) (x2 : Int32) (M : Mm), rc38 x1 x2 M = some (r, M') → G 38 [(0, .ref (adr E 0)), (1, .int x1), (2, .int x2)] [] M) : ∀ (x1 : Int32) (x2 : Int32) (M : Mm), blp_M_back_0_38 rc38 x1 x2 M = some (r, M') → G 38 [(0, .ref (adr E 0)), (1, .int x1), (2, .int x2)] [] M := by
  intro x1 x2 M hf
  unfold blp_M_back_0_38 at hf
  refine rx_iload_n hG dX10_back_38 2 rfl ?_
  refine rx_bipush hG 99 dX10_back_39 bp_99 ?_
  refine rx_icmp_ge hG 67 dX10_back_41 rfl (fun c1 => ?_) (fun c1 => ?_)
  · have hf := ifT hf c1
    refine rx_sub hG [0, 1] (lv' := [(0, .ref (adr E 0)), (1, .int x1)]) rfl ?_
    exact Lj_M_back_0_67 l E T hG  x1 M hf
  · have hf := ifF hf c1
    refine rx_aload_n hG dX10_back_44 0 rfl ?_
    refine gfM_M_57_0 l E T hG dX10_back_45 ?_
    refine rx_iload_n hG dX10_back_48 2 rfl ?_
    refine rx_aload_n hG dX10_back_49 0 rfl ?_
    refine gfM_M_63_0 l E T hG dX10_back_50 ?_
    refine rx_bipush hG 99 dX10_back_53 bp_99 ?_
    refine rx_iload_n hG dX10_back_55 1 rfl ?_
    refine rx_imul hG dX10_back_56 ?_
    refine rx_iload_n hG dX10_back_57 2 rfl ?_
    refine rx_iadd hG dX10_back_58 ?_
    obtain ⟨v2, hv2, hf⟩ := bindE hf
    refine rx_iald hG (skM17 T) hv2 dX10_back_59 ?_
    obtain ⟨M3, hM3, hf⟩ := bindE hf
    refine rx_iast hG (skM15 T) hM3 dX10_back_60 ?_
    refine rx_iinc (lv2 := [(2, .int (x2 + 1)), (0, .ref (adr E 0)), (1, .int x1)]) hG 1 dX10_back_61 ic_1 2 rfl (Nat.le_of_ble_eq_true rfl) rfl ?_
    refine rx_goto hG 38 dX10_back_64 rfl ?_
    refine rx_sub hG [1, 2, 0] (lv' := [(0, .ref (adr E 0)), (1, .int x1), (2, .int (x2 + 1))]) rfl ?_
    exact hrc38 x1 (x2 + 1) M3 hf
theorem Llp_M_back_0_38 (l : Launch) (E : En) (T : List Sk) {a0 b0 kc ks : Nat} {r : Int32} {M' : Mm} {G : Nat → List (Nat × Value) → List Value → Mm → Prop} (hG : RX l (SKM ++ T) E RX10 cX10_back 3 (some .boolean) { frames := 1, cells := a0, slots := b0, locals := 22 } kc ks (some (.int r)) M' G)  : ∀ (n : Nat) (x1 : Int32) (x2 : Int32) (M : Mm), lp_M_back_0_38  n x1 x2 M = some (r, M') → G 38 [(0, .ref (adr E 0)), (1, .int x1), (2, .int x2)] [] M := by
  intro n
  induction n with
  | zero => intro x1 x2 M hf; cases hf
  | succ n ih => intro x1 x2 M hf; exact Lblp_M_back_0_38 l E T hG  (lp_M_back_0_38  n) ih x1 x2 M hf
set_option maxHeartbeats 4000000 in
set_option maxRecDepth 100000 in
theorem c_M_back_0 (l : Launch) (E : En) (T : List Sk) (p0 : Int32) {M M' : Mm} {r : Int32} (h : f_M_back_0 p0 M = some (r, M')) : Ct l (SKM ++ T) E yX10_back cX10_back 3 (some .boolean) 1 22 [.ref (adr E 0), .int p0] M (some (.int r)) M' := by
  refine ct_of (by decide) (Nat.le_of_ble_eq_true rfl) ?_
  intro G hG
  show G 0 [(0, .ref (adr E 0)), (1, .int p0)] [] M
  have hf := h
  unfold f_M_back_0 at hf
  refine rx_aload_n hG dX10_back_0 0 rfl ?_
  refine rx_iconst hG 0 dX10_back_1 ic_0 ?_
  obtain ⟨M1, hM1, hf⟩ := bindE hf
  refine pfM_M_74_0 l E T hG hM1 dX10_back_2 ?_
  refine rx_aload_n hG dX10_back_5 0 rfl ?_
  refine gfM_M_257_0 l E T hG dX10_back_6 ?_
  refine rx_if_eq hG 30 dX10_back_9 rfl (fun c2 => ?_) (fun c2 => ?_)
  · have hf := ifT hf c2
    refine rx_aload_n hG dX10_back_30 0 rfl ?_
    refine rx_iconst hG 1 dX10_back_31 ic_1 ?_
    obtain ⟨q3, hq3, hf⟩ := bindE hf
    refine rx_cVi hG (c_M_granted_0 l E T 1 hq3) (skM0 T) rfl rfl kw_M_322 ⟨Nat.le_of_ble_eq_true rfl, Nat.le_of_ble_eq_true rfl⟩ rfl (Nat.le_of_ble_eq_true rfl) dX10_back_32 ?_
    obtain ⟨z4, hz4, hf⟩ := bindE hf
    cases hf
    exact rx_zret hG hz4 dX10_back_35
  · have hf := ifF hf c2
    refine rx_iload_n hG dX10_back_12 1 rfl ?_
    refine rx_iconst hG 0 dX10_back_13 ic_0 ?_
    refine rx_iconst hG 1 dX10_back_14 ic_1 ?_
    obtain ⟨v5, hv5, hf⟩ := bindE hf
    refine rx_cSi hG (c_M_in l E (SKM ++ T) p0 0 1 hv5) kw_M_95 ⟨Nat.le_of_ble_eq_true rfl, Nat.le_of_ble_eq_true rfl⟩ rfl (Nat.le_of_ble_eq_true rfl) dX10_back_15 ?_
    refine rx_if_eq hG 30 dX10_back_18 rfl (fun c6 => ?_) (fun c6 => ?_)
    · have hf := ifT hf c6
      refine rx_aload_n hG dX10_back_30 0 rfl ?_
      refine rx_iconst hG 1 dX10_back_31 ic_1 ?_
      obtain ⟨q7, hq7, hf⟩ := bindE hf
      refine rx_cVi hG (c_M_granted_0 l E T 1 hq7) (skM0 T) rfl rfl kw_M_322 ⟨Nat.le_of_ble_eq_true rfl, Nat.le_of_ble_eq_true rfl⟩ rfl (Nat.le_of_ble_eq_true rfl) dX10_back_32 ?_
      obtain ⟨z8, hz8, hf⟩ := bindE hf
      cases hf
      exact rx_zret hG hz8 dX10_back_35
    · have hf := ifF hf c6
      refine rx_aload_n hG dX10_back_21 0 rfl ?_
      refine gfM_M_66_0 l E T hG dX10_back_22 ?_
      refine rx_iload_n hG dX10_back_25 1 rfl ?_
      obtain ⟨v9, hv9, hf⟩ := bindE hf
      refine rx_zald hG (skM18 T) hv9 dX10_back_26 ?_
      refine rx_if_ne hG 36 dX10_back_27 rfl (fun c10 => ?_) (fun c10 => ?_)
      · have hf := ifF hf c10
        refine rx_iconst hG 0 dX10_back_36 ic_0 ?_
        refine rx_istore_n (lv2 := [(2, .int 0), (0, .ref (adr E 0)), (1, .int p0)]) hG dX10_back_37 (Nat.le_of_ble_eq_true rfl) rfl ?_
        refine rx_sub hG [1, 2, 0] (lv' := [(0, .ref (adr E 0)), (1, .int p0), (2, .int 0)]) rfl ?_
        exact Llp_M_back_0_38 l E T hG  FW p0 0 M1 hf
      · have hf := ifT hf c10
        refine rx_aload_n hG dX10_back_30 0 rfl ?_
        refine rx_iconst hG 1 dX10_back_31 ic_1 ?_
        obtain ⟨q11, hq11, hf⟩ := bindE hf
        refine rx_cVi hG (c_M_granted_0 l E T 1 hq11) (skM0 T) rfl rfl kw_M_322 ⟨Nat.le_of_ble_eq_true rfl, Nat.le_of_ble_eq_true rfl⟩ rfl (Nat.le_of_ble_eq_true rfl) dX10_back_32 ?_
        obtain ⟨z12, hz12, hf⟩ := bindE hf
        cases hf
        exact rx_zret hG hz12 dX10_back_35
set_option maxHeartbeats 4000000 in
set_option maxRecDepth 100000 in
theorem Lblp_M_letter_0_107 (l : Launch) (E : En) (T : List Sk) {a0 b0 kc ks : Nat} {r : Int32} {M' : Mm} {G : Nat → List (Nat × Value) → List Value → Mm → Prop} (hG : RX l (SKM ++ T) E RX10 cX10_letter 9 (some .int) { frames := 1, cells := a0, slots := b0, locals := 22 } kc ks (some (.int r)) M' G) (rc107 : Int32 → Int64 → Int32 → Mm → Option (Int32 × Mm)) (hrc107 : ∀ (x3 : Int32) (x4 : Int64) (x7 : Int32) (M : Mm), rc107 x3 x4 x7 M = some (r, M') → G 107 [(3, .int x3), (4, .long x4), (7, .int x7)] [] M) : ∀ (x3 : Int32) (x4 : Int64) (x7 : Int32) (M : Mm), blp_M_letter_0_107 rc107 x3 x4 x7 M = some (r, M') → G 107 [(3, .int x3), (4, .long x4), (7, .int x7)] [] M := by
  intro x3 x4 x7 M hf
  unfold blp_M_letter_0_107 at hf
  refine rx_iload hG dX10_letter_107 2 rfl ?_
  refine rx_iload_n hG dX10_letter_109 0 rfl ?_
  refine rx_icmp_le hG 127 dX10_letter_110 rfl (fun c1 => ?_) (fun c1 => ?_)
  · have hf := ifT hf c1
    refine rx_lload hG dX10_letter_127 1 rfl ?_
    refine rx_ldc2 hG q_1297 dX10_letter_129 ?_
    obtain ⟨w2, hw2, hf⟩ := bindE hf
    refine rx_lrem hG hw2 dX10_letter_132 ?_
    refine rx_l2i hG dX10_letter_133 ?_
    refine rx_iconst hG 1 dX10_letter_134 ic_1 ?_
    refine rx_isub hG dX10_letter_135 ?_
    cases hf
    exact rx_iret hG dX10_letter_136
  · have hf := ifF hf c1
    refine rx_lload hG dX10_letter_113 1 rfl ?_
    refine rx_ldc2 hG q_1297 dX10_letter_115 ?_
    obtain ⟨w3, hw3, hf⟩ := bindE hf
    refine rx_ldiv hG hw3 dX10_letter_118 ?_
    refine rx_lstore (lv2 := [(4, .long w3), (3, .int x3), (7, .int x7)]) hG dX10_letter_119 (Nat.le_of_ble_eq_true rfl) rfl ?_
    refine rx_iinc (lv2 := [(7, .int (x7 + (-1))), (4, .long w3), (3, .int x3)]) hG (-1) dX10_letter_121 ic_m1 2 rfl (Nat.le_of_ble_eq_true rfl) rfl ?_
    refine rx_goto hG 107 dX10_letter_124 rfl ?_
    refine rx_sub hG [2, 1, 0] (lv' := [(3, .int x3), (4, .long w3), (7, .int (x7 + (-1)))]) rfl ?_
    exact hrc107 x3 w3 (x7 + (-1)) M hf
theorem Llp_M_letter_0_107 (l : Launch) (E : En) (T : List Sk) {a0 b0 kc ks : Nat} {r : Int32} {M' : Mm} {G : Nat → List (Nat × Value) → List Value → Mm → Prop} (hG : RX l (SKM ++ T) E RX10 cX10_letter 9 (some .int) { frames := 1, cells := a0, slots := b0, locals := 22 } kc ks (some (.int r)) M' G)  : ∀ (n : Nat) (x3 : Int32) (x4 : Int64) (x7 : Int32) (M : Mm), lp_M_letter_0_107  n x3 x4 x7 M = some (r, M') → G 107 [(3, .int x3), (4, .long x4), (7, .int x7)] [] M := by
  intro n
  induction n with
  | zero => intro x3 x4 x7 M hf; cases hf
  | succ n ih => intro x3 x4 x7 M hf; exact Lblp_M_letter_0_107 l E T hG  (lp_M_letter_0_107  n) ih x3 x4 x7 M hf
set_option maxHeartbeats 4000000 in
set_option maxRecDepth 100000 in
theorem Lj_M_letter_0_82 (l : Launch) (E : En) (T : List Sk) {a0 b0 kc ks : Nat} {r : Int32} {M' : Mm} {G : Nat → List (Nat × Value) → List Value → Mm → Prop} (hG : RX l (SKM ++ T) E RX10 cX10_letter 9 (some .int) { frames := 1, cells := a0, slots := b0, locals := 22 } kc ks (some (.int r)) M' G)  : ∀ (x3 : Int32) (x4 : Int64) (x6 : Int32) (M : Mm), j_M_letter_0_82  x3 x4 x6 M = some (r, M') → G 82 [(0, .ref (adr E 0)), (3, .int x3), (4, .long x4), (6, .int x6)] [] M := by
  intro x3 x4 x6 M hf
  unfold j_M_letter_0_82 at hf
  refine rx_iload_n hG dX10_letter_82 1 rfl ?_
  refine rx_iconst hG 0 dX10_letter_83 ic_0 ?_
  refine rx_iload hG dX10_letter_84 3 rfl ?_
  refine rx_iconst hG 1 dX10_letter_86 ic_1 ?_
  refine rx_isub hG dX10_letter_87 ?_
  obtain ⟨v1, hv1, hf⟩ := bindE hf
  refine rx_cSi hG (c_M_in l E (SKM ++ T) x3 0 (x6 - 1) hv1) kw_M_95 ⟨Nat.le_of_ble_eq_true rfl, Nat.le_of_ble_eq_true rfl⟩ rfl (Nat.le_of_ble_eq_true rfl) dX10_letter_88 ?_
  refine rx_if_ne hG 101 dX10_letter_91 rfl (fun c2 => ?_) (fun c2 => ?_)
  · have hf := ifF hf c2
    refine rx_iload hG dX10_letter_101 3 rfl ?_
    refine rx_iconst hG 1 dX10_letter_103 ic_1 ?_
    refine rx_isub hG dX10_letter_104 ?_
    refine rx_istore (lv2 := [(7, .int (x6 - 1)), (0, .ref (adr E 0)), (3, .int x3), (4, .long x4), (6, .int x6)]) hG dX10_letter_105 (Nat.le_of_ble_eq_true rfl) rfl ?_
    refine rx_sub hG [2, 3, 0] (lv' := [(3, .int x3), (4, .long x4), (7, .int (x6 - 1))]) rfl ?_
    exact Llp_M_letter_0_107 l E T hG  FW x3 x4 (x6 - 1) M hf
  · have hf := ifT hf c2
    refine rx_aload_n hG dX10_letter_94 0 rfl ?_
    refine rx_iconst hG 1 dX10_letter_95 ic_1 ?_
    obtain ⟨M3, hM3, hf⟩ := bindE hf
    refine pfM_M_74_0 l E T hG hM3 dX10_letter_96 ?_
    refine rx_iconst hG 0 dX10_letter_99 ic_0 ?_
    cases hf
    exact rx_iret hG dX10_letter_100
set_option maxHeartbeats 4000000 in
set_option maxRecDepth 100000 in
theorem Lblp_M_letter_0_61 (l : Launch) (E : En) (T : List Sk) {a0 b0 kc ks : Nat} {r : Int32} {M' : Mm} {G : Nat → List (Nat × Value) → List Value → Mm → Prop} (hG : RX l (SKM ++ T) E RX10 cX10_letter 9 (some .int) { frames := 1, cells := a0, slots := b0, locals := 22 } kc ks (some (.int r)) M' G) (rc61 : Int32 → Int64 → Int32 → Int64 → Mm → Option (Int32 × Mm)) (hrc61 : ∀ (x3 : Int32) (x4 : Int64) (x6 : Int32) (x7 : Int64) (M : Mm), rc61 x3 x4 x6 x7 M = some (r, M') → G 61 [(0, .ref (adr E 0)), (3, .int x3), (4, .long x4), (6, .int x6), (7, .long x7)] [] M) : ∀ (x3 : Int32) (x4 : Int64) (x6 : Int32) (x7 : Int64) (M : Mm), blp_M_letter_0_61 rc61 x3 x4 x6 x7 M = some (r, M') → G 61 [(0, .ref (adr E 0)), (3, .int x3), (4, .long x4), (6, .int x6), (7, .long x7)] [] M := by
  intro x3 x4 x6 x7 M hf
  unfold blp_M_letter_0_61 at hf
  refine rx_lload hG dX10_letter_61 4 rfl ?_
  refine rx_lconst hG 0 dX10_letter_63 lc_0 ?_
  refine rx_lcmp hG dX10_letter_64 ?_
  refine rx_if_le hG 82 dX10_letter_65 rfl (fun c1 => ?_) (fun c1 => ?_)
  · have hf := ifT hf c1
    refine rx_sub hG [0, 1, 2, 3] (lv' := [(0, .ref (adr E 0)), (3, .int x3), (4, .long x4), (6, .int x6)]) rfl ?_
    exact Lj_M_letter_0_82 l E T hG  x3 x4 x6 M hf
  · have hf := ifF hf c1
    refine rx_iinc (lv2 := [(6, .int (x6 + 1)), (0, .ref (adr E 0)), (3, .int x3), (4, .long x4), (7, .long x7)]) hG 1 dX10_letter_68 ic_1 3 rfl (Nat.le_of_ble_eq_true rfl) rfl ?_
    refine rx_lload hG dX10_letter_71 4 rfl ?_
    refine rx_ldc2 hG q_1297 dX10_letter_73 ?_
    obtain ⟨w2, hw2, hf⟩ := bindE hf
    refine rx_ldiv hG hw2 dX10_letter_76 ?_
    refine rx_lstore (lv2 := [(7, .long w2), (6, .int (x6 + 1)), (0, .ref (adr E 0)), (3, .int x3), (4, .long x4)]) hG dX10_letter_77 (Nat.le_of_ble_eq_true rfl) rfl ?_
    refine rx_goto hG 61 dX10_letter_79 rfl ?_
    refine rx_sub hG [2, 3, 4, 1, 0] (lv' := [(0, .ref (adr E 0)), (3, .int x3), (4, .long x4), (6, .int (x6 + 1)), (7, .long w2)]) rfl ?_
    exact hrc61 x3 x4 (x6 + 1) w2 M hf
theorem Llp_M_letter_0_61 (l : Launch) (E : En) (T : List Sk) {a0 b0 kc ks : Nat} {r : Int32} {M' : Mm} {G : Nat → List (Nat × Value) → List Value → Mm → Prop} (hG : RX l (SKM ++ T) E RX10 cX10_letter 9 (some .int) { frames := 1, cells := a0, slots := b0, locals := 22 } kc ks (some (.int r)) M' G)  : ∀ (n : Nat) (x3 : Int32) (x4 : Int64) (x6 : Int32) (x7 : Int64) (M : Mm), lp_M_letter_0_61  n x3 x4 x6 x7 M = some (r, M') → G 61 [(0, .ref (adr E 0)), (3, .int x3), (4, .long x4), (6, .int x6), (7, .long x7)] [] M := by
  intro n
  induction n with
  | zero => intro x3 x4 x6 x7 M hf; cases hf
  | succ n ih => intro x3 x4 x6 x7 M hf; exact Lblp_M_letter_0_61 l E T hG  (lp_M_letter_0_61  n) ih x3 x4 x6 x7 M hf
set_option maxHeartbeats 4000000 in
set_option maxRecDepth 100000 in
theorem Lj_M_letter_0_54 (l : Launch) (E : En) (T : List Sk) {a0 b0 kc ks : Nat} {r : Int32} {M' : Mm} {G : Nat → List (Nat × Value) → List Value → Mm → Prop} (hG : RX l (SKM ++ T) E RX10 cX10_letter 9 (some .int) { frames := 1, cells := a0, slots := b0, locals := 22 } kc ks (some (.int r)) M' G)  : ∀ (x3 : Int32) (x4 : Int64) (M : Mm), j_M_letter_0_54  x3 x4 M = some (r, M') → G 54 [(0, .ref (adr E 0)), (3, .int x3), (4, .long x4)] [] M := by
  intro x3 x4 M hf
  unfold j_M_letter_0_54 at hf
  refine rx_iconst hG 0 dX10_letter_54 ic_0 ?_
  refine rx_istore (lv2 := [(6, .int 0), (0, .ref (adr E 0)), (3, .int x3), (4, .long x4)]) hG dX10_letter_55 (Nat.le_of_ble_eq_true rfl) rfl ?_
  refine rx_lload hG dX10_letter_57 3 rfl ?_
  refine rx_lstore (lv2 := [(7, .long x4), (6, .int 0), (0, .ref (adr E 0)), (3, .int x3), (4, .long x4)]) hG dX10_letter_59 (Nat.le_of_ble_eq_true rfl) rfl ?_
  refine rx_sub hG [2, 3, 4, 1, 0] (lv' := [(0, .ref (adr E 0)), (3, .int x3), (4, .long x4), (6, .int 0), (7, .long x4)]) rfl ?_
  exact Llp_M_letter_0_61 l E T hG  FW x3 x4 0 x4 M hf
set_option maxHeartbeats 4000000 in
set_option maxRecDepth 100000 in
theorem Lj_M_letter_0_52 (l : Launch) (E : En) (T : List Sk) {a0 b0 kc ks : Nat} {r : Int32} {M' : Mm} {G : Nat → List (Nat × Value) → List Value → Mm → Prop} (hG : RX l (SKM ++ T) E RX10 cX10_letter 9 (some .int) { frames := 1, cells := a0, slots := b0, locals := 22 } kc ks (some (.int r)) M' G)  : ∀ (x3 : Int32) (t0 : Int64) (M : Mm), j_M_letter_0_52  x3 t0 M = some (r, M') → G 52 [(0, .ref (adr E 0)), (3, .int x3)] [.long t0] M := by
  intro x3 t0 M hf
  unfold j_M_letter_0_52 at hf
  refine rx_lstore (lv2 := [(4, .long t0), (0, .ref (adr E 0)), (3, .int x3)]) hG dX10_letter_52 (Nat.le_of_ble_eq_true rfl) rfl ?_
  refine rx_sub hG [1, 2, 0] (lv' := [(0, .ref (adr E 0)), (3, .int x3), (4, .long t0)]) rfl ?_
  exact Lj_M_letter_0_54 l E T hG  x3 t0 M hf
set_option maxHeartbeats 4000000 in
set_option maxRecDepth 100000 in
theorem Lj_M_letter_0_25 (l : Launch) (E : En) (T : List Sk) {a0 b0 kc ks : Nat} {r : Int32} {M' : Mm} {G : Nat → List (Nat × Value) → List Value → Mm → Prop} (hG : RX l (SKM ++ T) E RX10 cX10_letter 9 (some .int) { frames := 1, cells := a0, slots := b0, locals := 22 } kc ks (some (.int r)) M' G)  : ∀ (x1 : Int32) (x2 : Int32) (x3 : Int32) (x4 : Int64) (t0 : Int32) (t1 : Int32) (t2 : Int32) (M : Mm), j_M_letter_0_25  x1 x2 x3 x4 t0 t1 t2 M = some (r, M') → G 25 [(0, .ref (adr E 0)), (1, .int x1), (2, .int x2), (3, .int x3), (4, .long x4)] [.int t0, .int t1, .int t2] M := by
  intro x1 x2 x3 x4 t0 t1 t2 M hf
  unfold j_M_letter_0_25 at hf
  refine rx_iconst hG 1 dX10_letter_25 ic_1 ?_
  refine rx_isub hG dX10_letter_26 ?_
  obtain ⟨v1, hv1, hf⟩ := bindE hf
  refine rx_cSi hG (c_M_in l E (SKM ++ T) t2 t1 (t0 - 1) hv1) kw_M_95 ⟨Nat.le_of_ble_eq_true rfl, Nat.le_of_ble_eq_true rfl⟩ rfl (Nat.le_of_ble_eq_true rfl) dX10_letter_27 ?_
  refine rx_if_eq hG 54 dX10_letter_30 rfl (fun c2 => ?_) (fun c2 => ?_)
  · have hf := ifT hf c2
    refine rx_sub hG [0, 3, 4] (lv' := [(0, .ref (adr E 0)), (3, .int x3), (4, .long x4)]) rfl ?_
    exact Lj_M_letter_0_54 l E T hG  x3 x4 M hf
  · have hf := ifF hf c2
    refine rx_iload_n hG dX10_letter_33 1 rfl ?_
    refine rx_if_eq hG 46 dX10_letter_34 rfl (fun c3 => ?_) (fun c3 => ?_)
    · have hf := ifT hf c3
      refine rx_aload_n hG dX10_letter_46 0 rfl ?_
      refine gfM_M_21_0 l E T hG dX10_letter_47 ?_
      refine rx_iload_n hG dX10_letter_50 2 rfl ?_
      obtain ⟨w4, hw4, hf⟩ := bindE hf
      refine rx_lald hG (skM3 T) hw4 dX10_letter_51 ?_
      refine rx_sub hG [0, 3] (lv' := [(0, .ref (adr E 0)), (3, .int x3)]) rfl ?_
      exact Lj_M_letter_0_52 l E T hG  x3 w4 M hf
    · have hf := ifF hf c3
      refine rx_aload_n hG dX10_letter_37 0 rfl ?_
      refine gfM_M_17_0 l E T hG dX10_letter_38 ?_
      refine rx_iload_n hG dX10_letter_41 2 rfl ?_
      obtain ⟨w5, hw5, hf⟩ := bindE hf
      refine rx_lald hG (skM2 T) hw5 dX10_letter_42 ?_
      refine rx_goto hG 52 dX10_letter_43 rfl ?_
      refine rx_sub hG [0, 3] (lv' := [(0, .ref (adr E 0)), (3, .int x3)]) rfl ?_
      exact Lj_M_letter_0_52 l E T hG  x3 w5 M hf
set_option maxHeartbeats 4000000 in
set_option maxRecDepth 100000 in
theorem c_M_letter_0 (l : Launch) (E : En) (T : List Sk) (p0 : Int32) (p1 : Int32) (p2 : Int32) {M M' : Mm} {r : Int32} (h : f_M_letter_0 p0 p1 p2 M = some (r, M')) : Ct l (SKM ++ T) E yX10_letter cX10_letter 9 (some .int) 1 22 [.ref (adr E 0), .int p0, .int p1, .int p2] M (some (.int r)) M' := by
  refine ct_of (by decide) (Nat.le_of_ble_eq_true rfl) ?_
  intro G hG
  show G 0 [(0, .ref (adr E 0)), (1, .int p0), (2, .int p1), (3, .int p2)] [] M
  have hf := h
  unfold f_M_letter_0 at hf
  refine rx_aload_n hG dX10_letter_0 0 rfl ?_
  refine rx_iconst hG 0 dX10_letter_1 ic_0 ?_
  obtain ⟨M1, hM1, hf⟩ := bindE hf
  refine pfM_M_74_0 l E T hG hM1 dX10_letter_2 ?_
  refine rx_lconst hG 0 dX10_letter_5 lc_0 ?_
  refine rx_lstore (lv2 := [(4, .long 0), (0, .ref (adr E 0)), (1, .int p0), (2, .int p1), (3, .int p2)]) hG dX10_letter_6 (Nat.le_of_ble_eq_true rfl) rfl ?_
  refine rx_iload_n hG dX10_letter_8 3 rfl ?_
  refine rx_iconst hG 0 dX10_letter_9 ic_0 ?_
  refine rx_iload_n hG dX10_letter_10 2 rfl ?_
  refine rx_if_eq hG 21 dX10_letter_11 rfl (fun c2 => ?_) (fun c2 => ?_)
  · have hf := ifT hf c2
    refine rx_aload_n hG dX10_letter_21 1 rfl ?_
    refine gfM_M_242_0 l E T hG dX10_letter_22 ?_
    refine rx_sub hG [1, 2, 3, 4, 0] (lv' := [(0, .ref (adr E 0)), (1, .int p0), (2, .int p1), (3, .int p2), (4, .long 0)]) rfl ?_
    exact Lj_M_letter_0_25 l E T hG  p0 p1 p2 0 (M1.1 0 23) 0 p1 M1 hf
  · have hf := ifF hf c2
    refine rx_aload_n hG dX10_letter_14 1 rfl ?_
    refine gfM_M_248_0 l E T hG dX10_letter_15 ?_
    refine rx_goto hG 25 dX10_letter_18 rfl ?_
    refine rx_sub hG [1, 2, 3, 4, 0] (lv' := [(0, .ref (adr E 0)), (1, .int p0), (2, .int p1), (3, .int p2), (4, .long 0)]) rfl ?_
    exact Lj_M_letter_0_25 l E T hG  p0 p1 p2 0 (M1.1 0 22) 0 p1 M1 hf
set_option maxHeartbeats 4000000 in
set_option maxRecDepth 100000 in
theorem c_M_bytes_0 (l : Launch) (E : En) (T : List Sk)  {M M' : Mm} {r : Int32} (h : f_M_bytes_0 M = some (r, M')) : Ct l (SKM ++ T) E yX10_bytes cX10_bytes 1 (some .int) 0 0 [.ref (adr E 0)] M (some (.int r)) M' := by
  refine ct_of (by decide) (Nat.le_of_ble_eq_true rfl) ?_
  intro G hG
  show G 0 [(0, .ref (adr E 0))] [] M
  have hf := h
  unfold f_M_bytes_0 at hf
  refine rx_aload_n hG dX10_bytes_0 0 rfl ?_
  refine rx_iconst hG 0 dX10_bytes_1 ic_0 ?_
  obtain ⟨M1, hM1, hf⟩ := bindE hf
  refine pfM_M_74_0 l E T hG hM1 dX10_bytes_2 ?_
  refine rx_aload_n hG dX10_bytes_5 0 rfl ?_
  refine gfM_M_80_0 l E T hG dX10_bytes_6 ?_
  cases hf
  exact rx_iret hG dX10_bytes_9
set_option maxHeartbeats 4000000 in
set_option maxRecDepth 100000 in
theorem c_M_trouble_0 (l : Launch) (E : En) (T : List Sk)  {M M' : Mm} {r : Int32} (h : f_M_trouble_0 M = some (r, M')) : Ct l (SKM ++ T) E yX10_trouble cX10_trouble 1 (some .int) 0 0 [.ref (adr E 0)] M (some (.int r)) M' := by
  refine ct_of (by decide) (Nat.le_of_ble_eq_true rfl) ?_
  intro G hG
  show G 0 [(0, .ref (adr E 0))] [] M
  have hf := h
  unfold f_M_trouble_0 at hf
  refine rx_aload_n hG dX10_trouble_0 0 rfl ?_
  refine rx_iconst hG 0 dX10_trouble_1 ic_0 ?_
  obtain ⟨M1, hM1, hf⟩ := bindE hf
  refine pfM_M_74_0 l E T hG hM1 dX10_trouble_2 ?_
  refine rx_aload_n hG dX10_trouble_5 0 rfl ?_
  refine gfM_M_77_0 l E T hG dX10_trouble_6 ?_
  cases hf
  exact rx_iret hG dX10_trouble_9

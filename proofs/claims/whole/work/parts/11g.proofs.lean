set_option maxHeartbeats 4000000 in
set_option maxRecDepth 100000 in
theorem c_M_orders_0 (l : Launch) (E : En) (T : List Sk) (p0 : Int32) (p1 : Int32) {M M' : Mm} {r : Int32} (h : f_M_orders_0 p0 p1 M = some (r, M')) : Ct l (SKM ++ T) E yX10_orders cX10_orders 3 (some .int) 3 68 [.ref (adr E 0), .int p0, .int p1] M (some (.int r)) M' := by
  refine ct_of (by decide) (Nat.le_of_ble_eq_true rfl) ?_
  intro G hG
  show G 0 [(0, .ref (adr E 0)), (1, .int p0), (2, .int p1)] [] M
  have hf := h
  unfold f_M_orders_0 at hf
  refine rx_aload_n hG dX10_orders_0 0 rfl ?_
  refine rx_iconst hG 0 dX10_orders_1 ic_0 ?_
  obtain ⟨M1, hM1, hf⟩ := bindE hf
  refine pfM_M_74_0 l E T hG hM1 dX10_orders_2 ?_
  refine rx_aload_n hG dX10_orders_5 0 rfl ?_
  refine rx_iload_n hG dX10_orders_6 1 rfl ?_
  obtain ⟨v2, hv2, hf⟩ := bindE hf
  refine rx_cVi hG (c_M_isKind_0 l E T p0 hv2) (skM0 T) rfl rfl kw_M_319 ⟨Nat.le_of_ble_eq_true rfl, Nat.le_of_ble_eq_true rfl⟩ rfl (Nat.le_of_ble_eq_true rfl) dX10_orders_7 ?_
  refine rx_if_eq hG 22 dX10_orders_10 rfl (fun c3 => ?_) (fun c3 => ?_)
  · have hf := ifT hf c3
    refine rx_aload_n hG dX10_orders_22 0 rfl ?_
    refine rx_iconst hG 1 dX10_orders_23 ic_1 ?_
    obtain ⟨q4, hq4, hf⟩ := bindE hf
    refine rx_cVi hG (c_M_refused_0 l E T 1 hq4) (skM0 T) rfl rfl kw_M_232 ⟨Nat.le_of_ble_eq_true rfl, Nat.le_of_ble_eq_true rfl⟩ rfl (Nat.le_of_ble_eq_true rfl) dX10_orders_24 ?_
    cases hf
    exact rx_iret hG dX10_orders_27
  · have hf := ifF hf c3
    refine rx_iload_n hG dX10_orders_13 2 rfl ?_
    refine rx_iconst hG 0 dX10_orders_14 ic_0 ?_
    refine rx_iconst hG 3 dX10_orders_15 ic_3 ?_
    obtain ⟨v5, hv5, hf⟩ := bindE hf
    refine rx_cSi hG (c_M_in l E (SKM ++ T) p1 0 3 hv5) kw_M_95 ⟨Nat.le_of_ble_eq_true rfl, Nat.le_of_ble_eq_true rfl⟩ rfl (Nat.le_of_ble_eq_true rfl) dX10_orders_16 ?_
    refine rx_if_ne hG 28 dX10_orders_19 rfl (fun c6 => ?_) (fun c6 => ?_)
    · have hf := ifF hf c6
      refine rx_iload_n hG dX10_orders_28 2 rfl ?_
      by_cases c7 : p1 = 0
      · have hf := ifT hf c7
        refine rx_tableIn hG 56 0 (by rw [c7]; rfl) dX10_orders_29 (by decide) (by decide) rfl rfl ?_
        refine rx_aload_n hG dX10_orders_56 0 rfl ?_
        refine rx_aload_n hG dX10_orders_57 0 rfl ?_
        refine gfM_M_57_0 l E T hG dX10_orders_58 ?_
        refine rx_iload_n hG dX10_orders_61 1 rfl ?_
        refine rx_iconst hG 0 dX10_orders_62 ic_0 ?_
        obtain ⟨v8, hv8, hf⟩ := bindE hf
        refine rx_cSi hG (c_M_ofKind l E (SKM ++ T) p0 0 hv8) kw_M_274 ⟨Nat.le_of_ble_eq_true rfl, Nat.le_of_ble_eq_true rfl⟩ rfl (Nat.le_of_ble_eq_true rfl) dX10_orders_63 ?_
        obtain ⟨v9, hv9, hf⟩ := bindE hf
        refine rx_iald hG (skM15 T) hv9 dX10_orders_66 ?_
        obtain ⟨q10, hq10, hf⟩ := bindE hf
        refine rx_cVi hG (c_M_good_0 l E T v9 hq10) (skM0 T) rfl rfl kw_M_245 ⟨Nat.le_of_ble_eq_true rfl, Nat.le_of_ble_eq_true rfl⟩ rfl (Nat.le_of_ble_eq_true rfl) dX10_orders_67 ?_
        cases hf
        exact rx_iret hG dX10_orders_70
      have hf := ifF hf c7
      by_cases c11 : p1 = 1
      · have hf := ifT hf c11
        refine rx_tableIn hG 71 1 (by rw [c11]; rfl) dX10_orders_29 (by decide) (by decide) rfl rfl ?_
        refine rx_aload_n hG dX10_orders_71 0 rfl ?_
        refine rx_aload_n hG dX10_orders_72 0 rfl ?_
        refine gfM_M_57_0 l E T hG dX10_orders_73 ?_
        refine rx_iload_n hG dX10_orders_76 1 rfl ?_
        refine rx_iconst hG 1 dX10_orders_77 ic_1 ?_
        obtain ⟨v12, hv12, hf⟩ := bindE hf
        refine rx_cSi hG (c_M_ofKind l E (SKM ++ T) p0 1 hv12) kw_M_274 ⟨Nat.le_of_ble_eq_true rfl, Nat.le_of_ble_eq_true rfl⟩ rfl (Nat.le_of_ble_eq_true rfl) dX10_orders_78 ?_
        obtain ⟨v13, hv13, hf⟩ := bindE hf
        refine rx_iald hG (skM15 T) hv13 dX10_orders_81 ?_
        obtain ⟨q14, hq14, hf⟩ := bindE hf
        refine rx_cVi hG (c_M_good_0 l E T v13 hq14) (skM0 T) rfl rfl kw_M_245 ⟨Nat.le_of_ble_eq_true rfl, Nat.le_of_ble_eq_true rfl⟩ rfl (Nat.le_of_ble_eq_true rfl) dX10_orders_82 ?_
        cases hf
        exact rx_iret hG dX10_orders_85
      have hf := ifF hf c11
      by_cases c15 : p1 = 2
      · have hf := ifT hf c15
        refine rx_tableIn hG 86 2 (by rw [c15]; rfl) dX10_orders_29 (by decide) (by decide) rfl rfl ?_
        refine rx_aload_n hG dX10_orders_86 0 rfl ?_
        refine rx_aload_n hG dX10_orders_87 0 rfl ?_
        refine rx_iload_n hG dX10_orders_88 1 rfl ?_
        obtain ⟨v16, hv16, hf⟩ := bindE hf
        refine rx_cVi hG (c_M_waits_0 l E T p0 hv16) (skM0 T) rfl rfl kw_M_333 ⟨Nat.le_of_ble_eq_true rfl, Nat.le_of_ble_eq_true rfl⟩ rfl (Nat.le_of_ble_eq_true rfl) dX10_orders_89 ?_
        obtain ⟨q17, hq17, hf⟩ := bindE hf
        refine rx_cVi hG (c_M_good_0 l E T v16 hq17) (skM0 T) rfl rfl kw_M_245 ⟨Nat.le_of_ble_eq_true rfl, Nat.le_of_ble_eq_true rfl⟩ rfl (Nat.le_of_ble_eq_true rfl) dX10_orders_92 ?_
        cases hf
        exact rx_iret hG dX10_orders_95
      have hf := ifF hf c15
      refine rx_tableOut hG 96 dX10_orders_29 (by have := tiN c7 (z := 0) rfl; have := tiN c11 (z := 1) rfl; have := tiN c15 (z := 2) rfl; omega) rfl ?_
      refine rx_aload_n hG dX10_orders_96 0 rfl ?_
      refine rx_aload_n hG dX10_orders_97 0 rfl ?_
      refine rx_iload_n hG dX10_orders_98 1 rfl ?_
      obtain ⟨v18, hv18, hf⟩ := bindE hf
      refine rx_cVi hG (c_M_waited_0 l E T p0 hv18) (skM0 T) rfl rfl kw_M_336 ⟨Nat.le_of_ble_eq_true rfl, Nat.le_of_ble_eq_true rfl⟩ rfl (Nat.le_of_ble_eq_true rfl) dX10_orders_99 ?_
      obtain ⟨q19, hq19, hf⟩ := bindE hf
      refine rx_cVi hG (c_M_good_0 l E T v18 hq19) (skM0 T) rfl rfl kw_M_245 ⟨Nat.le_of_ble_eq_true rfl, Nat.le_of_ble_eq_true rfl⟩ rfl (Nat.le_of_ble_eq_true rfl) dX10_orders_102 ?_
      cases hf
      exact rx_iret hG dX10_orders_105
    · have hf := ifT hf c6
      refine rx_aload_n hG dX10_orders_22 0 rfl ?_
      refine rx_iconst hG 1 dX10_orders_23 ic_1 ?_
      obtain ⟨q20, hq20, hf⟩ := bindE hf
      refine rx_cVi hG (c_M_refused_0 l E T 1 hq20) (skM0 T) rfl rfl kw_M_232 ⟨Nat.le_of_ble_eq_true rfl, Nat.le_of_ble_eq_true rfl⟩ rfl (Nat.le_of_ble_eq_true rfl) dX10_orders_24 ?_
      cases hf
      exact rx_iret hG dX10_orders_27
set_option maxHeartbeats 4000000 in
set_option maxRecDepth 100000 in
theorem c_M_starved_0 (l : Launch) (E : En) (T : List Sk) (p0 : Int32) {M M' : Mm} {r : Int32} (h : f_M_starved_0 p0 M = some (r, M')) : Ct l (SKM ++ T) E yX10_starved cX10_starved 2 (some .int) 1 22 [.ref (adr E 0), .int p0] M (some (.int r)) M' := by
  refine ct_of (by decide) (Nat.le_of_ble_eq_true rfl) ?_
  intro G hG
  show G 0 [(0, .ref (adr E 0)), (1, .int p0)] [] M
  have hf := h
  unfold f_M_starved_0 at hf
  refine rx_aload_n hG dX10_starved_0 0 rfl ?_
  refine rx_iconst hG 0 dX10_starved_1 ic_0 ?_
  obtain ⟨M1, hM1, hf⟩ := bindE hf
  refine pfM_M_74_0 l E T hG hM1 dX10_starved_2 ?_
  refine rx_aload_n hG dX10_starved_5 0 rfl ?_
  refine gfM_M_257_0 l E T hG dX10_starved_6 ?_
  refine rx_if_eq hG 21 dX10_starved_9 rfl (fun c2 => ?_) (fun c2 => ?_)
  · have hf := ifT hf c2
    refine rx_aload_n hG dX10_starved_21 0 rfl ?_
    refine rx_iconst hG 1 dX10_starved_22 ic_1 ?_
    obtain ⟨q3, hq3, hf⟩ := bindE hf
    refine rx_cVi hG (c_M_refused_0 l E T 1 hq3) (skM0 T) rfl rfl kw_M_232 ⟨Nat.le_of_ble_eq_true rfl, Nat.le_of_ble_eq_true rfl⟩ rfl (Nat.le_of_ble_eq_true rfl) dX10_starved_23 ?_
    cases hf
    exact rx_iret hG dX10_starved_26
  · have hf := ifF hf c2
    refine rx_iload_n hG dX10_starved_12 1 rfl ?_
    refine rx_iconst hG 0 dX10_starved_13 ic_0 ?_
    refine rx_iconst hG 1 dX10_starved_14 ic_1 ?_
    obtain ⟨v4, hv4, hf⟩ := bindE hf
    refine rx_cSi hG (c_M_in l E (SKM ++ T) p0 0 1 hv4) kw_M_95 ⟨Nat.le_of_ble_eq_true rfl, Nat.le_of_ble_eq_true rfl⟩ rfl (Nat.le_of_ble_eq_true rfl) dX10_starved_15 ?_
    refine rx_if_ne hG 27 dX10_starved_18 rfl (fun c5 => ?_) (fun c5 => ?_)
    · have hf := ifF hf c5
      refine rx_aload_n hG dX10_starved_27 0 rfl ?_
      refine gfM_M_57_0 l E T hG dX10_starved_28 ?_
      refine rx_iconst hG 1 dX10_starved_31 ic_1 ?_
      obtain ⟨v6, hv6, hf⟩ := bindE hf
      refine rx_iald hG (skM15 T) hv6 dX10_starved_32 ?_
      refine rx_iconst hG (-1) dX10_starved_33 ic_m1 ?_
      refine rx_icmp_ne hG 44 dX10_starved_34 rfl (fun c7 => ?_) (fun c7 => ?_)
      · have hf := ifF hf c7
        refine rx_aload_n hG dX10_starved_44 0 rfl ?_
        refine rx_iload_n hG dX10_starved_45 1 rfl ?_
        refine rx_if_ne hG 58 dX10_starved_46 rfl (fun c8 => ?_) (fun c8 => ?_)
        · have hf := ifF hf c8
          refine rx_aload_n hG dX10_starved_58 0 rfl ?_
          refine gfM_M_57_0 l E T hG dX10_starved_59 ?_
          refine rx_iconst hG 2 dX10_starved_62 ic_2 ?_
          obtain ⟨v9, hv9, hf⟩ := bindE hf
          refine rx_iald hG (skM15 T) hv9 dX10_starved_63 ?_
          obtain ⟨q10, hq10, hf⟩ := bindE hf
          refine rx_cVi hG (c_M_good_0 l E T v9 hq10) (skM0 T) rfl rfl kw_M_245 ⟨Nat.le_of_ble_eq_true rfl, Nat.le_of_ble_eq_true rfl⟩ rfl (Nat.le_of_ble_eq_true rfl) dX10_starved_64 ?_
          cases hf
          exact rx_iret hG dX10_starved_67
        · have hf := ifT hf c8
          refine rx_aload_n hG dX10_starved_49 0 rfl ?_
          refine gfM_M_57_0 l E T hG dX10_starved_50 ?_
          refine rx_iconst hG 1 dX10_starved_53 ic_1 ?_
          obtain ⟨v11, hv11, hf⟩ := bindE hf
          refine rx_iald hG (skM15 T) hv11 dX10_starved_54 ?_
          refine rx_goto hG 64 dX10_starved_55 rfl ?_
          obtain ⟨q12, hq12, hf⟩ := bindE hf
          refine rx_cVi hG (c_M_good_0 l E T v11 hq12) (skM0 T) rfl rfl kw_M_245 ⟨Nat.le_of_ble_eq_true rfl, Nat.le_of_ble_eq_true rfl⟩ rfl (Nat.le_of_ble_eq_true rfl) dX10_starved_64 ?_
          cases hf
          exact rx_iret hG dX10_starved_67
      · have hf := ifT hf c7
        refine rx_aload_n hG dX10_starved_37 0 rfl ?_
        refine rx_bipush hG 6 dX10_starved_38 bp_6 ?_
        obtain ⟨q13, hq13, hf⟩ := bindE hf
        refine rx_cVi hG (c_M_refused_0 l E T 6 hq13) (skM0 T) rfl rfl kw_M_232 ⟨Nat.le_of_ble_eq_true rfl, Nat.le_of_ble_eq_true rfl⟩ rfl (Nat.le_of_ble_eq_true rfl) dX10_starved_40 ?_
        cases hf
        exact rx_iret hG dX10_starved_43
    · have hf := ifT hf c5
      refine rx_aload_n hG dX10_starved_21 0 rfl ?_
      refine rx_iconst hG 1 dX10_starved_22 ic_1 ?_
      obtain ⟨q14, hq14, hf⟩ := bindE hf
      refine rx_cVi hG (c_M_refused_0 l E T 1 hq14) (skM0 T) rfl rfl kw_M_232 ⟨Nat.le_of_ble_eq_true rfl, Nat.le_of_ble_eq_true rfl⟩ rfl (Nat.le_of_ble_eq_true rfl) dX10_starved_23 ?_
      cases hf
      exact rx_iret hG dX10_starved_26
set_option maxHeartbeats 4000000 in
set_option maxRecDepth 100000 in
theorem Lblp_M_common_4 (l : Launch) (E : En) (T : List Sk) {a0 b0 kc ks : Nat} {r : Int32} {M : Mm} {G : Nat → List (Nat × Value) → List Value → Mm → Prop} (hG : RX l T E RX10 cX10_common 5 (some .int) { frames := 0, cells := a0, slots := b0, locals := 0 } kc ks (some (.int r)) M G) (rc4 : Int32 → Int32 → Option Int32) (hrc4 : ∀ (x2 : Int32) (x3 : Int32), rc4 x2 x3 = some r → G 4 [(2, .int x2), (3, .int x3)] [] M) : ∀ (x2 : Int32) (x3 : Int32), blp_M_common_4 rc4 x2 x3 = some r → G 4 [(2, .int x2), (3, .int x3)] [] M := by
  intro x2 x3 hf
  unfold blp_M_common_4 at hf
  refine rx_iload_n hG dX10_common_4 1 rfl ?_
  refine rx_if_eq hG 21 dX10_common_5 rfl (fun c1 => ?_) (fun c1 => ?_)
  · have hf := ifT hf c1
    refine rx_iload_n hG dX10_common_21 0 rfl ?_
    cases hf
    exact rx_iret hG dX10_common_22
  · have hf := ifF hf c1
    refine rx_iload_n hG dX10_common_8 0 rfl ?_
    refine rx_iload_n hG dX10_common_9 1 rfl ?_
    obtain ⟨v2, hv2, hf⟩ := bindE hf
    refine rx_irem hG hv2 dX10_common_10 ?_
    refine rx_istore (lv2 := [(4, .int v2), (2, .int x2), (3, .int x3)]) hG dX10_common_11 (Nat.le_of_ble_eq_true rfl) rfl ?_
    refine rx_iload_n hG dX10_common_13 2 rfl ?_
    refine rx_istore_n (lv2 := [(2, .int x3), (4, .int v2), (3, .int x3)]) hG dX10_common_14 (Nat.le_of_ble_eq_true rfl) rfl ?_
    refine rx_iload hG dX10_common_15 1 rfl ?_
    refine rx_istore_n (lv2 := [(3, .int v2), (2, .int x3), (4, .int v2)]) hG dX10_common_17 (Nat.le_of_ble_eq_true rfl) rfl ?_
    refine rx_goto hG 4 dX10_common_18 rfl ?_
    refine rx_sub hG [1, 0] (lv' := [(2, .int x3), (3, .int v2)]) rfl ?_
    exact hrc4 x3 v2 hf
theorem Llp_M_common_4 (l : Launch) (E : En) (T : List Sk) {a0 b0 kc ks : Nat} {r : Int32} {M : Mm} {G : Nat → List (Nat × Value) → List Value → Mm → Prop} (hG : RX l T E RX10 cX10_common 5 (some .int) { frames := 0, cells := a0, slots := b0, locals := 0 } kc ks (some (.int r)) M G)  : ∀ (n : Nat) (x2 : Int32) (x3 : Int32), lp_M_common_4  n x2 x3 = some r → G 4 [(2, .int x2), (3, .int x3)] [] M := by
  intro n
  induction n with
  | zero => intro x2 x3 hf; cases hf
  | succ n ih => intro x2 x3 hf; exact Lblp_M_common_4 l E T hG  (lp_M_common_4  n) ih x2 x3 hf
set_option maxHeartbeats 4000000 in
set_option maxRecDepth 100000 in
theorem c_M_common (l : Launch) (E : En) (T : List Sk) (p0 : Int32) (p1 : Int32) {M : Mm} {r : Int32} (h : f_M_common p0 p1 = some r) : Ct l T E yX10_common cX10_common 5 (some .int) 0 0 [.int p0, .int p1] M (some (.int r)) M := by
  refine ct_of (by decide) (Nat.le_of_ble_eq_true rfl) ?_
  intro G hG
  show G 0 [(0, .int p0), (1, .int p1)] [] M
  have hf := h
  unfold f_M_common at hf
  refine rx_iload_n hG dX10_common_0 0 rfl ?_
  refine rx_istore_n (lv2 := [(2, .int p0), (0, .int p0), (1, .int p1)]) hG dX10_common_1 (Nat.le_of_ble_eq_true rfl) rfl ?_
  refine rx_iload_n hG dX10_common_2 2 rfl ?_
  refine rx_istore_n (lv2 := [(3, .int p1), (2, .int p0), (0, .int p0), (1, .int p1)]) hG dX10_common_3 (Nat.le_of_ble_eq_true rfl) rfl ?_
  refine rx_sub hG [1, 0] (lv' := [(2, .int p0), (3, .int p1)]) rfl ?_
  exact Llp_M_common_4 l E T hG  FW p0 p1 hf
set_option maxHeartbeats 4000000 in
set_option maxRecDepth 100000 in
theorem c_M_rate_0 (l : Launch) (E : En) (T : List Sk) (p0 : Int32) {M M' : Mm} {r : Int32} (h : f_M_rate_0 p0 M = some (r, M')) : Ct l (SKM ++ T) E yX10_rate cX10_rate 4 (some .int) 2 44 [.ref (adr E 0), .int p0] M (some (.int r)) M' := by
  refine ct_of (by decide) (Nat.le_of_ble_eq_true rfl) ?_
  intro G hG
  show G 0 [(0, .ref (adr E 0)), (1, .int p0)] [] M
  have hf := h
  unfold f_M_rate_0 at hf
  refine rx_aload_n hG dX10_rate_0 0 rfl ?_
  refine rx_iconst hG 0 dX10_rate_1 ic_0 ?_
  obtain ⟨M1, hM1, hf⟩ := bindE hf
  refine pfM_M_74_0 l E T hG hM1 dX10_rate_2 ?_
  refine rx_aload_n hG dX10_rate_5 0 rfl ?_
  refine gfM_M_257_0 l E T hG dX10_rate_6 ?_
  refine rx_if_eq hG 21 dX10_rate_9 rfl (fun c2 => ?_) (fun c2 => ?_)
  · have hf := ifT hf c2
    refine rx_aload_n hG dX10_rate_21 0 rfl ?_
    refine rx_iconst hG 1 dX10_rate_22 ic_1 ?_
    obtain ⟨q3, hq3, hf⟩ := bindE hf
    refine rx_cVi hG (c_M_refused_0 l E T 1 hq3) (skM0 T) rfl rfl kw_M_232 ⟨Nat.le_of_ble_eq_true rfl, Nat.le_of_ble_eq_true rfl⟩ rfl (Nat.le_of_ble_eq_true rfl) dX10_rate_23 ?_
    cases hf
    exact rx_iret hG dX10_rate_26
  · have hf := ifF hf c2
    refine rx_iload_n hG dX10_rate_12 1 rfl ?_
    refine rx_iconst hG 0 dX10_rate_13 ic_0 ?_
    refine rx_iconst hG 1 dX10_rate_14 ic_1 ?_
    obtain ⟨v4, hv4, hf⟩ := bindE hf
    refine rx_cSi hG (c_M_in l E (SKM ++ T) p0 0 1 hv4) kw_M_95 ⟨Nat.le_of_ble_eq_true rfl, Nat.le_of_ble_eq_true rfl⟩ rfl (Nat.le_of_ble_eq_true rfl) dX10_rate_15 ?_
    refine rx_if_ne hG 27 dX10_rate_18 rfl (fun c5 => ?_) (fun c5 => ?_)
    · have hf := ifF hf c5
      refine rx_aload_n hG dX10_rate_27 0 rfl ?_
      refine gfM_M_57_0 l E T hG dX10_rate_28 ?_
      refine rx_iconst hG 0 dX10_rate_31 ic_0 ?_
      obtain ⟨v6, hv6, hf⟩ := bindE hf
      refine rx_iald hG (skM15 T) hv6 dX10_rate_32 ?_
      refine rx_if_ne hG 42 dX10_rate_33 rfl (fun c7 => ?_) (fun c7 => ?_)
      · have hf := ifF hf c7
        refine rx_aload_n hG dX10_rate_42 0 rfl ?_
        refine rx_aload_n hG dX10_rate_43 0 rfl ?_
        refine gfM_M_57_0 l E T hG dX10_rate_44 ?_
        obtain ⟨v8, hv8, hf⟩ := bindE hf
        refine rx_cVi hG (c_M_delivered_0_15 l E T  hv8) (skM0 T) rfl rfl kw_M_325 ⟨Nat.le_of_ble_eq_true rfl, Nat.le_of_ble_eq_true rfl⟩ rfl (Nat.le_of_ble_eq_true rfl) dX10_rate_47 ?_
        refine rx_istore_n (lv2 := [(2, .int v8), (0, .ref (adr E 0)), (1, .int p0)]) hG dX10_rate_50 (Nat.le_of_ble_eq_true rfl) rfl ?_
        refine rx_iload_n hG dX10_rate_51 0 rfl ?_
        refine rx_aload_n hG dX10_rate_52 1 rfl ?_
        refine gfM_M_57_0 l E T hG dX10_rate_53 ?_
        refine rx_iconst hG 0 dX10_rate_56 ic_0 ?_
        obtain ⟨v9, hv9, hf⟩ := bindE hf
        refine rx_iald hG (skM15 T) hv9 dX10_rate_57 ?_
        obtain ⟨v10, hv10, hf⟩ := bindE hf
        refine rx_cSi hG (c_M_common l E (SKM ++ T) v8 v9 hv10) kw_M_339 ⟨Nat.le_of_ble_eq_true rfl, Nat.le_of_ble_eq_true rfl⟩ rfl (Nat.le_of_ble_eq_true rfl) dX10_rate_58 ?_
        refine rx_istore_n (lv2 := [(3, .int v10), (2, .int v8), (0, .ref (adr E 0)), (1, .int p0)]) hG dX10_rate_61 (Nat.le_of_ble_eq_true rfl) rfl ?_
        refine rx_aload_n hG dX10_rate_62 2 rfl ?_
        refine rx_iload_n hG dX10_rate_63 3 rfl ?_
        refine rx_if_ne hG 71 dX10_rate_64 rfl (fun c11 => ?_) (fun c11 => ?_)
        · have hf := ifF hf c11
          refine rx_aload_n hG dX10_rate_71 2 rfl ?_
          refine gfM_M_57_0 l E T hG dX10_rate_72 ?_
          refine rx_iconst hG 0 dX10_rate_75 ic_0 ?_
          obtain ⟨v12, hv12, hf⟩ := bindE hf
          refine rx_iald hG (skM15 T) hv12 dX10_rate_76 ?_
          refine rx_iload_n hG dX10_rate_77 0 rfl ?_
          obtain ⟨v13, hv13, hf⟩ := bindE hf
          refine rx_idiv hG hv13 dX10_rate_78 ?_
          obtain ⟨q14, hq14, hf⟩ := bindE hf
          refine rx_cVi hG (c_M_good_0 l E T v13 hq14) (skM0 T) rfl rfl kw_M_245 ⟨Nat.le_of_ble_eq_true rfl, Nat.le_of_ble_eq_true rfl⟩ rfl (Nat.le_of_ble_eq_true rfl) dX10_rate_79 ?_
          cases hf
          exact rx_iret hG dX10_rate_82
        · have hf := ifT hf c11
          refine rx_iload_n hG dX10_rate_67 1 rfl ?_
          refine rx_goto hG 77 dX10_rate_68 rfl ?_
          refine rx_iload_n hG dX10_rate_77 0 rfl ?_
          obtain ⟨v15, hv15, hf⟩ := bindE hf
          refine rx_idiv hG hv15 dX10_rate_78 ?_
          obtain ⟨q16, hq16, hf⟩ := bindE hf
          refine rx_cVi hG (c_M_good_0 l E T v15 hq16) (skM0 T) rfl rfl kw_M_245 ⟨Nat.le_of_ble_eq_true rfl, Nat.le_of_ble_eq_true rfl⟩ rfl (Nat.le_of_ble_eq_true rfl) dX10_rate_79 ?_
          cases hf
          exact rx_iret hG dX10_rate_82
      · have hf := ifT hf c7
        refine rx_aload_n hG dX10_rate_36 0 rfl ?_
        refine rx_iconst hG 5 dX10_rate_37 ic_5 ?_
        obtain ⟨q17, hq17, hf⟩ := bindE hf
        refine rx_cVi hG (c_M_refused_0 l E T 5 hq17) (skM0 T) rfl rfl kw_M_232 ⟨Nat.le_of_ble_eq_true rfl, Nat.le_of_ble_eq_true rfl⟩ rfl (Nat.le_of_ble_eq_true rfl) dX10_rate_38 ?_
        cases hf
        exact rx_iret hG dX10_rate_41
    · have hf := ifT hf c5
      refine rx_aload_n hG dX10_rate_21 0 rfl ?_
      refine rx_iconst hG 1 dX10_rate_22 ic_1 ?_
      obtain ⟨q18, hq18, hf⟩ := bindE hf
      refine rx_cVi hG (c_M_refused_0 l E T 1 hq18) (skM0 T) rfl rfl kw_M_232 ⟨Nat.le_of_ble_eq_true rfl, Nat.le_of_ble_eq_true rfl⟩ rfl (Nat.le_of_ble_eq_true rfl) dX10_rate_23 ?_
      cases hf
      exact rx_iret hG dX10_rate_26
set_option maxHeartbeats 4000000 in
set_option maxRecDepth 100000 in
theorem Lj_M_busiest_0_55 (l : Launch) (E : En) (T : List Sk) {a0 b0 kc ks : Nat} {r : Int32} {M' : Mm} {G : Nat → List (Nat × Value) → List Value → Mm → Prop} (hG : RX l (SKM ++ T) E RX10 cX10_busiest 3 (some .int) { frames := 1, cells := a0, slots := b0, locals := 21 } kc ks (some (.int r)) M' G) (rc22 : Int32 → Int32 → Mm → Option (Int32 × Mm)) (hrc22 : ∀ (x1 : Int32) (x2 : Int32) (M : Mm), rc22 x1 x2 M = some (r, M') → G 22 [(0, .ref (adr E 0)), (1, .int x1), (2, .int x2)] [] M) : ∀ (x1 : Int32) (x2 : Int32) (M : Mm), j_M_busiest_0_55 rc22 x1 x2 M = some (r, M') → G 55 [(0, .ref (adr E 0)), (1, .int x1), (2, .int x2)] [] M := by
  intro x1 x2 M hf
  unfold j_M_busiest_0_55 at hf
  refine rx_iinc (lv2 := [(2, .int (x2 + 1)), (0, .ref (adr E 0)), (1, .int x1)]) hG 1 dX10_busiest_55 ic_1 2 rfl (Nat.le_of_ble_eq_true rfl) rfl ?_
  refine rx_goto hG 22 dX10_busiest_58 rfl ?_
  refine rx_sub hG [1, 2, 0] (lv' := [(0, .ref (adr E 0)), (1, .int x1), (2, .int (x2 + 1))]) rfl ?_
  exact hrc22 x1 (x2 + 1) M hf
set_option maxHeartbeats 4000000 in
set_option maxRecDepth 100000 in
theorem Lblp_M_busiest_0_22 (l : Launch) (E : En) (T : List Sk) {a0 b0 kc ks : Nat} {r : Int32} {M' : Mm} {G : Nat → List (Nat × Value) → List Value → Mm → Prop} (hG : RX l (SKM ++ T) E RX10 cX10_busiest 3 (some .int) { frames := 1, cells := a0, slots := b0, locals := 21 } kc ks (some (.int r)) M' G) (rc22 : Int32 → Int32 → Mm → Option (Int32 × Mm)) (hrc22 : ∀ (x1 : Int32) (x2 : Int32) (M : Mm), rc22 x1 x2 M = some (r, M') → G 22 [(0, .ref (adr E 0)), (1, .int x1), (2, .int x2)] [] M) : ∀ (x1 : Int32) (x2 : Int32) (M : Mm), blp_M_busiest_0_22 rc22 x1 x2 M = some (r, M') → G 22 [(0, .ref (adr E 0)), (1, .int x1), (2, .int x2)] [] M := by
  intro x1 x2 M hf
  unfold blp_M_busiest_0_22 at hf
  refine rx_iload_n hG dX10_busiest_22 2 rfl ?_
  refine rx_aload_n hG dX10_busiest_23 0 rfl ?_
  refine gfM_M_242_0 l E T hG dX10_busiest_24 ?_
  refine rx_icmp_ge hG 61 dX10_busiest_27 rfl (fun c1 => ?_) (fun c1 => ?_)
  · have hf := ifT hf c1
    refine rx_aload_n hG dX10_busiest_61 0 rfl ?_
    refine rx_iload_n hG dX10_busiest_62 1 rfl ?_
    obtain ⟨q2, hq2, hf⟩ := bindE hf
    refine rx_cVi hG (c_M_good_0 l E T x1 hq2) (skM0 T) rfl rfl kw_M_245 ⟨Nat.le_of_ble_eq_true rfl, Nat.le_of_ble_eq_true rfl⟩ rfl (Nat.le_of_ble_eq_true rfl) dX10_busiest_63 ?_
    cases hf
    exact rx_iret hG dX10_busiest_66
  · have hf := ifF hf c1
    refine rx_aload_n hG dX10_busiest_30 0 rfl ?_
    refine gfM_M_57_0 l E T hG dX10_busiest_31 ?_
    refine rx_iload_n hG dX10_busiest_34 2 rfl ?_
    refine rx_iconst hG 5 dX10_busiest_35 ic_5 ?_
    obtain ⟨v3, hv3, hf⟩ := bindE hf
    refine rx_cSi hG (c_M_of l E (SKM ++ T) x2 5 hv3) kw_M_264 ⟨Nat.le_of_ble_eq_true rfl, Nat.le_of_ble_eq_true rfl⟩ rfl (Nat.le_of_ble_eq_true rfl) dX10_busiest_36 ?_
    obtain ⟨v4, hv4, hf⟩ := bindE hf
    refine rx_iald hG (skM15 T) hv4 dX10_busiest_39 ?_
    refine rx_aload_n hG dX10_busiest_40 0 rfl ?_
    refine gfM_M_57_0 l E T hG dX10_busiest_41 ?_
    refine rx_iload_n hG dX10_busiest_44 1 rfl ?_
    refine rx_iconst hG 5 dX10_busiest_45 ic_5 ?_
    obtain ⟨v5, hv5, hf⟩ := bindE hf
    refine rx_cSi hG (c_M_of l E (SKM ++ T) x1 5 hv5) kw_M_264 ⟨Nat.le_of_ble_eq_true rfl, Nat.le_of_ble_eq_true rfl⟩ rfl (Nat.le_of_ble_eq_true rfl) dX10_busiest_46 ?_
    obtain ⟨v6, hv6, hf⟩ := bindE hf
    refine rx_iald hG (skM15 T) hv6 dX10_busiest_49 ?_
    refine rx_icmp_le hG 55 dX10_busiest_50 rfl (fun c7 => ?_) (fun c7 => ?_)
    · have hf := ifT hf c7
      exact Lj_M_busiest_0_55 l E T hG rc22 hrc22 x1 x2 M hf
    · have hf := ifF hf c7
      refine rx_iload_n hG dX10_busiest_53 2 rfl ?_
      refine rx_istore_n (lv2 := [(1, .int x2), (0, .ref (adr E 0)), (2, .int x2)]) hG dX10_busiest_54 (Nat.le_of_ble_eq_true rfl) rfl ?_
      refine rx_sub hG [1, 0, 2] (lv' := [(0, .ref (adr E 0)), (1, .int x2), (2, .int x2)]) rfl ?_
      exact Lj_M_busiest_0_55 l E T hG rc22 hrc22 x2 x2 M hf
theorem Llp_M_busiest_0_22 (l : Launch) (E : En) (T : List Sk) {a0 b0 kc ks : Nat} {r : Int32} {M' : Mm} {G : Nat → List (Nat × Value) → List Value → Mm → Prop} (hG : RX l (SKM ++ T) E RX10 cX10_busiest 3 (some .int) { frames := 1, cells := a0, slots := b0, locals := 21 } kc ks (some (.int r)) M' G)  : ∀ (n : Nat) (x1 : Int32) (x2 : Int32) (M : Mm), lp_M_busiest_0_22  n x1 x2 M = some (r, M') → G 22 [(0, .ref (adr E 0)), (1, .int x1), (2, .int x2)] [] M := by
  intro n
  induction n with
  | zero => intro x1 x2 M hf; cases hf
  | succ n ih => intro x1 x2 M hf; exact Lblp_M_busiest_0_22 l E T hG  (lp_M_busiest_0_22  n) ih x1 x2 M hf
set_option maxHeartbeats 4000000 in
set_option maxRecDepth 100000 in
theorem c_M_busiest_0 (l : Launch) (E : En) (T : List Sk)  {M M' : Mm} {r : Int32} (h : f_M_busiest_0 M = some (r, M')) : Ct l (SKM ++ T) E yX10_busiest cX10_busiest 3 (some .int) 1 21 [.ref (adr E 0)] M (some (.int r)) M' := by
  refine ct_of (by decide) (Nat.le_of_ble_eq_true rfl) ?_
  intro G hG
  show G 0 [(0, .ref (adr E 0))] [] M
  have hf := h
  unfold f_M_busiest_0 at hf
  refine rx_aload_n hG dX10_busiest_0 0 rfl ?_
  refine rx_iconst hG 0 dX10_busiest_1 ic_0 ?_
  obtain ⟨M1, hM1, hf⟩ := bindE hf
  refine pfM_M_74_0 l E T hG hM1 dX10_busiest_2 ?_
  refine rx_aload_n hG dX10_busiest_5 0 rfl ?_
  refine gfM_M_257_0 l E T hG dX10_busiest_6 ?_
  refine rx_if_ne hG 18 dX10_busiest_9 rfl (fun c2 => ?_) (fun c2 => ?_)
  · have hf := ifF hf c2
    refine rx_iconst hG 0 dX10_busiest_18 ic_0 ?_
    refine rx_istore_n (lv2 := [(1, .int 0), (0, .ref (adr E 0))]) hG dX10_busiest_19 (Nat.le_of_ble_eq_true rfl) rfl ?_
    refine rx_iconst hG 1 dX10_busiest_20 ic_1 ?_
    refine rx_istore_n (lv2 := [(2, .int 1), (1, .int 0), (0, .ref (adr E 0))]) hG dX10_busiest_21 (Nat.le_of_ble_eq_true rfl) rfl ?_
    refine rx_sub hG [2, 1, 0] (lv' := [(0, .ref (adr E 0)), (1, .int 0), (2, .int 1)]) rfl ?_
    exact Llp_M_busiest_0_22 l E T hG  FW 0 1 M1 hf
  · have hf := ifT hf c2
    refine rx_aload_n hG dX10_busiest_12 0 rfl ?_
    refine rx_iconst hG 1 dX10_busiest_13 ic_1 ?_
    obtain ⟨q3, hq3, hf⟩ := bindE hf
    refine rx_cVi hG (c_M_refused_0 l E T 1 hq3) (skM0 T) rfl rfl kw_M_232 ⟨Nat.le_of_ble_eq_true rfl, Nat.le_of_ble_eq_true rfl⟩ rfl (Nat.le_of_ble_eq_true rfl) dX10_busiest_14 ?_
    cases hf
    exact rx_iret hG dX10_busiest_17
set_option maxHeartbeats 4000000 in
set_option maxRecDepth 100000 in
theorem c_M_peak_0 (l : Launch) (E : En) (T : List Sk) (p0 : Int32) {M M' : Mm} {r : Int32} (h : f_M_peak_0 p0 M = some (r, M')) : Ct l (SKM ++ T) E yX10_peak cX10_peak 2 (some .int) 2 43 [.ref (adr E 0), .int p0] M (some (.int r)) M' := by
  refine ct_of (by decide) (Nat.le_of_ble_eq_true rfl) ?_
  intro G hG
  show G 0 [(0, .ref (adr E 0)), (1, .int p0)] [] M
  have hf := h
  unfold f_M_peak_0 at hf
  refine rx_aload_n hG dX10_peak_0 0 rfl ?_
  refine rx_iconst hG 0 dX10_peak_1 ic_0 ?_
  obtain ⟨M1, hM1, hf⟩ := bindE hf
  refine pfM_M_74_0 l E T hG hM1 dX10_peak_2 ?_
  refine rx_aload_n hG dX10_peak_5 0 rfl ?_
  refine rx_iload_n hG dX10_peak_6 1 rfl ?_
  obtain ⟨v2, hv2, hf⟩ := bindE hf
  refine rx_cVi hG (c_M_isBench_0 l E T p0 hv2) (skM0 T) rfl rfl kw_M_316 ⟨Nat.le_of_ble_eq_true rfl, Nat.le_of_ble_eq_true rfl⟩ rfl (Nat.le_of_ble_eq_true rfl) dX10_peak_7 ?_
  refine rx_if_eq hG 29 dX10_peak_10 rfl (fun c3 => ?_) (fun c3 => ?_)
  · have hf := ifT hf c3
    refine rx_aload_n hG dX10_peak_29 0 rfl ?_
    refine rx_iconst hG 1 dX10_peak_30 ic_1 ?_
    obtain ⟨q4, hq4, hf⟩ := bindE hf
    refine rx_cVi hG (c_M_refused_0 l E T 1 hq4) (skM0 T) rfl rfl kw_M_232 ⟨Nat.le_of_ble_eq_true rfl, Nat.le_of_ble_eq_true rfl⟩ rfl (Nat.le_of_ble_eq_true rfl) dX10_peak_31 ?_
    cases hf
    exact rx_iret hG dX10_peak_34
  · have hf := ifF hf c3
    refine rx_aload_n hG dX10_peak_13 0 rfl ?_
    refine rx_aload_n hG dX10_peak_14 0 rfl ?_
    refine gfM_M_57_0 l E T hG dX10_peak_15 ?_
    refine rx_bipush hG 90 dX10_peak_18 bp_90 ?_
    refine rx_iload_n hG dX10_peak_20 1 rfl ?_
    refine rx_iadd hG dX10_peak_21 ?_
    obtain ⟨v5, hv5, hf⟩ := bindE hf
    refine rx_iald hG (skM15 T) hv5 dX10_peak_22 ?_
    obtain ⟨q6, hq6, hf⟩ := bindE hf
    refine rx_cVi hG (c_M_good_0 l E T v5 hq6) (skM0 T) rfl rfl kw_M_245 ⟨Nat.le_of_ble_eq_true rfl, Nat.le_of_ble_eq_true rfl⟩ rfl (Nat.le_of_ble_eq_true rfl) dX10_peak_23 ?_
    refine rx_goto hG 34 dX10_peak_26 rfl ?_
    cases hf
    exact rx_iret hG dX10_peak_34
set_option maxHeartbeats 4000000 in
set_option maxRecDepth 100000 in
theorem c_M_firstOf_0 (l : Launch) (E : En) (T : List Sk) (p0 : Int32) {M M' : Mm} {r : Int32} (h : f_M_firstOf_0 p0 M = some (r, M')) : Ct l (SKM ++ T) E yX10_firstOf cX10_firstOf 2 (some .int) 2 43 [.ref (adr E 0), .int p0] M (some (.int r)) M' := by
  refine ct_of (by decide) (Nat.le_of_ble_eq_true rfl) ?_
  intro G hG
  show G 0 [(0, .ref (adr E 0)), (1, .int p0)] [] M
  have hf := h
  unfold f_M_firstOf_0 at hf
  refine rx_aload_n hG dX10_firstOf_0 0 rfl ?_
  refine rx_iconst hG 0 dX10_firstOf_1 ic_0 ?_
  obtain ⟨M1, hM1, hf⟩ := bindE hf
  refine pfM_M_74_0 l E T hG hM1 dX10_firstOf_2 ?_
  refine rx_aload_n hG dX10_firstOf_5 0 rfl ?_
  refine rx_iload_n hG dX10_firstOf_6 1 rfl ?_
  obtain ⟨v2, hv2, hf⟩ := bindE hf
  refine rx_cVi hG (c_M_isKind_0 l E T p0 hv2) (skM0 T) rfl rfl kw_M_319 ⟨Nat.le_of_ble_eq_true rfl, Nat.le_of_ble_eq_true rfl⟩ rfl (Nat.le_of_ble_eq_true rfl) dX10_firstOf_7 ?_
  refine rx_if_eq hG 29 dX10_firstOf_10 rfl (fun c3 => ?_) (fun c3 => ?_)
  · have hf := ifT hf c3
    refine rx_aload_n hG dX10_firstOf_29 0 rfl ?_
    refine rx_iconst hG 1 dX10_firstOf_30 ic_1 ?_
    obtain ⟨q4, hq4, hf⟩ := bindE hf
    refine rx_cVi hG (c_M_refused_0 l E T 1 hq4) (skM0 T) rfl rfl kw_M_232 ⟨Nat.le_of_ble_eq_true rfl, Nat.le_of_ble_eq_true rfl⟩ rfl (Nat.le_of_ble_eq_true rfl) dX10_firstOf_31 ?_
    cases hf
    exact rx_iret hG dX10_firstOf_34
  · have hf := ifF hf c3
    refine rx_aload_n hG dX10_firstOf_13 0 rfl ?_
    refine rx_aload_n hG dX10_firstOf_14 0 rfl ?_
    refine gfM_M_57_0 l E T hG dX10_firstOf_15 ?_
    refine rx_bipush hG 96 dX10_firstOf_18 bp_96 ?_
    refine rx_iload_n hG dX10_firstOf_20 1 rfl ?_
    refine rx_iadd hG dX10_firstOf_21 ?_
    obtain ⟨v5, hv5, hf⟩ := bindE hf
    refine rx_iald hG (skM15 T) hv5 dX10_firstOf_22 ?_
    obtain ⟨q6, hq6, hf⟩ := bindE hf
    refine rx_cVi hG (c_M_good_0 l E T v5 hq6) (skM0 T) rfl rfl kw_M_245 ⟨Nat.le_of_ble_eq_true rfl, Nat.le_of_ble_eq_true rfl⟩ rfl (Nat.le_of_ble_eq_true rfl) dX10_firstOf_23 ?_
    refine rx_goto hG 34 dX10_firstOf_26 rfl ?_
    cases hf
    exact rx_iret hG dX10_firstOf_34
set_option maxHeartbeats 4000000 in
set_option maxRecDepth 100000 in
theorem c_M_isTerm (l : Launch) (E : En) (T : List Sk) (p0 : Int32) {M : Mm} {r : Int32} (h : f_M_isTerm p0 = some r) : Ct l T E yX10_isTerm cX10_isTerm 1 (some .boolean) 1 22 [.int p0] M (some (.int r)) M := by
  refine ct_of (by decide) (Nat.le_of_ble_eq_true rfl) ?_
  intro G hG
  show G 0 [(0, .int p0)] [] M
  have hf := h
  unfold f_M_isTerm at hf
  refine rx_iload_n hG dX10_isTerm_0 0 rfl ?_
  refine rx_iconst hG 1 dX10_isTerm_1 ic_1 ?_
  refine rx_sipush hG 2000 dX10_isTerm_2 sp_2000 ?_
  obtain ⟨v1, hv1, hf⟩ := bindE hf
  refine rx_cSi hG (c_M_in l E T p0 1 2000 hv1) kw_M_95 ⟨Nat.le_of_ble_eq_true rfl, Nat.le_of_ble_eq_true rfl⟩ rfl (Nat.le_of_ble_eq_true rfl) dX10_isTerm_5 ?_
  obtain ⟨z2, hz2, hf⟩ := bindE hf
  cases hf
  exact rx_zret hG hz2 dX10_isTerm_8
set_option maxHeartbeats 4000000 in
set_option maxRecDepth 100000 in
theorem Lblp_M_papers_0_2 (l : Launch) (E : En) (T : List Sk) {a0 b0 kc ks : Nat} {M' : Mm} {G : Nat → List (Nat × Value) → List Value → Mm → Prop} (hG : RX l (SKM ++ T) E RX10 cX10_papers 2 none { frames := 0, cells := a0, slots := b0, locals := 0 } kc ks none M' G) (rc2 : Int32 → Mm → Option Mm) (hrc2 : ∀ (x1 : Int32) (M : Mm), rc2 x1 M = some M' → G 2 [(0, .ref (adr E 0)), (1, .int x1)] [] M) : ∀ (x1 : Int32) (M : Mm), blp_M_papers_0_2 rc2 x1 M = some M' → G 2 [(0, .ref (adr E 0)), (1, .int x1)] [] M := by
  intro x1 M hf
  unfold blp_M_papers_0_2 at hf
  refine rx_iload_n hG dX10_papers_2 1 rfl ?_
  refine rx_bipush hG 37 dX10_papers_3 bp_37 ?_
  refine rx_icmp_ge hG 26 dX10_papers_5 rfl (fun c1 => ?_) (fun c1 => ?_)
  · have hf := ifT hf c1
    cases hf
    exact rx_vret hG dX10_papers_26
  · have hf := ifF hf c1
    refine rx_aload_n hG dX10_papers_8 0 rfl ?_
    refine gfM_M_48_0 l E T hG dX10_papers_9 ?_
    refine rx_iload_n hG dX10_papers_12 1 rfl ?_
    refine rx_aload_n hG dX10_papers_13 0 rfl ?_
    refine gfM_M_42_0 l E T hG dX10_papers_14 ?_
    refine rx_iload_n hG dX10_papers_17 1 rfl ?_
    obtain ⟨v2, hv2, hf⟩ := bindE hf
    refine rx_iald hG (skM10 T) hv2 dX10_papers_18 ?_
    obtain ⟨M3, hM3, hf⟩ := bindE hf
    refine rx_iast hG (skM12 T) hM3 dX10_papers_19 ?_
    refine rx_iinc (lv2 := [(1, .int (x1 + 1)), (0, .ref (adr E 0))]) hG 1 dX10_papers_20 ic_1 1 rfl (Nat.le_of_ble_eq_true rfl) rfl ?_
    refine rx_goto hG 2 dX10_papers_23 rfl ?_
    refine rx_sub hG [1, 0] (lv' := [(0, .ref (adr E 0)), (1, .int (x1 + 1))]) rfl ?_
    exact hrc2 (x1 + 1) M3 hf
theorem Llp_M_papers_0_2 (l : Launch) (E : En) (T : List Sk) {a0 b0 kc ks : Nat} {M' : Mm} {G : Nat → List (Nat × Value) → List Value → Mm → Prop} (hG : RX l (SKM ++ T) E RX10 cX10_papers 2 none { frames := 0, cells := a0, slots := b0, locals := 0 } kc ks none M' G)  : ∀ (n : Nat) (x1 : Int32) (M : Mm), lp_M_papers_0_2  n x1 M = some M' → G 2 [(0, .ref (adr E 0)), (1, .int x1)] [] M := by
  intro n
  induction n with
  | zero => intro x1 M hf; cases hf
  | succ n ih => intro x1 M hf; exact Lblp_M_papers_0_2 l E T hG  (lp_M_papers_0_2  n) ih x1 M hf
set_option maxHeartbeats 4000000 in
set_option maxRecDepth 100000 in
theorem c_M_papers_0 (l : Launch) (E : En) (T : List Sk)  {M M' : Mm} (h : f_M_papers_0 M = some M') : Ct l (SKM ++ T) E yX10_papers cX10_papers 2 none 0 0 [.ref (adr E 0)] M none M' := by
  refine ct_of (by decide) (Nat.le_of_ble_eq_true rfl) ?_
  intro G hG
  show G 0 [(0, .ref (adr E 0))] [] M
  have hf := h
  unfold f_M_papers_0 at hf
  refine rx_iconst hG 0 dX10_papers_0 ic_0 ?_
  refine rx_istore_n (lv2 := [(1, .int 0), (0, .ref (adr E 0))]) hG dX10_papers_1 (Nat.le_of_ble_eq_true rfl) rfl ?_
  refine rx_sub hG [1, 0] (lv' := [(0, .ref (adr E 0)), (1, .int 0)]) rfl ?_
  exact Llp_M_papers_0_2 l E T hG  FW 0 M hf
set_option maxHeartbeats 4000000 in
set_option maxRecDepth 100000 in
theorem Lblp_M_begins_0_16_45 (l : Launch) (E : En) (T : List Sk) {a0 b0 kc ks : Nat} {M' : Mm} {G : Nat → List (Nat × Value) → List Value → Mm → Prop} (hG : RX l (SKM ++ T) E RX10 cX10_begins 3 none { frames := 1, cells := a0, slots := b0, locals := 21 } kc ks none M' G) (rc45 : Int32 → Mm → Option Mm) (hrc45 : ∀ (x2 : Int32) (M : Mm), rc45 x2 M = some M' → G 45 [(1, .ref (adr E 16)), (2, .int x2)] [] M) : ∀ (x2 : Int32) (M : Mm), blp_M_begins_0_16_45 rc45 x2 M = some M' → G 45 [(1, .ref (adr E 16)), (2, .int x2)] [] M := by
  intro x2 M hf
  unfold blp_M_begins_0_16_45 at hf
  refine rx_iload_n hG dX10_begins_45 1 rfl ?_
  refine rx_bipush hG 6 dX10_begins_46 bp_6 ?_
  refine rx_icmp_ge hG 75 dX10_begins_48 rfl (fun c1 => ?_) (fun c1 => ?_)
  · have hf := ifT hf c1
    cases hf
    exact rx_vret hG dX10_begins_75
  · have hf := ifF hf c1
    refine rx_aload_n hG dX10_begins_51 0 rfl ?_
    refine rx_iload_n hG dX10_begins_52 1 rfl ?_
    refine rx_iconst hG 1 dX10_begins_53 ic_1 ?_
    obtain ⟨v2, hv2, hf⟩ := bindE hf
    refine rx_cSi hG (c_M_of l E (SKM ++ T) x2 1 hv2) kw_M_264 ⟨Nat.le_of_ble_eq_true rfl, Nat.le_of_ble_eq_true rfl⟩ rfl (Nat.le_of_ble_eq_true rfl) dX10_begins_54 ?_
    refine rx_bipush hG (-2) dX10_begins_57 bp_m2 ?_
    obtain ⟨M3, hM3, hf⟩ := bindE hf
    refine rx_iast hG (skM16 T) hM3 dX10_begins_59 ?_
    refine rx_aload_n hG dX10_begins_60 0 rfl ?_
    refine rx_iload_n hG dX10_begins_61 1 rfl ?_
    refine rx_iconst hG 3 dX10_begins_62 ic_3 ?_
    obtain ⟨v4, hv4, hf⟩ := bindE hf
    refine rx_cSi hG (c_M_of l E (SKM ++ T) x2 3 hv4) kw_M_264 ⟨Nat.le_of_ble_eq_true rfl, Nat.le_of_ble_eq_true rfl⟩ rfl (Nat.le_of_ble_eq_true rfl) dX10_begins_63 ?_
    refine rx_bipush hG (-2) dX10_begins_66 bp_m2 ?_
    obtain ⟨M5, hM5, hf⟩ := bindE hf
    refine rx_iast hG (skM16 T) hM5 dX10_begins_68 ?_
    refine rx_iinc (lv2 := [(2, .int (x2 + 1)), (1, .ref (adr E 16))]) hG 1 dX10_begins_69 ic_1 1 rfl (Nat.le_of_ble_eq_true rfl) rfl ?_
    refine rx_goto hG 45 dX10_begins_72 rfl ?_
    refine rx_sub hG [1, 0] (lv' := [(1, .ref (adr E 16)), (2, .int (x2 + 1))]) rfl ?_
    exact hrc45 (x2 + 1) M5 hf
theorem Llp_M_begins_0_16_45 (l : Launch) (E : En) (T : List Sk) {a0 b0 kc ks : Nat} {M' : Mm} {G : Nat → List (Nat × Value) → List Value → Mm → Prop} (hG : RX l (SKM ++ T) E RX10 cX10_begins 3 none { frames := 1, cells := a0, slots := b0, locals := 21 } kc ks none M' G)  : ∀ (n : Nat) (x2 : Int32) (M : Mm), lp_M_begins_0_16_45  n x2 M = some M' → G 45 [(1, .ref (adr E 16)), (2, .int x2)] [] M := by
  intro n
  induction n with
  | zero => intro x2 M hf; cases hf
  | succ n ih => intro x2 M hf; exact Lblp_M_begins_0_16_45 l E T hG  (lp_M_begins_0_16_45  n) ih x2 M hf
set_option maxHeartbeats 4000000 in
set_option maxRecDepth 100000 in
theorem Lj_M_begins_0_16_43 (l : Launch) (E : En) (T : List Sk) {a0 b0 kc ks : Nat} {M' : Mm} {G : Nat → List (Nat × Value) → List Value → Mm → Prop} (hG : RX l (SKM ++ T) E RX10 cX10_begins 3 none { frames := 1, cells := a0, slots := b0, locals := 21 } kc ks none M' G)  : ∀  (M : Mm), j_M_begins_0_16_43  M = some M' → G 43 [(1, .ref (adr E 16))] [] M := by
  intro M hf
  unfold j_M_begins_0_16_43 at hf
  refine rx_iconst hG 0 dX10_begins_43 ic_0 ?_
  refine rx_istore_n (lv2 := [(2, .int 0), (1, .ref (adr E 16))]) hG dX10_begins_44 (Nat.le_of_ble_eq_true rfl) rfl ?_
  refine rx_sub hG [1, 0] (lv' := [(1, .ref (adr E 16)), (2, .int 0)]) rfl ?_
  exact Llp_M_begins_0_16_45 l E T hG  FW 0 M hf
set_option maxHeartbeats 4000000 in
set_option maxRecDepth 100000 in
theorem Lblp_M_begins_0_16_24 (l : Launch) (E : En) (T : List Sk) {a0 b0 kc ks : Nat} {M' : Mm} {G : Nat → List (Nat × Value) → List Value → Mm → Prop} (hG : RX l (SKM ++ T) E RX10 cX10_begins 3 none { frames := 1, cells := a0, slots := b0, locals := 21 } kc ks none M' G) (rc24 : Int32 → Mm → Option Mm) (hrc24 : ∀ (x2 : Int32) (M : Mm), rc24 x2 M = some M' → G 24 [(1, .ref (adr E 16)), (2, .int x2)] [] M) : ∀ (x2 : Int32) (M : Mm), blp_M_begins_0_16_24 rc24 x2 M = some M' → G 24 [(1, .ref (adr E 16)), (2, .int x2)] [] M := by
  intro x2 M hf
  unfold blp_M_begins_0_16_24 at hf
  refine rx_iload_n hG dX10_begins_24 1 rfl ?_
  refine rx_iconst hG 3 dX10_begins_25 ic_3 ?_
  refine rx_icmp_ge hG 43 dX10_begins_26 rfl (fun c1 => ?_) (fun c1 => ?_)
  · have hf := ifT hf c1
    refine rx_sub hG [0] (lv' := [(1, .ref (adr E 16))]) rfl ?_
    exact Lj_M_begins_0_16_43 l E T hG  M hf
  · have hf := ifF hf c1
    refine rx_aload_n hG dX10_begins_29 0 rfl ?_
    refine rx_bipush hG 96 dX10_begins_30 bp_96 ?_
    refine rx_iload_n hG dX10_begins_32 1 rfl ?_
    refine rx_iadd hG dX10_begins_33 ?_
    refine rx_bipush hG (-2) dX10_begins_34 bp_m2 ?_
    obtain ⟨M2, hM2, hf⟩ := bindE hf
    refine rx_iast hG (skM16 T) hM2 dX10_begins_36 ?_
    refine rx_iinc (lv2 := [(2, .int (x2 + 1)), (1, .ref (adr E 16))]) hG 1 dX10_begins_37 ic_1 1 rfl (Nat.le_of_ble_eq_true rfl) rfl ?_
    refine rx_goto hG 24 dX10_begins_40 rfl ?_
    refine rx_sub hG [1, 0] (lv' := [(1, .ref (adr E 16)), (2, .int (x2 + 1))]) rfl ?_
    exact hrc24 (x2 + 1) M2 hf
theorem Llp_M_begins_0_16_24 (l : Launch) (E : En) (T : List Sk) {a0 b0 kc ks : Nat} {M' : Mm} {G : Nat → List (Nat × Value) → List Value → Mm → Prop} (hG : RX l (SKM ++ T) E RX10 cX10_begins 3 none { frames := 1, cells := a0, slots := b0, locals := 21 } kc ks none M' G)  : ∀ (n : Nat) (x2 : Int32) (M : Mm), lp_M_begins_0_16_24  n x2 M = some M' → G 24 [(1, .ref (adr E 16)), (2, .int x2)] [] M := by
  intro n
  induction n with
  | zero => intro x2 M hf; cases hf
  | succ n ih => intro x2 M hf; exact Lblp_M_begins_0_16_24 l E T hG  (lp_M_begins_0_16_24  n) ih x2 M hf
set_option maxHeartbeats 4000000 in
set_option maxRecDepth 100000 in
theorem Lj_M_begins_0_16_18 (l : Launch) (E : En) (T : List Sk) {a0 b0 kc ks : Nat} {M' : Mm} {G : Nat → List (Nat × Value) → List Value → Mm → Prop} (hG : RX l (SKM ++ T) E RX10 cX10_begins 3 none { frames := 1, cells := a0, slots := b0, locals := 21 } kc ks none M' G)  : ∀  (M : Mm), j_M_begins_0_16_18  M = some M' → G 18 [(1, .ref (adr E 16))] [] M := by
  intro M hf
  unfold j_M_begins_0_16_18 at hf
  refine rx_aload_n hG dX10_begins_18 0 rfl ?_
  refine rx_iconst hG 1 dX10_begins_19 ic_1 ?_
  refine rx_iconst hG (-1) dX10_begins_20 ic_m1 ?_
  obtain ⟨M1, hM1, hf⟩ := bindE hf
  refine rx_iast hG (skM16 T) hM1 dX10_begins_21 ?_
  refine rx_iconst hG 0 dX10_begins_22 ic_0 ?_
  refine rx_istore_n (lv2 := [(2, .int 0), (1, .ref (adr E 16))]) hG dX10_begins_23 (Nat.le_of_ble_eq_true rfl) rfl ?_
  refine rx_sub hG [1, 0] (lv' := [(1, .ref (adr E 16)), (2, .int 0)]) rfl ?_
  exact Llp_M_begins_0_16_24 l E T hG  FW 0 M1 hf
set_option maxHeartbeats 4000000 in
set_option maxRecDepth 100000 in
theorem Lblp_M_begins_0_16_2 (l : Launch) (E : En) (T : List Sk) {a0 b0 kc ks : Nat} {M' : Mm} {G : Nat → List (Nat × Value) → List Value → Mm → Prop} (hG : RX l (SKM ++ T) E RX10 cX10_begins 3 none { frames := 1, cells := a0, slots := b0, locals := 21 } kc ks none M' G) (rc2 : Int32 → Mm → Option Mm) (hrc2 : ∀ (x2 : Int32) (M : Mm), rc2 x2 M = some M' → G 2 [(1, .ref (adr E 16)), (2, .int x2)] [] M) : ∀ (x2 : Int32) (M : Mm), blp_M_begins_0_16_2 rc2 x2 M = some M' → G 2 [(1, .ref (adr E 16)), (2, .int x2)] [] M := by
  intro x2 M hf
  unfold blp_M_begins_0_16_2 at hf
  refine rx_iload_n hG dX10_begins_2 1 rfl ?_
  refine rx_bipush hG 99 dX10_begins_3 bp_99 ?_
  refine rx_icmp_ge hG 18 dX10_begins_5 rfl (fun c1 => ?_) (fun c1 => ?_)
  · have hf := ifT hf c1
    refine rx_sub hG [0] (lv' := [(1, .ref (adr E 16))]) rfl ?_
    exact Lj_M_begins_0_16_18 l E T hG  M hf
  · have hf := ifF hf c1
    refine rx_aload_n hG dX10_begins_8 0 rfl ?_
    refine rx_iload_n hG dX10_begins_9 1 rfl ?_
    refine rx_iconst hG 0 dX10_begins_10 ic_0 ?_
    obtain ⟨M2, hM2, hf⟩ := bindE hf
    refine rx_iast hG (skM16 T) hM2 dX10_begins_11 ?_
    refine rx_iinc (lv2 := [(2, .int (x2 + 1)), (1, .ref (adr E 16))]) hG 1 dX10_begins_12 ic_1 1 rfl (Nat.le_of_ble_eq_true rfl) rfl ?_
    refine rx_goto hG 2 dX10_begins_15 rfl ?_
    refine rx_sub hG [1, 0] (lv' := [(1, .ref (adr E 16)), (2, .int (x2 + 1))]) rfl ?_
    exact hrc2 (x2 + 1) M2 hf
theorem Llp_M_begins_0_16_2 (l : Launch) (E : En) (T : List Sk) {a0 b0 kc ks : Nat} {M' : Mm} {G : Nat → List (Nat × Value) → List Value → Mm → Prop} (hG : RX l (SKM ++ T) E RX10 cX10_begins 3 none { frames := 1, cells := a0, slots := b0, locals := 21 } kc ks none M' G)  : ∀ (n : Nat) (x2 : Int32) (M : Mm), lp_M_begins_0_16_2  n x2 M = some M' → G 2 [(1, .ref (adr E 16)), (2, .int x2)] [] M := by
  intro n
  induction n with
  | zero => intro x2 M hf; cases hf
  | succ n ih => intro x2 M hf; exact Lblp_M_begins_0_16_2 l E T hG  (lp_M_begins_0_16_2  n) ih x2 M hf
set_option maxHeartbeats 4000000 in
set_option maxRecDepth 100000 in
theorem c_M_begins_0_16 (l : Launch) (E : En) (T : List Sk)  {M M' : Mm} (h : f_M_begins_0_16 M = some M') : Ct l (SKM ++ T) E yX10_begins cX10_begins 3 none 1 21 [.ref (adr E 0), .ref (adr E 16)] M none M' := by
  refine ct_of (by decide) (Nat.le_of_ble_eq_true rfl) ?_
  intro G hG
  show G 0 [(0, .ref (adr E 0)), (1, .ref (adr E 16))] [] M
  have hf := h
  unfold f_M_begins_0_16 at hf
  refine rx_iconst hG 0 dX10_begins_0 ic_0 ?_
  refine rx_istore_n (lv2 := [(2, .int 0), (0, .ref (adr E 0)), (1, .ref (adr E 16))]) hG dX10_begins_1 (Nat.le_of_ble_eq_true rfl) rfl ?_
  refine rx_sub hG [2, 0] (lv' := [(1, .ref (adr E 16)), (2, .int 0)]) rfl ?_
  exact Llp_M_begins_0_16_2 l E T hG  FW 0 M hf
set_option maxHeartbeats 4000000 in
set_option maxRecDepth 100000 in
theorem Lblp_M_delivered_0_16_4 (l : Launch) (E : En) (T : List Sk) {a0 b0 kc ks : Nat} {r : Int32} {M : Mm} {G : Nat → List (Nat × Value) → List Value → Mm → Prop} (hG : RX l (SKM ++ T) E RX10 cX10_delivered 4 (some .int) { frames := 1, cells := a0, slots := b0, locals := 21 } kc ks (some (.int r)) M G) (rc4 : Int32 → Int32 → Mm → Option Int32) (hrc4 : ∀ (x2 : Int32) (x3 : Int32), rc4 x2 x3 M = some r → G 4 [(0, .ref (adr E 0)), (1, .ref (adr E 16)), (2, .int x2), (3, .int x3)] [] M) : ∀ (x2 : Int32) (x3 : Int32), blp_M_delivered_0_16_4 rc4 x2 x3 M = some r → G 4 [(0, .ref (adr E 0)), (1, .ref (adr E 16)), (2, .int x2), (3, .int x3)] [] M := by
  intro x2 x3 hf
  unfold blp_M_delivered_0_16_4 at hf
  refine rx_iload_n hG dX10_delivered_4 3 rfl ?_
  refine rx_aload_n hG dX10_delivered_5 0 rfl ?_
  refine gfM_M_248_0 l E T hG dX10_delivered_6 ?_
  refine rx_icmp_ge hG 28 dX10_delivered_9 rfl (fun c1 => ?_) (fun c1 => ?_)
  · have hf := ifT hf c1
    refine rx_iload_n hG dX10_delivered_28 2 rfl ?_
    cases hf
    exact rx_iret hG dX10_delivered_29
  · have hf := ifF hf c1
    refine rx_iload_n hG dX10_delivered_12 2 rfl ?_
    refine rx_aload_n hG dX10_delivered_13 1 rfl ?_
    refine rx_iload_n hG dX10_delivered_14 3 rfl ?_
    refine rx_iconst hG 1 dX10_delivered_15 ic_1 ?_
    obtain ⟨v2, hv2, hf⟩ := bindE hf
    refine rx_cSi hG (c_M_ofKind l E (SKM ++ T) x3 1 hv2) kw_M_274 ⟨Nat.le_of_ble_eq_true rfl, Nat.le_of_ble_eq_true rfl⟩ rfl (Nat.le_of_ble_eq_true rfl) dX10_delivered_16 ?_
    obtain ⟨v3, hv3, hf⟩ := bindE hf
    refine rx_iald hG (skM16 T) hv3 dX10_delivered_19 ?_
    refine rx_iadd hG dX10_delivered_20 ?_
    refine rx_istore_n (lv2 := [(2, .int (x2 + v3)), (0, .ref (adr E 0)), (1, .ref (adr E 16)), (3, .int x3)]) hG dX10_delivered_21 (Nat.le_of_ble_eq_true rfl) rfl ?_
    refine rx_iinc (lv2 := [(3, .int (x3 + 1)), (2, .int (x2 + v3)), (0, .ref (adr E 0)), (1, .ref (adr E 16))]) hG 1 dX10_delivered_22 ic_1 3 rfl (Nat.le_of_ble_eq_true rfl) rfl ?_
    refine rx_goto hG 4 dX10_delivered_25 rfl ?_
    refine rx_sub hG [2, 3, 1, 0] (lv' := [(0, .ref (adr E 0)), (1, .ref (adr E 16)), (2, .int (x2 + v3)), (3, .int (x3 + 1))]) rfl ?_
    exact hrc4 (x2 + v3) (x3 + 1) hf
theorem Llp_M_delivered_0_16_4 (l : Launch) (E : En) (T : List Sk) {a0 b0 kc ks : Nat} {r : Int32} {M : Mm} {G : Nat → List (Nat × Value) → List Value → Mm → Prop} (hG : RX l (SKM ++ T) E RX10 cX10_delivered 4 (some .int) { frames := 1, cells := a0, slots := b0, locals := 21 } kc ks (some (.int r)) M G)  : ∀ (n : Nat) (x2 : Int32) (x3 : Int32), lp_M_delivered_0_16_4  n x2 x3 M = some r → G 4 [(0, .ref (adr E 0)), (1, .ref (adr E 16)), (2, .int x2), (3, .int x3)] [] M := by
  intro n
  induction n with
  | zero => intro x2 x3 hf; cases hf
  | succ n ih => intro x2 x3 hf; exact Lblp_M_delivered_0_16_4 l E T hG  (lp_M_delivered_0_16_4  n) ih x2 x3 hf
set_option maxHeartbeats 4000000 in
set_option maxRecDepth 100000 in
theorem c_M_delivered_0_16 (l : Launch) (E : En) (T : List Sk)  {M : Mm} {r : Int32} (h : f_M_delivered_0_16 M = some r) : Ct l (SKM ++ T) E yX10_delivered cX10_delivered 4 (some .int) 1 21 [.ref (adr E 0), .ref (adr E 16)] M (some (.int r)) M := by
  refine ct_of (by decide) (Nat.le_of_ble_eq_true rfl) ?_
  intro G hG
  show G 0 [(0, .ref (adr E 0)), (1, .ref (adr E 16))] [] M
  have hf := h
  unfold f_M_delivered_0_16 at hf
  refine rx_iconst hG 0 dX10_delivered_0 ic_0 ?_
  refine rx_istore_n (lv2 := [(2, .int 0), (0, .ref (adr E 0)), (1, .ref (adr E 16))]) hG dX10_delivered_1 (Nat.le_of_ble_eq_true rfl) rfl ?_
  refine rx_iconst hG 0 dX10_delivered_2 ic_0 ?_
  refine rx_istore_n (lv2 := [(3, .int 0), (2, .int 0), (0, .ref (adr E 0)), (1, .ref (adr E 16))]) hG dX10_delivered_3 (Nat.le_of_ble_eq_true rfl) rfl ?_
  refine rx_sub hG [2, 3, 1, 0] (lv' := [(0, .ref (adr E 0)), (1, .ref (adr E 16)), (2, .int 0), (3, .int 0)]) rfl ?_
  exact Llp_M_delivered_0_16_4 l E T hG  FW 0 0 hf
set_option maxHeartbeats 4000000 in
set_option maxRecDepth 100000 in
theorem Lj_M_peaks_0_16_31 (l : Launch) (E : En) (T : List Sk) {a0 b0 kc ks : Nat} {M' : Mm} {G : Nat → List (Nat × Value) → List Value → Mm → Prop} (hG : RX l (SKM ++ T) E RX10 cX10_peaks 5 none { frames := 1, cells := a0, slots := b0, locals := 21 } kc ks none M' G)  : ∀ (x2 : Int32) (x3 : Int32) (M : Mm), j_M_peaks_0_16_31  x2 x3 M = some M' → G 31 [(1, .ref (adr E 16)), (2, .int x2), (3, .int x3)] [] M := by
  intro x2 x3 M hf
  unfold j_M_peaks_0_16_31 at hf
  refine rx_iload_n hG dX10_peaks_31 2 rfl ?_
  refine rx_aload_n hG dX10_peaks_32 0 rfl ?_
  refine rx_bipush hG 90 dX10_peaks_33 bp_90 ?_
  refine rx_iload_n hG dX10_peaks_35 1 rfl ?_
  refine rx_iadd hG dX10_peaks_36 ?_
  obtain ⟨v1, hv1, hf⟩ := bindE hf
  refine rx_iald hG (skM16 T) hv1 dX10_peaks_37 ?_
  refine rx_icmp_le hG 48 dX10_peaks_38 rfl (fun c2 => ?_) (fun c2 => ?_)
  · have hf := ifT hf c2
    cases hf
    exact rx_vret hG dX10_peaks_48
  · have hf := ifF hf c2
    refine rx_aload_n hG dX10_peaks_41 0 rfl ?_
    refine rx_bipush hG 90 dX10_peaks_42 bp_90 ?_
    refine rx_iload_n hG dX10_peaks_44 1 rfl ?_
    refine rx_iadd hG dX10_peaks_45 ?_
    refine rx_iload_n hG dX10_peaks_46 2 rfl ?_
    obtain ⟨M3, hM3, hf⟩ := bindE hf
    refine rx_iast hG (skM16 T) hM3 dX10_peaks_47 ?_
    cases hf
    exact rx_vret hG dX10_peaks_48
set_option maxHeartbeats 4000000 in
set_option maxRecDepth 100000 in
theorem Lblp_M_peaks_0_16_5 (l : Launch) (E : En) (T : List Sk) {a0 b0 kc ks : Nat} {M' : Mm} {G : Nat → List (Nat × Value) → List Value → Mm → Prop} (hG : RX l (SKM ++ T) E RX10 cX10_peaks 5 none { frames := 1, cells := a0, slots := b0, locals := 21 } kc ks none M' G) (rc5 : Int32 → Int32 → Int32 → Mm → Option Mm) (hrc5 : ∀ (x2 : Int32) (x3 : Int32) (x4 : Int32) (M : Mm), rc5 x2 x3 x4 M = some M' → G 5 [(0, .ref (adr E 0)), (1, .ref (adr E 16)), (2, .int x2), (3, .int x3), (4, .int x4)] [] M) : ∀ (x2 : Int32) (x3 : Int32) (x4 : Int32) (M : Mm), blp_M_peaks_0_16_5 rc5 x2 x3 x4 M = some M' → G 5 [(0, .ref (adr E 0)), (1, .ref (adr E 16)), (2, .int x2), (3, .int x3), (4, .int x4)] [] M := by
  intro x2 x3 x4 M hf
  unfold blp_M_peaks_0_16_5 at hf
  refine rx_iload hG dX10_peaks_5 4 rfl ?_
  refine rx_aload_n hG dX10_peaks_7 0 rfl ?_
  refine gfM_M_248_0 l E T hG dX10_peaks_8 ?_
  refine rx_icmp_ge hG 31 dX10_peaks_11 rfl (fun c1 => ?_) (fun c1 => ?_)
  · have hf := ifT hf c1
    refine rx_sub hG [1, 2, 3] (lv' := [(1, .ref (adr E 16)), (2, .int x2), (3, .int x3)]) rfl ?_
    exact Lj_M_peaks_0_16_31 l E T hG  x2 x3 M hf
  · have hf := ifF hf c1
    refine rx_iload_n hG dX10_peaks_14 3 rfl ?_
    refine rx_aload_n hG dX10_peaks_15 1 rfl ?_
    refine rx_iload_n hG dX10_peaks_16 2 rfl ?_
    refine rx_iload hG dX10_peaks_17 4 rfl ?_
    obtain ⟨v2, hv2, hf⟩ := bindE hf
    refine rx_cSi hG (c_M_store l E (SKM ++ T) x2 x4 hv2) kw_M_267 ⟨Nat.le_of_ble_eq_true rfl, Nat.le_of_ble_eq_true rfl⟩ rfl (Nat.le_of_ble_eq_true rfl) dX10_peaks_19 ?_
    obtain ⟨v3, hv3, hf⟩ := bindE hf
    refine rx_iald hG (skM16 T) hv3 dX10_peaks_22 ?_
    refine rx_iadd hG dX10_peaks_23 ?_
    refine rx_istore_n (lv2 := [(3, .int (x3 + v3)), (0, .ref (adr E 0)), (1, .ref (adr E 16)), (2, .int x2), (4, .int x4)]) hG dX10_peaks_24 (Nat.le_of_ble_eq_true rfl) rfl ?_
    refine rx_iinc (lv2 := [(4, .int (x4 + 1)), (3, .int (x3 + v3)), (0, .ref (adr E 0)), (1, .ref (adr E 16)), (2, .int x2)]) hG 1 dX10_peaks_25 ic_1 4 rfl (Nat.le_of_ble_eq_true rfl) rfl ?_
    refine rx_goto hG 5 dX10_peaks_28 rfl ?_
    refine rx_sub hG [2, 3, 4, 1, 0] (lv' := [(0, .ref (adr E 0)), (1, .ref (adr E 16)), (2, .int x2), (3, .int (x3 + v3)), (4, .int (x4 + 1))]) rfl ?_
    exact hrc5 x2 (x3 + v3) (x4 + 1) M hf
theorem Llp_M_peaks_0_16_5 (l : Launch) (E : En) (T : List Sk) {a0 b0 kc ks : Nat} {M' : Mm} {G : Nat → List (Nat × Value) → List Value → Mm → Prop} (hG : RX l (SKM ++ T) E RX10 cX10_peaks 5 none { frames := 1, cells := a0, slots := b0, locals := 21 } kc ks none M' G)  : ∀ (n : Nat) (x2 : Int32) (x3 : Int32) (x4 : Int32) (M : Mm), lp_M_peaks_0_16_5  n x2 x3 x4 M = some M' → G 5 [(0, .ref (adr E 0)), (1, .ref (adr E 16)), (2, .int x2), (3, .int x3), (4, .int x4)] [] M := by
  intro n
  induction n with
  | zero => intro x2 x3 x4 M hf; cases hf
  | succ n ih => intro x2 x3 x4 M hf; exact Lblp_M_peaks_0_16_5 l E T hG  (lp_M_peaks_0_16_5  n) ih x2 x3 x4 M hf
set_option maxHeartbeats 4000000 in
set_option maxRecDepth 100000 in
theorem c_M_peaks_0_16 (l : Launch) (E : En) (T : List Sk) (p0 : Int32) {M M' : Mm} (h : f_M_peaks_0_16 p0 M = some M') : Ct l (SKM ++ T) E yX10_peaks cX10_peaks 5 none 1 21 [.ref (adr E 0), .ref (adr E 16), .int p0] M none M' := by
  refine ct_of (by decide) (Nat.le_of_ble_eq_true rfl) ?_
  intro G hG
  show G 0 [(0, .ref (adr E 0)), (1, .ref (adr E 16)), (2, .int p0)] [] M
  have hf := h
  unfold f_M_peaks_0_16 at hf
  refine rx_iconst hG 0 dX10_peaks_0 ic_0 ?_
  refine rx_istore_n (lv2 := [(3, .int 0), (0, .ref (adr E 0)), (1, .ref (adr E 16)), (2, .int p0)]) hG dX10_peaks_1 (Nat.le_of_ble_eq_true rfl) rfl ?_
  refine rx_iconst hG 0 dX10_peaks_2 ic_0 ?_
  refine rx_istore (lv2 := [(4, .int 0), (3, .int 0), (0, .ref (adr E 0)), (1, .ref (adr E 16)), (2, .int p0)]) hG dX10_peaks_3 (Nat.le_of_ble_eq_true rfl) rfl ?_
  refine rx_sub hG [2, 3, 4, 1, 0] (lv' := [(0, .ref (adr E 0)), (1, .ref (adr E 16)), (2, .int p0), (3, .int 0), (4, .int 0)]) rfl ?_
  exact Llp_M_peaks_0_16_5 l E T hG  FW p0 0 0 M hf
set_option maxHeartbeats 4000000 in
set_option maxRecDepth 100000 in
theorem c_M_atWork_0_16 (l : Launch) (E : En) (T : List Sk) (p0 : Int32) (p1 : Int32) {M : Mm} {r : Int32} (h : f_M_atWork_0_16 p0 p1 M = some r) : Ct l (SKM ++ T) E yX10_atWork cX10_atWork 4 (some .int) 1 21 [.ref (adr E 0), .ref (adr E 16), .int p0, .int p1] M (some (.int r)) M := by
  refine ct_of (by decide) (Nat.le_of_ble_eq_true rfl) ?_
  intro G hG
  show G 0 [(0, .ref (adr E 0)), (1, .ref (adr E 16)), (2, .int p0), (3, .int p1)] [] M
  have hf := h
  unfold f_M_atWork_0_16 at hf
  refine rx_aload_n hG dX10_atWork_0 1 rfl ?_
  refine rx_iload_n hG dX10_atWork_1 2 rfl ?_
  refine rx_iconst hG 0 dX10_atWork_2 ic_0 ?_
  obtain ⟨v1, hv1, hf⟩ := bindE hf
  refine rx_cSi hG (c_M_of l E (SKM ++ T) p0 0 hv1) kw_M_264 ⟨Nat.le_of_ble_eq_true rfl, Nat.le_of_ble_eq_true rfl⟩ rfl (Nat.le_of_ble_eq_true rfl) dX10_atWork_3 ?_
  obtain ⟨v2, hv2, hf⟩ := bindE hf
  refine rx_iald hG (skM16 T) hv2 dX10_atWork_6 ?_
  refine rx_iconst hG 1 dX10_atWork_7 ic_1 ?_
  refine rx_icmp_ne hG 26 dX10_atWork_8 rfl (fun c3 => ?_) (fun c3 => ?_)
  · have hf := ifF hf c3
    refine rx_iconst hG 0 dX10_atWork_26 ic_0 ?_
    cases hf
    exact rx_iret hG dX10_atWork_27
  · have hf := ifT hf c3
    refine rx_aload_n hG dX10_atWork_11 1 rfl ?_
    refine rx_iload_n hG dX10_atWork_12 2 rfl ?_
    refine rx_iconst hG 1 dX10_atWork_13 ic_1 ?_
    obtain ⟨v4, hv4, hf⟩ := bindE hf
    refine rx_cSi hG (c_M_of l E (SKM ++ T) p0 1 hv4) kw_M_264 ⟨Nat.le_of_ble_eq_true rfl, Nat.le_of_ble_eq_true rfl⟩ rfl (Nat.le_of_ble_eq_true rfl) dX10_atWork_14 ?_
    obtain ⟨v5, hv5, hf⟩ := bindE hf
    refine rx_iald hG (skM16 T) hv5 dX10_atWork_17 ?_
    refine rx_iload_n hG dX10_atWork_18 3 rfl ?_
    refine rx_icmp_ne hG 26 dX10_atWork_19 rfl (fun c6 => ?_) (fun c6 => ?_)
    · have hf := ifF hf c6
      refine rx_iconst hG 0 dX10_atWork_26 ic_0 ?_
      cases hf
      exact rx_iret hG dX10_atWork_27
    · have hf := ifT hf c6
      refine rx_iconst hG 1 dX10_atWork_22 ic_1 ?_
      refine rx_goto hG 27 dX10_atWork_23 rfl ?_
      cases hf
      exact rx_iret hG dX10_atWork_27
set_option maxHeartbeats 4000000 in
set_option maxRecDepth 100000 in
theorem c_M_free_0_16_12 (l : Launch) (E : En) (T : List Sk) (p0 : Int32) (p1 : Int32) {M : Mm} {r : Int32} (h : f_M_free_0_16_12 p0 p1 M = some r) : Ct l (SKM ++ T) E yX10_free cX10_free 6 (some .int) 2 44 [.ref (adr E 0), .ref (adr E 16), .ref (adr E 12), .int p0, .int p1] M (some (.int r)) M := by
  refine ct_of (by decide) (Nat.le_of_ble_eq_true rfl) ?_
  intro G hG
  show G 0 [(0, .ref (adr E 0)), (1, .ref (adr E 16)), (2, .ref (adr E 12)), (3, .int p0), (4, .int p1)] [] M
  have hf := h
  unfold f_M_free_0_16_12 at hf
  refine rx_aload_n hG dX10_free_0 2 rfl ?_
  refine rx_iconst hG 3 dX10_free_1 ic_3 ?_
  refine rx_iload_n hG dX10_free_2 3 rfl ?_
  refine rx_imul hG dX10_free_3 ?_
  refine rx_iload hG dX10_free_4 4 rfl ?_
  refine rx_iadd hG dX10_free_6 ?_
  obtain ⟨v1, hv1, hf⟩ := bindE hf
  refine rx_iald hG (skM12 T) hv1 dX10_free_7 ?_
  refine rx_aload_n hG dX10_free_8 1 rfl ?_
  refine rx_iload_n hG dX10_free_9 3 rfl ?_
  refine rx_iload hG dX10_free_10 4 rfl ?_
  obtain ⟨v2, hv2, hf⟩ := bindE hf
  refine rx_cSi hG (c_M_store l E (SKM ++ T) p0 p1 hv2) kw_M_267 ⟨Nat.le_of_ble_eq_true rfl, Nat.le_of_ble_eq_true rfl⟩ rfl (Nat.le_of_ble_eq_true rfl) dX10_free_12 ?_
  obtain ⟨v3, hv3, hf⟩ := bindE hf
  refine rx_iald hG (skM16 T) hv3 dX10_free_15 ?_
  refine rx_isub hG dX10_free_16 ?_
  refine rx_aload_n hG dX10_free_17 0 rfl ?_
  refine rx_aload_n hG dX10_free_18 1 rfl ?_
  refine rx_iload_n hG dX10_free_19 3 rfl ?_
  refine rx_iload hG dX10_free_20 4 rfl ?_
  obtain ⟨v4, hv4, hf⟩ := bindE hf
  refine rx_cVi hG (c_M_atWork_0_16 l E T p0 p1 hv4) (skM0 T) rfl rfl kw_M_270 ⟨Nat.le_of_ble_eq_true rfl, Nat.le_of_ble_eq_true rfl⟩ rfl (Nat.le_of_ble_eq_true rfl) dX10_free_22 ?_
  refine rx_isub hG dX10_free_25 ?_
  refine rx_istore (lv2 := [(5, .int ((v1 - v3) - v4)), (0, .ref (adr E 0)), (1, .ref (adr E 16)), (2, .ref (adr E 12)), (3, .int p0), (4, .int p1)]) hG dX10_free_26 (Nat.le_of_ble_eq_true rfl) rfl ?_
  refine rx_iload hG dX10_free_28 0 rfl ?_
  refine rx_if_le hG 38 dX10_free_30 rfl (fun c5 => ?_) (fun c5 => ?_)
  · have hf := ifT hf c5
    refine rx_iconst hG 0 dX10_free_38 ic_0 ?_
    cases hf
    exact rx_iret hG dX10_free_39
  · have hf := ifF hf c5
    refine rx_iload hG dX10_free_33 0 rfl ?_
    refine rx_goto hG 39 dX10_free_35 rfl ?_
    cases hf
    exact rx_iret hG dX10_free_39
set_option maxHeartbeats 4000000 in
set_option maxRecDepth 100000 in
theorem Lj_M_tallies_0_16_12_137 (l : Launch) (E : En) (T : List Sk) {a0 b0 kc ks : Nat} {M' : Mm} {G : Nat → List (Nat × Value) → List Value → Mm → Prop} (hG : RX l (SKM ++ T) E RX10 cX10_tallies 8 none { frames := 3, cells := a0, slots := b0, locals := 69 } kc ks none M' G)  : ∀ (x3 : Int32) (x4 : Int32) (M : Mm), j_M_tallies_0_16_12_137  x3 x4 M = some M' → G 137 [(1, .ref (adr E 16)), (3, .int x3), (4, .int x4)] [] M := by
  intro x3 x4 M hf
  unfold j_M_tallies_0_16_12_137 at hf
  refine rx_aload_n hG dX10_tallies_137 0 rfl ?_
  refine rx_iconst hG 1 dX10_tallies_138 ic_1 ?_
  refine rx_iload hG dX10_tallies_139 2 rfl ?_
  obtain ⟨M1, hM1, hf⟩ := bindE hf
  refine rx_iast hG (skM16 T) hM1 dX10_tallies_141 ?_
  refine rx_aload_n hG dX10_tallies_142 0 rfl ?_
  refine rx_iconst hG 2 dX10_tallies_143 ic_2 ?_
  refine rx_iload_n hG dX10_tallies_144 1 rfl ?_
  obtain ⟨M2, hM2, hf⟩ := bindE hf
  refine rx_iast hG (skM16 T) hM2 dX10_tallies_145 ?_
  cases hf
  exact rx_vret hG dX10_tallies_146
set_option maxHeartbeats 4000000 in
set_option maxRecDepth 100000 in
theorem Lj_M_tallies_0_16_12_96 (l : Launch) (E : En) (T : List Sk) {a0 b0 kc ks : Nat} {M' : Mm} {G : Nat → List (Nat × Value) → List Value → Mm → Prop} (hG : RX l (SKM ++ T) E RX10 cX10_tallies 8 none { frames := 3, cells := a0, slots := b0, locals := 69 } kc ks none M' G)  : ∀ (x3 : Int32) (x4 : Int32) (x6 : Int32) (t0 : Int32) (t1 : Int32) (M : Mm), j_M_tallies_0_16_12_96  x3 x4 x6 t0 t1 M = some M' → G 96 [(1, .ref (adr E 16)), (3, .int x3), (4, .int x4), (6, .int x6)] [.int t0, .int t1, .ref (adr E 16)] M := by
  intro x3 x4 x6 t0 t1 M hf
  unfold j_M_tallies_0_16_12_96 at hf
  obtain ⟨v1, hv1, hf⟩ := bindE hf
  refine rx_cSi hG (c_M_of l E (SKM ++ T) t1 t0 hv1) kw_M_264 ⟨Nat.le_of_ble_eq_true rfl, Nat.le_of_ble_eq_true rfl⟩ rfl (Nat.le_of_ble_eq_true rfl) dX10_tallies_96 ?_
  refine rx_dup2 hG dX10_tallies_99 rfl rfl ?_
  obtain ⟨v2, hv2, hf⟩ := bindE hf
  refine rx_iald hG (skM16 T) hv2 dX10_tallies_100 ?_
  refine rx_iconst hG 1 dX10_tallies_101 ic_1 ?_
  refine rx_iadd hG dX10_tallies_102 ?_
  obtain ⟨M3, hM3, hf⟩ := bindE hf
  refine rx_iast hG (skM16 T) hM3 dX10_tallies_103 ?_
  refine rx_iload hG dX10_tallies_104 3 rfl ?_
  refine rx_if_eq hG 136 dX10_tallies_106 rfl (fun c4 => ?_) (fun c4 => ?_)
  · have hf := ifT hf c4
    cases hf
    exact rx_vret hG dX10_tallies_136
  · have hf := ifF hf c4
    refine rx_aload_n hG dX10_tallies_109 0 rfl ?_
    refine rx_iload_n hG dX10_tallies_110 1 rfl ?_
    refine rx_iconst hG 3 dX10_tallies_111 ic_3 ?_
    obtain ⟨v5, hv5, hf⟩ := bindE hf
    refine rx_cSi hG (c_M_of l E (SKM ++ T) x3 3 hv5) kw_M_264 ⟨Nat.le_of_ble_eq_true rfl, Nat.le_of_ble_eq_true rfl⟩ rfl (Nat.le_of_ble_eq_true rfl) dX10_tallies_112 ?_
    obtain ⟨v6, hv6, hf⟩ := bindE hf
    refine rx_iald hG (skM16 T) hv6 dX10_tallies_115 ?_
    refine rx_bipush hG (-2) dX10_tallies_116 bp_m2 ?_
    refine rx_icmp_eq hG 136 dX10_tallies_118 rfl (fun c7 => ?_) (fun c7 => ?_)
    · have hf := ifT hf c7
      cases hf
      exact rx_vret hG dX10_tallies_136
    · have hf := ifF hf c7
      refine rx_aload_n hG dX10_tallies_121 0 rfl ?_
      refine rx_iconst hG 1 dX10_tallies_122 ic_1 ?_
      obtain ⟨v8, hv8, hf⟩ := bindE hf
      refine rx_iald hG (skM16 T) hv8 dX10_tallies_123 ?_
      refine rx_iconst hG (-1) dX10_tallies_124 ic_m1 ?_
      refine rx_icmp_eq hG 137 dX10_tallies_125 rfl (fun c9 => ?_) (fun c9 => ?_)
      · have hf := ifT hf c9
        refine rx_sub hG [0, 1, 2] (lv' := [(1, .ref (adr E 16)), (3, .int x3), (4, .int x4)]) rfl ?_
        exact Lj_M_tallies_0_16_12_137 l E T hG  x3 x4 M3 hf
      · have hf := ifF hf c9
        refine rx_aload_n hG dX10_tallies_128 0 rfl ?_
        refine rx_iconst hG 1 dX10_tallies_129 ic_1 ?_
        obtain ⟨v10, hv10, hf⟩ := bindE hf
        refine rx_iald hG (skM16 T) hv10 dX10_tallies_130 ?_
        refine rx_iload hG dX10_tallies_131 2 rfl ?_
        refine rx_icmp_eq hG 137 dX10_tallies_133 rfl (fun c11 => ?_) (fun c11 => ?_)
        · have hf := ifT hf c11
          refine rx_sub hG [0, 1, 2] (lv' := [(1, .ref (adr E 16)), (3, .int x3), (4, .int x4)]) rfl ?_
          exact Lj_M_tallies_0_16_12_137 l E T hG  x3 x4 M3 hf
        · have hf := ifF hf c11
          cases hf
          exact rx_vret hG dX10_tallies_136
set_option maxHeartbeats 4000000 in
set_option maxRecDepth 100000 in
theorem Lj_M_tallies_0_16_12_82 (l : Launch) (E : En) (T : List Sk) {a0 b0 kc ks : Nat} {M' : Mm} {G : Nat → List (Nat × Value) → List Value → Mm → Prop} (hG : RX l (SKM ++ T) E RX10 cX10_tallies 8 none { frames := 3, cells := a0, slots := b0, locals := 69 } kc ks none M' G)  : ∀ (x3 : Int32) (x4 : Int32) (x6 : Int32) (M : Mm), j_M_tallies_0_16_12_82  x3 x4 x6 M = some M' → G 82 [(1, .ref (adr E 16)), (3, .int x3), (4, .int x4), (6, .int x6)] [] M := by
  intro x3 x4 x6 M hf
  unfold j_M_tallies_0_16_12_82 at hf
  refine rx_aload_n hG dX10_tallies_82 0 rfl ?_
  refine rx_iload_n hG dX10_tallies_83 1 rfl ?_
  refine rx_iload hG dX10_tallies_84 3 rfl ?_
  refine rx_if_eq hG 94 dX10_tallies_86 rfl (fun c1 => ?_) (fun c1 => ?_)
  · have hf := ifT hf c1
    refine rx_bipush hG 8 dX10_tallies_94 bp_8 ?_
    exact Lj_M_tallies_0_16_12_96 l E T hG  x3 x4 x6 8 x3 M hf
  · have hf := ifF hf c1
    refine rx_bipush hG 7 dX10_tallies_89 bp_7 ?_
    refine rx_goto hG 96 dX10_tallies_91 rfl ?_
    exact Lj_M_tallies_0_16_12_96 l E T hG  x3 x4 x6 7 x3 M hf
set_option maxHeartbeats 4000000 in
set_option maxRecDepth 100000 in
theorem Lj_M_tallies_0_16_12_74 (l : Launch) (E : En) (T : List Sk) {a0 b0 kc ks : Nat} {M' : Mm} {G : Nat → List (Nat × Value) → List Value → Mm → Prop} (hG : RX l (SKM ++ T) E RX10 cX10_tallies 8 none { frames := 3, cells := a0, slots := b0, locals := 69 } kc ks none M' G) (rc43 : Int32 → Int32 → Int32 → Int32 → Mm → Option Mm) (hrc43 : ∀ (x3 : Int32) (x4 : Int32) (x6 : Int32) (x7 : Int32) (M : Mm), rc43 x3 x4 x6 x7 M = some M' → G 43 [(0, .ref (adr E 0)), (1, .ref (adr E 16)), (2, .ref (adr E 12)), (3, .int x3), (4, .int x4), (6, .int x6), (7, .int x7)] [] M) : ∀ (x3 : Int32) (x4 : Int32) (x7 : Int32) (t0 : Int32) (M : Mm), j_M_tallies_0_16_12_74 rc43 x3 x4 x7 t0 M = some M' → G 74 [(0, .ref (adr E 0)), (1, .ref (adr E 16)), (2, .ref (adr E 12)), (3, .int x3), (4, .int x4), (7, .int x7)] [.int t0] M := by
  intro x3 x4 x7 t0 M hf
  unfold j_M_tallies_0_16_12_74 at hf
  refine rx_istore (lv2 := [(6, .int t0), (0, .ref (adr E 0)), (1, .ref (adr E 16)), (2, .ref (adr E 12)), (3, .int x3), (4, .int x4), (7, .int x7)]) hG dX10_tallies_74 (Nat.le_of_ble_eq_true rfl) rfl ?_
  refine rx_iinc (lv2 := [(7, .int (x7 + 1)), (6, .int t0), (0, .ref (adr E 0)), (1, .ref (adr E 16)), (2, .ref (adr E 12)), (3, .int x3), (4, .int x4)]) hG 1 dX10_tallies_76 ic_1 6 rfl (Nat.le_of_ble_eq_true rfl) rfl ?_
  refine rx_goto hG 43 dX10_tallies_79 rfl ?_
  refine rx_sub hG [2, 3, 4, 5, 6, 1, 0] (lv' := [(0, .ref (adr E 0)), (1, .ref (adr E 16)), (2, .ref (adr E 12)), (3, .int x3), (4, .int x4), (6, .int t0), (7, .int (x7 + 1))]) rfl ?_
  exact hrc43 x3 x4 t0 (x7 + 1) M hf
set_option maxHeartbeats 4000000 in
set_option maxRecDepth 100000 in
theorem Lj_M_tallies_0_16_12_69 (l : Launch) (E : En) (T : List Sk) {a0 b0 kc ks : Nat} {M' : Mm} {G : Nat → List (Nat × Value) → List Value → Mm → Prop} (hG : RX l (SKM ++ T) E RX10 cX10_tallies 8 none { frames := 3, cells := a0, slots := b0, locals := 69 } kc ks none M' G) (rc43 : Int32 → Int32 → Int32 → Int32 → Mm → Option Mm) (hrc43 : ∀ (x3 : Int32) (x4 : Int32) (x6 : Int32) (x7 : Int32) (M : Mm), rc43 x3 x4 x6 x7 M = some M' → G 43 [(0, .ref (adr E 0)), (1, .ref (adr E 16)), (2, .ref (adr E 12)), (3, .int x3), (4, .int x4), (6, .int x6), (7, .int x7)] [] M) : ∀ (x3 : Int32) (x4 : Int32) (x7 : Int32) (M : Mm), j_M_tallies_0_16_12_69 rc43 x3 x4 x7 M = some M' → G 69 [(0, .ref (adr E 0)), (1, .ref (adr E 16)), (2, .ref (adr E 12)), (3, .int x3), (4, .int x4), (7, .int x7)] [] M := by
  intro x3 x4 x7 M hf
  unfold j_M_tallies_0_16_12_69 at hf
  refine rx_iconst hG 1 dX10_tallies_69 ic_1 ?_
  refine rx_goto hG 74 dX10_tallies_70 rfl ?_
  exact Lj_M_tallies_0_16_12_74 l E T hG rc43 hrc43 x3 x4 x7 1 M hf
set_option maxHeartbeats 4000000 in
set_option maxRecDepth 100000 in
theorem Lblp_M_tallies_0_16_12_43 (l : Launch) (E : En) (T : List Sk) {a0 b0 kc ks : Nat} {M' : Mm} {G : Nat → List (Nat × Value) → List Value → Mm → Prop} (hG : RX l (SKM ++ T) E RX10 cX10_tallies 8 none { frames := 3, cells := a0, slots := b0, locals := 69 } kc ks none M' G) (rc43 : Int32 → Int32 → Int32 → Int32 → Mm → Option Mm) (hrc43 : ∀ (x3 : Int32) (x4 : Int32) (x6 : Int32) (x7 : Int32) (M : Mm), rc43 x3 x4 x6 x7 M = some M' → G 43 [(0, .ref (adr E 0)), (1, .ref (adr E 16)), (2, .ref (adr E 12)), (3, .int x3), (4, .int x4), (6, .int x6), (7, .int x7)] [] M) : ∀ (x3 : Int32) (x4 : Int32) (x6 : Int32) (x7 : Int32) (M : Mm), blp_M_tallies_0_16_12_43 rc43 x3 x4 x6 x7 M = some M' → G 43 [(0, .ref (adr E 0)), (1, .ref (adr E 16)), (2, .ref (adr E 12)), (3, .int x3), (4, .int x4), (6, .int x6), (7, .int x7)] [] M := by
  intro x3 x4 x6 x7 M hf
  unfold blp_M_tallies_0_16_12_43 at hf
  refine rx_iload hG dX10_tallies_43 6 rfl ?_
  refine rx_aload_n hG dX10_tallies_45 0 rfl ?_
  refine gfM_M_248_0 l E T hG dX10_tallies_46 ?_
  refine rx_icmp_ge hG 82 dX10_tallies_49 rfl (fun c1 => ?_) (fun c1 => ?_)
  · have hf := ifT hf c1
    refine rx_sub hG [1, 3, 4, 5] (lv' := [(1, .ref (adr E 16)), (3, .int x3), (4, .int x4), (6, .int x6)]) rfl ?_
    exact Lj_M_tallies_0_16_12_82 l E T hG  x3 x4 x6 M hf
  · have hf := ifF hf c1
    refine rx_iload hG dX10_tallies_52 5 rfl ?_
    refine rx_if_ne hG 69 dX10_tallies_54 rfl (fun c2 => ?_) (fun c2 => ?_)
    · have hf := ifF hf c2
      refine rx_sub hG [0, 1, 2, 3, 4, 6] (lv' := [(0, .ref (adr E 0)), (1, .ref (adr E 16)), (2, .ref (adr E 12)), (3, .int x3), (4, .int x4), (7, .int x7)]) rfl ?_
      exact Lj_M_tallies_0_16_12_69 l E T hG rc43 hrc43 x3 x4 x7 M hf
    · have hf := ifT hf c2
      refine rx_aload_n hG dX10_tallies_57 0 rfl ?_
      refine rx_aload_n hG dX10_tallies_58 1 rfl ?_
      refine rx_aload_n hG dX10_tallies_59 2 rfl ?_
      refine rx_iload_n hG dX10_tallies_60 3 rfl ?_
      refine rx_iload hG dX10_tallies_61 6 rfl ?_
      obtain ⟨v3, hv3, hf⟩ := bindE hf
      refine rx_cVi hG (c_M_free_0_16_12 l E T x3 x7 hv3) (skM0 T) rfl rfl kw_M_280 ⟨Nat.le_of_ble_eq_true rfl, Nat.le_of_ble_eq_true rfl⟩ rfl (Nat.le_of_ble_eq_true rfl) dX10_tallies_63 ?_
      refine rx_if_le hG 73 dX10_tallies_66 rfl (fun c4 => ?_) (fun c4 => ?_)
      · have hf := ifT hf c4
        refine rx_iconst hG 0 dX10_tallies_73 ic_0 ?_
        refine rx_sub hG [0, 1, 2, 3, 4, 6] (lv' := [(0, .ref (adr E 0)), (1, .ref (adr E 16)), (2, .ref (adr E 12)), (3, .int x3), (4, .int x4), (7, .int x7)]) rfl ?_
        exact Lj_M_tallies_0_16_12_74 l E T hG rc43 hrc43 x3 x4 x7 0 M hf
      · have hf := ifF hf c4
        refine rx_sub hG [0, 1, 2, 3, 4, 6] (lv' := [(0, .ref (adr E 0)), (1, .ref (adr E 16)), (2, .ref (adr E 12)), (3, .int x3), (4, .int x4), (7, .int x7)]) rfl ?_
        exact Lj_M_tallies_0_16_12_69 l E T hG rc43 hrc43 x3 x4 x7 M hf
theorem Llp_M_tallies_0_16_12_43 (l : Launch) (E : En) (T : List Sk) {a0 b0 kc ks : Nat} {M' : Mm} {G : Nat → List (Nat × Value) → List Value → Mm → Prop} (hG : RX l (SKM ++ T) E RX10 cX10_tallies 8 none { frames := 3, cells := a0, slots := b0, locals := 69 } kc ks none M' G)  : ∀ (n : Nat) (x3 : Int32) (x4 : Int32) (x6 : Int32) (x7 : Int32) (M : Mm), lp_M_tallies_0_16_12_43  n x3 x4 x6 x7 M = some M' → G 43 [(0, .ref (adr E 0)), (1, .ref (adr E 16)), (2, .ref (adr E 12)), (3, .int x3), (4, .int x4), (6, .int x6), (7, .int x7)] [] M := by
  intro n
  induction n with
  | zero => intro x3 x4 x6 x7 M hf; cases hf
  | succ n ih => intro x3 x4 x6 x7 M hf; exact Lblp_M_tallies_0_16_12_43 l E T hG  (lp_M_tallies_0_16_12_43  n) ih x3 x4 x6 x7 M hf
set_option maxHeartbeats 4000000 in
set_option maxRecDepth 100000 in
theorem c_M_tallies_0_16_12 (l : Launch) (E : En) (T : List Sk) (p0 : Int32) (p1 : Int32) {M M' : Mm} (h : f_M_tallies_0_16_12 p0 p1 M = some M') : Ct l (SKM ++ T) E yX10_tallies cX10_tallies 8 none 3 69 [.ref (adr E 0), .ref (adr E 16), .ref (adr E 12), .int p0, .int p1] M none M' := by
  refine ct_of (by decide) (Nat.le_of_ble_eq_true rfl) ?_
  intro G hG
  show G 0 [(0, .ref (adr E 0)), (1, .ref (adr E 16)), (2, .ref (adr E 12)), (3, .int p0), (4, .int p1)] [] M
  have hf := h
  unfold f_M_tallies_0_16_12 at hf
  refine rx_aload_n hG dX10_tallies_0 1 rfl ?_
  refine rx_iload_n hG dX10_tallies_1 3 rfl ?_
  refine rx_iconst hG 0 dX10_tallies_2 ic_0 ?_
  obtain ⟨v1, hv1, hf⟩ := bindE hf
  refine rx_cSi hG (c_M_of l E (SKM ++ T) p0 0 hv1) kw_M_264 ⟨Nat.le_of_ble_eq_true rfl, Nat.le_of_ble_eq_true rfl⟩ rfl (Nat.le_of_ble_eq_true rfl) dX10_tallies_3 ?_
  obtain ⟨v2, hv2, hf⟩ := bindE hf
  refine rx_iald hG (skM16 T) hv2 dX10_tallies_6 ?_
  refine rx_istore (lv2 := [(5, .int v2), (0, .ref (adr E 0)), (1, .ref (adr E 16)), (2, .ref (adr E 12)), (3, .int p0), (4, .int p1)]) hG dX10_tallies_7 (Nat.le_of_ble_eq_true rfl) rfl ?_
  refine rx_iload hG dX10_tallies_9 0 rfl ?_
  refine rx_if_le hG 37 dX10_tallies_11 rfl (fun c3 => ?_) (fun c3 => ?_)
  · have hf := ifT hf c3
    refine rx_iconst hG 0 dX10_tallies_37 ic_0 ?_
    refine rx_istore (lv2 := [(6, .int 0), (5, .int v2), (0, .ref (adr E 0)), (1, .ref (adr E 16)), (2, .ref (adr E 12)), (3, .int p0), (4, .int p1)]) hG dX10_tallies_38 (Nat.le_of_ble_eq_true rfl) rfl ?_
    refine rx_iconst hG 0 dX10_tallies_40 ic_0 ?_
    refine rx_istore (lv2 := [(7, .int 0), (6, .int 0), (5, .int v2), (0, .ref (adr E 0)), (1, .ref (adr E 16)), (2, .ref (adr E 12)), (3, .int p0), (4, .int p1)]) hG dX10_tallies_41 (Nat.le_of_ble_eq_true rfl) rfl ?_
    refine rx_sub hG [3, 4, 5, 6, 7, 1, 0] (lv' := [(0, .ref (adr E 0)), (1, .ref (adr E 16)), (2, .ref (adr E 12)), (3, .int p0), (4, .int p1), (6, .int 0), (7, .int 0)]) rfl ?_
    exact Llp_M_tallies_0_16_12_43 l E T hG  FW p0 p1 0 0 M hf
  · have hf := ifF hf c3
    refine rx_aload_n hG dX10_tallies_14 2 rfl ?_
    refine rx_iload_n hG dX10_tallies_15 4 rfl ?_
    refine rx_iload hG dX10_tallies_16 0 rfl ?_
    refine rx_iconst hG 1 dX10_tallies_18 ic_1 ?_
    refine rx_icmp_ne hG 26 dX10_tallies_19 rfl (fun c4 => ?_) (fun c4 => ?_)
    · have hf := ifF hf c4
      refine rx_bipush hG 6 dX10_tallies_26 bp_6 ?_
      obtain ⟨v5, hv5, hf⟩ := bindE hf
      refine rx_cSi hG (c_M_of l E (SKM ++ T) p0 6 hv5) kw_M_264 ⟨Nat.le_of_ble_eq_true rfl, Nat.le_of_ble_eq_true rfl⟩ rfl (Nat.le_of_ble_eq_true rfl) dX10_tallies_28 ?_
      refine rx_dup2 hG dX10_tallies_31 rfl rfl ?_
      obtain ⟨v6, hv6, hf⟩ := bindE hf
      refine rx_iald hG (skM16 T) hv6 dX10_tallies_32 ?_
      refine rx_iconst hG 1 dX10_tallies_33 ic_1 ?_
      refine rx_iadd hG dX10_tallies_34 ?_
      obtain ⟨M7, hM7, hf⟩ := bindE hf
      refine rx_iast hG (skM16 T) hM7 dX10_tallies_35 ?_
      cases hf
      exact rx_vret hG dX10_tallies_36
    · have hf := ifT hf c4
      refine rx_iconst hG 5 dX10_tallies_22 ic_5 ?_
      refine rx_goto hG 28 dX10_tallies_23 rfl ?_
      obtain ⟨v8, hv8, hf⟩ := bindE hf
      refine rx_cSi hG (c_M_of l E (SKM ++ T) p0 5 hv8) kw_M_264 ⟨Nat.le_of_ble_eq_true rfl, Nat.le_of_ble_eq_true rfl⟩ rfl (Nat.le_of_ble_eq_true rfl) dX10_tallies_28 ?_
      refine rx_dup2 hG dX10_tallies_31 rfl rfl ?_
      obtain ⟨v9, hv9, hf⟩ := bindE hf
      refine rx_iald hG (skM16 T) hv9 dX10_tallies_32 ?_
      refine rx_iconst hG 1 dX10_tallies_33 ic_1 ?_
      refine rx_iadd hG dX10_tallies_34 ?_
      obtain ⟨M10, hM10, hf⟩ := bindE hf
      refine rx_iast hG (skM16 T) hM10 dX10_tallies_35 ?_
      cases hf
      exact rx_vret hG dX10_tallies_36
set_option maxHeartbeats 4000000 in
set_option maxRecDepth 100000 in
theorem c_M_can_0_16_12 (l : Launch) (E : En) (T : List Sk) (p0 : Int32) (p1 : Int32) {M : Mm} {r : Int32} (h : f_M_can_0_16_12 p0 p1 M = some r) : Ct l (SKM ++ T) E yX10_can cX10_can 5 (some .boolean) 3 69 [.ref (adr E 0), .ref (adr E 16), .ref (adr E 12), .int p0, .int p1] M (some (.int r)) M := by
  refine ct_of (by decide) (Nat.le_of_ble_eq_true rfl) ?_
  intro G hG
  show G 0 [(0, .ref (adr E 0)), (1, .ref (adr E 16)), (2, .ref (adr E 12)), (3, .int p0), (4, .int p1)] [] M
  have hf := h
  unfold f_M_can_0_16_12 at hf
  refine rx_aload_n hG dX10_can_0 0 rfl ?_
  refine rx_aload_n hG dX10_can_1 1 rfl ?_
  refine rx_aload_n hG dX10_can_2 2 rfl ?_
  refine rx_iload_n hG dX10_can_3 3 rfl ?_
  refine rx_iload hG dX10_can_4 4 rfl ?_
  obtain ⟨v1, hv1, hf⟩ := bindE hf
  refine rx_cVi hG (c_M_free_0_16_12 l E T p0 p1 hv1) (skM0 T) rfl rfl kw_M_280 ⟨Nat.le_of_ble_eq_true rfl, Nat.le_of_ble_eq_true rfl⟩ rfl (Nat.le_of_ble_eq_true rfl) dX10_can_6 ?_
  refine rx_if_le hG 33 dX10_can_9 rfl (fun c2 => ?_) (fun c2 => ?_)
  · have hf := ifT hf c2
    refine rx_iconst hG 0 dX10_can_33 ic_0 ?_
    cases hf
    exact rx_zret hG zr0 dX10_can_34
  · have hf := ifF hf c2
    refine rx_iload_n hG dX10_can_12 3 rfl ?_
    refine rx_if_eq hG 29 dX10_can_13 rfl (fun c3 => ?_) (fun c3 => ?_)
    · have hf := ifT hf c3
      refine rx_iconst hG 1 dX10_can_29 ic_1 ?_
      refine rx_goto hG 34 dX10_can_30 rfl ?_
      cases hf
      exact rx_zret hG zr1 dX10_can_34
    · have hf := ifF hf c3
      refine rx_aload_n hG dX10_can_16 1 rfl ?_
      refine rx_iload_n hG dX10_can_17 3 rfl ?_
      refine rx_iconst hG 1 dX10_can_18 ic_1 ?_
      refine rx_isub hG dX10_can_19 ?_
      refine rx_iload hG dX10_can_20 4 rfl ?_
      obtain ⟨v4, hv4, hf⟩ := bindE hf
      refine rx_cSi hG (c_M_store l E (SKM ++ T) (p0 - 1) p1 hv4) kw_M_267 ⟨Nat.le_of_ble_eq_true rfl, Nat.le_of_ble_eq_true rfl⟩ rfl (Nat.le_of_ble_eq_true rfl) dX10_can_22 ?_
      obtain ⟨v5, hv5, hf⟩ := bindE hf
      refine rx_iald hG (skM16 T) hv5 dX10_can_25 ?_
      refine rx_if_le hG 33 dX10_can_26 rfl (fun c6 => ?_) (fun c6 => ?_)
      · have hf := ifT hf c6
        refine rx_iconst hG 0 dX10_can_33 ic_0 ?_
        cases hf
        exact rx_zret hG zr0 dX10_can_34
      · have hf := ifF hf c6
        refine rx_iconst hG 1 dX10_can_29 ic_1 ?_
        refine rx_goto hG 34 dX10_can_30 rfl ?_
        cases hf
        exact rx_zret hG zr1 dX10_can_34
set_option maxHeartbeats 4000000 in
set_option maxRecDepth 100000 in
theorem Lj_M_chosen_0_16_12_112 (l : Launch) (E : En) (T : List Sk) {a0 b0 kc ks : Nat} {r : Int32} {M : Mm} {G : Nat → List (Nat × Value) → List Value → Mm → Prop} (hG : RX l (SKM ++ T) E RX10 cX10_chosen 8 (some .int) { frames := 4, cells := a0, slots := b0, locals := 93 } kc ks (some (.int r)) M G) (rc6 : Int32 → Int32 → Int32 → Mm → Option Int32) (hrc6 : ∀ (x3 : Int32) (x4 : Int32) (x5 : Int32), rc6 x3 x4 x5 M = some r → G 6 [(0, .ref (adr E 0)), (1, .ref (adr E 16)), (2, .ref (adr E 12)), (3, .int x3), (4, .int x4), (5, .int x5)] [] M) : ∀ (x3 : Int32) (x4 : Int32) (x5 : Int32), j_M_chosen_0_16_12_112 rc6 x3 x4 x5 M = some r → G 112 [(0, .ref (adr E 0)), (1, .ref (adr E 16)), (2, .ref (adr E 12)), (3, .int x3), (4, .int x4), (5, .int x5)] [] M := by
  intro x3 x4 x5 hf
  unfold j_M_chosen_0_16_12_112 at hf
  refine rx_iinc (lv2 := [(5, .int (x5 + 1)), (0, .ref (adr E 0)), (1, .ref (adr E 16)), (2, .ref (adr E 12)), (3, .int x3), (4, .int x4)]) hG 1 dX10_chosen_112 ic_1 5 rfl (Nat.le_of_ble_eq_true rfl) rfl ?_
  refine rx_goto hG 6 dX10_chosen_115 rfl ?_
  refine rx_sub hG [1, 2, 3, 4, 5, 0] (lv' := [(0, .ref (adr E 0)), (1, .ref (adr E 16)), (2, .ref (adr E 12)), (3, .int x3), (4, .int x4), (5, .int (x5 + 1))]) rfl ?_
  exact hrc6 x3 x4 (x5 + 1) hf
set_option maxHeartbeats 4000000 in
set_option maxRecDepth 100000 in
theorem Lj_M_chosen_0_16_12_108 (l : Launch) (E : En) (T : List Sk) {a0 b0 kc ks : Nat} {r : Int32} {M : Mm} {G : Nat → List (Nat × Value) → List Value → Mm → Prop} (hG : RX l (SKM ++ T) E RX10 cX10_chosen 8 (some .int) { frames := 4, cells := a0, slots := b0, locals := 93 } kc ks (some (.int r)) M G) (rc6 : Int32 → Int32 → Int32 → Mm → Option Int32) (hrc6 : ∀ (x3 : Int32) (x4 : Int32) (x5 : Int32), rc6 x3 x4 x5 M = some r → G 6 [(0, .ref (adr E 0)), (1, .ref (adr E 16)), (2, .ref (adr E 12)), (3, .int x3), (4, .int x4), (5, .int x5)] [] M) : ∀ (x3 : Int32) (x5 : Int32) (x7 : Int32), j_M_chosen_0_16_12_108 rc6 x3 x5 x7 M = some r → G 108 [(0, .ref (adr E 0)), (1, .ref (adr E 16)), (2, .ref (adr E 12)), (3, .int x3), (5, .int x5), (7, .int x7)] [] M := by
  intro x3 x5 x7 hf
  unfold j_M_chosen_0_16_12_108 at hf
  refine rx_iload hG dX10_chosen_108 5 rfl ?_
  refine rx_istore (lv2 := [(4, .int x7), (0, .ref (adr E 0)), (1, .ref (adr E 16)), (2, .ref (adr E 12)), (3, .int x3), (5, .int x5), (7, .int x7)]) hG dX10_chosen_110 (Nat.le_of_ble_eq_true rfl) rfl ?_
  refine rx_sub hG [1, 2, 3, 4, 0, 5] (lv' := [(0, .ref (adr E 0)), (1, .ref (adr E 16)), (2, .ref (adr E 12)), (3, .int x3), (4, .int x7), (5, .int x5)]) rfl ?_
  exact Lj_M_chosen_0_16_12_112 l E T hG rc6 hrc6 x3 x7 x5 hf
set_option maxHeartbeats 4000000 in
set_option maxRecDepth 100000 in
theorem Lj_M_chosen_0_16_12_56 (l : Launch) (E : En) (T : List Sk) {a0 b0 kc ks : Nat} {r : Int32} {M : Mm} {G : Nat → List (Nat × Value) → List Value → Mm → Prop} (hG : RX l (SKM ++ T) E RX10 cX10_chosen 8 (some .int) { frames := 4, cells := a0, slots := b0, locals := 93 } kc ks (some (.int r)) M G) (rc6 : Int32 → Int32 → Int32 → Mm → Option Int32) (hrc6 : ∀ (x3 : Int32) (x4 : Int32) (x5 : Int32), rc6 x3 x4 x5 M = some r → G 6 [(0, .ref (adr E 0)), (1, .ref (adr E 16)), (2, .ref (adr E 12)), (3, .int x3), (4, .int x4), (5, .int x5)] [] M) : ∀ (x3 : Int32) (x4 : Int32) (x5 : Int32) (t0 : Int32), j_M_chosen_0_16_12_56 rc6 x3 x4 x5 t0 M = some r → G 56 [(0, .ref (adr E 0)), (1, .ref (adr E 16)), (2, .ref (adr E 12)), (3, .int x3), (4, .int x4), (5, .int x5)] [.int t0] M := by
  intro x3 x4 x5 t0 hf
  unfold j_M_chosen_0_16_12_56 at hf
  refine rx_istore (lv2 := [(7, .int t0), (0, .ref (adr E 0)), (1, .ref (adr E 16)), (2, .ref (adr E 12)), (3, .int x3), (4, .int x4), (5, .int x5)]) hG dX10_chosen_56 (Nat.le_of_ble_eq_true rfl) rfl ?_
  refine rx_aload_n hG dX10_chosen_58 1 rfl ?_
  refine rx_aload_n hG dX10_chosen_59 2 rfl ?_
  refine rx_aload_n hG dX10_chosen_60 3 rfl ?_
  refine rx_iload_n hG dX10_chosen_61 4 rfl ?_
  refine rx_iload hG dX10_chosen_62 0 rfl ?_
  obtain ⟨v1, hv1, hf⟩ := bindE hf
  refine rx_cVi hG (c_M_can_0_16_12 l E T x3 t0 hv1) (skM0 T) rfl rfl kw_M_284 ⟨Nat.le_of_ble_eq_true rfl, Nat.le_of_ble_eq_true rfl⟩ rfl (Nat.le_of_ble_eq_true rfl) dX10_chosen_64 ?_
  refine rx_if_ne hG 73 dX10_chosen_67 rfl (fun c2 => ?_) (fun c2 => ?_)
  · have hf := ifF hf c2
    refine rx_iload hG dX10_chosen_73 5 rfl ?_
    refine rx_iconst hG (-1) dX10_chosen_75 ic_m1 ?_
    refine rx_icmp_eq hG 108 dX10_chosen_76 rfl (fun c3 => ?_) (fun c3 => ?_)
    · have hf := ifT hf c3
      refine rx_sub hG [1, 2, 3, 4, 6, 0] (lv' := [(0, .ref (adr E 0)), (1, .ref (adr E 16)), (2, .ref (adr E 12)), (3, .int x3), (5, .int x5), (7, .int t0)]) rfl ?_
      exact Lj_M_chosen_0_16_12_108 l E T hG rc6 hrc6 x3 x5 t0 hf
    · have hf := ifF hf c3
      refine rx_aload_n hG dX10_chosen_79 3 rfl ?_
      refine rx_bipush hG 36 dX10_chosen_80 bp_36 ?_
      obtain ⟨v4, hv4, hf⟩ := bindE hf
      refine rx_iald hG (skM12 T) hv4 dX10_chosen_82 ?_
      refine rx_iconst hG 1 dX10_chosen_83 ic_1 ?_
      refine rx_icmp_ne hG 112 dX10_chosen_84 rfl (fun c5 => ?_) (fun c5 => ?_)
      · have hf := ifF hf c5
        refine rx_sub hG [1, 2, 3, 4, 5, 6] (lv' := [(0, .ref (adr E 0)), (1, .ref (adr E 16)), (2, .ref (adr E 12)), (3, .int x3), (4, .int x4), (5, .int x5)]) rfl ?_
        exact Lj_M_chosen_0_16_12_112 l E T hG rc6 hrc6 x3 x4 x5 hf
      · have hf := ifT hf c5
        refine rx_aload_n hG dX10_chosen_87 1 rfl ?_
        refine rx_aload_n hG dX10_chosen_88 2 rfl ?_
        refine rx_aload_n hG dX10_chosen_89 3 rfl ?_
        refine rx_iload_n hG dX10_chosen_90 4 rfl ?_
        refine rx_iload hG dX10_chosen_91 0 rfl ?_
        obtain ⟨v6, hv6, hf⟩ := bindE hf
        refine rx_cVi hG (c_M_free_0_16_12 l E T x3 t0 hv6) (skM0 T) rfl rfl kw_M_280 ⟨Nat.le_of_ble_eq_true rfl, Nat.le_of_ble_eq_true rfl⟩ rfl (Nat.le_of_ble_eq_true rfl) dX10_chosen_93 ?_
        refine rx_aload_n hG dX10_chosen_96 1 rfl ?_
        refine rx_aload_n hG dX10_chosen_97 2 rfl ?_
        refine rx_aload_n hG dX10_chosen_98 3 rfl ?_
        refine rx_iload_n hG dX10_chosen_99 4 rfl ?_
        refine rx_iload hG dX10_chosen_100 5 rfl ?_
        obtain ⟨v7, hv7, hf⟩ := bindE hf
        refine rx_cVi hG (c_M_free_0_16_12 l E T x3 x4 hv7) (skM0 T) rfl rfl kw_M_280 ⟨Nat.le_of_ble_eq_true rfl, Nat.le_of_ble_eq_true rfl⟩ rfl (Nat.le_of_ble_eq_true rfl) dX10_chosen_102 ?_
        refine rx_icmp_le hG 112 dX10_chosen_105 rfl (fun c8 => ?_) (fun c8 => ?_)
        · have hf := ifT hf c8
          refine rx_sub hG [1, 2, 3, 4, 5, 6] (lv' := [(0, .ref (adr E 0)), (1, .ref (adr E 16)), (2, .ref (adr E 12)), (3, .int x3), (4, .int x4), (5, .int x5)]) rfl ?_
          exact Lj_M_chosen_0_16_12_112 l E T hG rc6 hrc6 x3 x4 x5 hf
        · have hf := ifF hf c8
          refine rx_sub hG [1, 2, 3, 4, 6, 0] (lv' := [(0, .ref (adr E 0)), (1, .ref (adr E 16)), (2, .ref (adr E 12)), (3, .int x3), (5, .int x5), (7, .int t0)]) rfl ?_
          exact Lj_M_chosen_0_16_12_108 l E T hG rc6 hrc6 x3 x5 t0 hf
  · have hf := ifT hf c2
    refine rx_goto hG 112 dX10_chosen_70 rfl ?_
    refine rx_sub hG [1, 2, 3, 4, 5, 6] (lv' := [(0, .ref (adr E 0)), (1, .ref (adr E 16)), (2, .ref (adr E 12)), (3, .int x3), (4, .int x4), (5, .int x5)]) rfl ?_
    exact Lj_M_chosen_0_16_12_112 l E T hG rc6 hrc6 x3 x4 x5 hf
set_option maxHeartbeats 4000000 in
set_option maxRecDepth 100000 in
theorem Lj_M_chosen_0_16_12_52 (l : Launch) (E : En) (T : List Sk) {a0 b0 kc ks : Nat} {r : Int32} {M : Mm} {G : Nat → List (Nat × Value) → List Value → Mm → Prop} (hG : RX l (SKM ++ T) E RX10 cX10_chosen 8 (some .int) { frames := 4, cells := a0, slots := b0, locals := 93 } kc ks (some (.int r)) M G) (rc6 : Int32 → Int32 → Int32 → Mm → Option Int32) (hrc6 : ∀ (x3 : Int32) (x4 : Int32) (x5 : Int32), rc6 x3 x4 x5 M = some r → G 6 [(0, .ref (adr E 0)), (1, .ref (adr E 16)), (2, .ref (adr E 12)), (3, .int x3), (4, .int x4), (5, .int x5)] [] M) : ∀ (x3 : Int32) (x4 : Int32) (x5 : Int32), j_M_chosen_0_16_12_52 rc6 x3 x4 x5 M = some r → G 52 [(0, .ref (adr E 0)), (1, .ref (adr E 16)), (2, .ref (adr E 12)), (3, .int x3), (4, .int x4), (5, .int x5)] [] M := by
  intro x3 x4 x5 hf
  unfold j_M_chosen_0_16_12_52 at hf
  refine rx_iload hG dX10_chosen_52 5 rfl ?_
  refine rx_iconst hG 1 dX10_chosen_54 ic_1 ?_
  refine rx_isub hG dX10_chosen_55 ?_
  exact Lj_M_chosen_0_16_12_56 l E T hG rc6 hrc6 x3 x4 x5 (x5 - 1) hf
set_option maxHeartbeats 4000000 in
set_option maxRecDepth 100000 in
theorem Lblp_M_chosen_0_16_12_6 (l : Launch) (E : En) (T : List Sk) {a0 b0 kc ks : Nat} {r : Int32} {M : Mm} {G : Nat → List (Nat × Value) → List Value → Mm → Prop} (hG : RX l (SKM ++ T) E RX10 cX10_chosen 8 (some .int) { frames := 4, cells := a0, slots := b0, locals := 93 } kc ks (some (.int r)) M G) (rc6 : Int32 → Int32 → Int32 → Mm → Option Int32) (hrc6 : ∀ (x3 : Int32) (x4 : Int32) (x5 : Int32), rc6 x3 x4 x5 M = some r → G 6 [(0, .ref (adr E 0)), (1, .ref (adr E 16)), (2, .ref (adr E 12)), (3, .int x3), (4, .int x4), (5, .int x5)] [] M) : ∀ (x3 : Int32) (x4 : Int32) (x5 : Int32), blp_M_chosen_0_16_12_6 rc6 x3 x4 x5 M = some r → G 6 [(0, .ref (adr E 0)), (1, .ref (adr E 16)), (2, .ref (adr E 12)), (3, .int x3), (4, .int x4), (5, .int x5)] [] M := by
  intro x3 x4 x5 hf
  unfold blp_M_chosen_0_16_12_6 at hf
  refine rx_iload hG dX10_chosen_6 5 rfl ?_
  refine rx_aload_n hG dX10_chosen_8 0 rfl ?_
  refine gfM_M_248_0 l E T hG dX10_chosen_9 ?_
  refine rx_icmp_gt hG 118 dX10_chosen_12 rfl (fun c1 => ?_) (fun c1 => ?_)
  · have hf := ifT hf c1
    refine rx_iload hG dX10_chosen_118 4 rfl ?_
    cases hf
    exact rx_iret hG dX10_chosen_120
  · have hf := ifF hf c1
    refine rx_aload_n hG dX10_chosen_15 1 rfl ?_
    refine rx_iload_n hG dX10_chosen_16 3 rfl ?_
    refine rx_iconst hG 3 dX10_chosen_17 ic_3 ?_
    obtain ⟨v2, hv2, hf⟩ := bindE hf
    refine rx_cSi hG (c_M_of l E (SKM ++ T) x3 3 hv2) kw_M_264 ⟨Nat.le_of_ble_eq_true rfl, Nat.le_of_ble_eq_true rfl⟩ rfl (Nat.le_of_ble_eq_true rfl) dX10_chosen_18 ?_
    obtain ⟨v3, hv3, hf⟩ := bindE hf
    refine rx_iald hG (skM16 T) hv3 dX10_chosen_21 ?_
    refine rx_istore (lv2 := [(6, .int v3), (0, .ref (adr E 0)), (1, .ref (adr E 16)), (2, .ref (adr E 12)), (3, .int x3), (4, .int x4), (5, .int x5)]) hG dX10_chosen_22 (Nat.le_of_ble_eq_true rfl) rfl ?_
    refine rx_aload_n hG dX10_chosen_24 3 rfl ?_
    refine rx_bipush hG 36 dX10_chosen_25 bp_36 ?_
    obtain ⟨v4, hv4, hf⟩ := bindE hf
    refine rx_iald hG (skM12 T) hv4 dX10_chosen_27 ?_
    refine rx_iconst hG 2 dX10_chosen_28 ic_2 ?_
    refine rx_icmp_ne hG 52 dX10_chosen_29 rfl (fun c5 => ?_) (fun c5 => ?_)
    · have hf := ifF hf c5
      refine rx_sub hG [1, 2, 3, 4, 5, 6] (lv' := [(0, .ref (adr E 0)), (1, .ref (adr E 16)), (2, .ref (adr E 12)), (3, .int x3), (4, .int x4), (5, .int x5)]) rfl ?_
      exact Lj_M_chosen_0_16_12_52 l E T hG rc6 hrc6 x3 x4 x5 hf
    · have hf := ifT hf c5
      refine rx_iload hG dX10_chosen_32 0 rfl ?_
      refine rx_bipush hG (-2) dX10_chosen_34 bp_m2 ?_
      refine rx_icmp_eq hG 52 dX10_chosen_36 rfl (fun c6 => ?_) (fun c6 => ?_)
      · have hf := ifT hf c6
        refine rx_sub hG [1, 2, 3, 4, 5, 6] (lv' := [(0, .ref (adr E 0)), (1, .ref (adr E 16)), (2, .ref (adr E 12)), (3, .int x3), (4, .int x4), (5, .int x5)]) rfl ?_
        exact Lj_M_chosen_0_16_12_52 l E T hG rc6 hrc6 x3 x4 x5 hf
      · have hf := ifF hf c6
        refine rx_iload hG dX10_chosen_39 0 rfl ?_
        refine rx_iload hG dX10_chosen_41 6 rfl ?_
        refine rx_iadd hG dX10_chosen_43 ?_
        refine rx_aload_n hG dX10_chosen_44 1 rfl ?_
        refine gfM_M_248_0 l E T hG dX10_chosen_45 ?_
        obtain ⟨v7, hv7, hf⟩ := bindE hf
        refine rx_irem hG hv7 dX10_chosen_48 ?_
        refine rx_goto hG 56 dX10_chosen_49 rfl ?_
        refine rx_sub hG [1, 2, 3, 4, 5, 6] (lv' := [(0, .ref (adr E 0)), (1, .ref (adr E 16)), (2, .ref (adr E 12)), (3, .int x3), (4, .int x4), (5, .int x5)]) rfl ?_
        exact Lj_M_chosen_0_16_12_56 l E T hG rc6 hrc6 x3 x4 x5 v7 hf
theorem Llp_M_chosen_0_16_12_6 (l : Launch) (E : En) (T : List Sk) {a0 b0 kc ks : Nat} {r : Int32} {M : Mm} {G : Nat → List (Nat × Value) → List Value → Mm → Prop} (hG : RX l (SKM ++ T) E RX10 cX10_chosen 8 (some .int) { frames := 4, cells := a0, slots := b0, locals := 93 } kc ks (some (.int r)) M G)  : ∀ (n : Nat) (x3 : Int32) (x4 : Int32) (x5 : Int32), lp_M_chosen_0_16_12_6  n x3 x4 x5 M = some r → G 6 [(0, .ref (adr E 0)), (1, .ref (adr E 16)), (2, .ref (adr E 12)), (3, .int x3), (4, .int x4), (5, .int x5)] [] M := by
  intro n
  induction n with
  | zero => intro x3 x4 x5 hf; cases hf
  | succ n ih => intro x3 x4 x5 hf; exact Lblp_M_chosen_0_16_12_6 l E T hG  (lp_M_chosen_0_16_12_6  n) ih x3 x4 x5 hf
set_option maxHeartbeats 4000000 in
set_option maxRecDepth 100000 in
theorem c_M_chosen_0_16_12 (l : Launch) (E : En) (T : List Sk) (p0 : Int32) {M : Mm} {r : Int32} (h : f_M_chosen_0_16_12 p0 M = some r) : Ct l (SKM ++ T) E yX10_chosen cX10_chosen 8 (some .int) 4 93 [.ref (adr E 0), .ref (adr E 16), .ref (adr E 12), .int p0] M (some (.int r)) M := by
  refine ct_of (by decide) (Nat.le_of_ble_eq_true rfl) ?_
  intro G hG
  show G 0 [(0, .ref (adr E 0)), (1, .ref (adr E 16)), (2, .ref (adr E 12)), (3, .int p0)] [] M
  have hf := h
  unfold f_M_chosen_0_16_12 at hf
  refine rx_iconst hG (-1) dX10_chosen_0 ic_m1 ?_
  refine rx_istore (lv2 := [(4, .int (-1)), (0, .ref (adr E 0)), (1, .ref (adr E 16)), (2, .ref (adr E 12)), (3, .int p0)]) hG dX10_chosen_1 (Nat.le_of_ble_eq_true rfl) rfl ?_
  refine rx_iconst hG 1 dX10_chosen_3 ic_1 ?_
  refine rx_istore (lv2 := [(5, .int 1), (4, .int (-1)), (0, .ref (adr E 0)), (1, .ref (adr E 16)), (2, .ref (adr E 12)), (3, .int p0)]) hG dX10_chosen_4 (Nat.le_of_ble_eq_true rfl) rfl ?_
  refine rx_sub hG [2, 3, 4, 5, 1, 0] (lv' := [(0, .ref (adr E 0)), (1, .ref (adr E 16)), (2, .ref (adr E 12)), (3, .int p0), (4, .int (-1)), (5, .int 1)]) rfl ?_
  exact Llp_M_chosen_0_16_12_6 l E T hG  FW p0 (-1) 1 hf
set_option maxHeartbeats 4000000 in
set_option maxRecDepth 100000 in
theorem Lj_M_starts_0_16_12_54 (l : Launch) (E : En) (T : List Sk) {a0 b0 kc ks : Nat} {M' : Mm} {G : Nat → List (Nat × Value) → List Value → Mm → Prop} (hG : RX l (SKM ++ T) E RX10 cX10_starts 7 none { frames := 5, cells := a0, slots := b0, locals := 120 } kc ks none M' G)  : ∀ (x3 : Int32) (x4 : Int32) (x5 : Int32) (x6 : Int32) (M : Mm), j_M_starts_0_16_12_54  x3 x4 x5 x6 M = some M' → G 54 [(0, .ref (adr E 0)), (1, .ref (adr E 16)), (2, .ref (adr E 12)), (3, .int x3), (4, .int x4), (5, .int x5), (6, .int x6)] [] M := by
  intro x3 x4 x5 x6 M hf
  unfold j_M_starts_0_16_12_54 at hf
  refine rx_aload_n hG dX10_starts_54 1 rfl ?_
  refine rx_iload_n hG dX10_starts_55 3 rfl ?_
  refine rx_iconst hG 0 dX10_starts_56 ic_0 ?_
  obtain ⟨v1, hv1, hf⟩ := bindE hf
  refine rx_cSi hG (c_M_of l E (SKM ++ T) x3 0 hv1) kw_M_264 ⟨Nat.le_of_ble_eq_true rfl, Nat.le_of_ble_eq_true rfl⟩ rfl (Nat.le_of_ble_eq_true rfl) dX10_starts_57 ?_
  refine rx_iconst hG 1 dX10_starts_60 ic_1 ?_
  obtain ⟨M2, hM2, hf⟩ := bindE hf
  refine rx_iast hG (skM16 T) hM2 dX10_starts_61 ?_
  refine rx_aload_n hG dX10_starts_62 1 rfl ?_
  refine rx_iload_n hG dX10_starts_63 3 rfl ?_
  refine rx_iconst hG 1 dX10_starts_64 ic_1 ?_
  obtain ⟨v3, hv3, hf⟩ := bindE hf
  refine rx_cSi hG (c_M_of l E (SKM ++ T) x3 1 hv3) kw_M_264 ⟨Nat.le_of_ble_eq_true rfl, Nat.le_of_ble_eq_true rfl⟩ rfl (Nat.le_of_ble_eq_true rfl) dX10_starts_65 ?_
  refine rx_iload hG dX10_starts_68 5 rfl ?_
  obtain ⟨M4, hM4, hf⟩ := bindE hf
  refine rx_iast hG (skM16 T) hM4 dX10_starts_70 ?_
  refine rx_aload_n hG dX10_starts_71 1 rfl ?_
  refine rx_iload_n hG dX10_starts_72 3 rfl ?_
  refine rx_iconst hG 3 dX10_starts_73 ic_3 ?_
  obtain ⟨v5, hv5, hf⟩ := bindE hf
  refine rx_cSi hG (c_M_of l E (SKM ++ T) x3 3 hv5) kw_M_264 ⟨Nat.le_of_ble_eq_true rfl, Nat.le_of_ble_eq_true rfl⟩ rfl (Nat.le_of_ble_eq_true rfl) dX10_starts_74 ?_
  refine rx_iload hG dX10_starts_77 5 rfl ?_
  obtain ⟨M6, hM6, hf⟩ := bindE hf
  refine rx_iast hG (skM16 T) hM6 dX10_starts_79 ?_
  refine rx_aload_n hG dX10_starts_80 1 rfl ?_
  refine rx_iload_n hG dX10_starts_81 3 rfl ?_
  refine rx_iconst hG 2 dX10_starts_82 ic_2 ?_
  obtain ⟨v7, hv7, hf⟩ := bindE hf
  refine rx_cSi hG (c_M_of l E (SKM ++ T) x3 2 hv7) kw_M_264 ⟨Nat.le_of_ble_eq_true rfl, Nat.le_of_ble_eq_true rfl⟩ rfl (Nat.le_of_ble_eq_true rfl) dX10_starts_83 ?_
  refine rx_iload hG dX10_starts_86 4 rfl ?_
  refine rx_aload_n hG dX10_starts_88 2 rfl ?_
  refine rx_bipush hG 18 dX10_starts_89 bp_18 ?_
  refine rx_iconst hG 3 dX10_starts_91 ic_3 ?_
  refine rx_iload_n hG dX10_starts_92 3 rfl ?_
  refine rx_imul hG dX10_starts_93 ?_
  refine rx_iadd hG dX10_starts_94 ?_
  refine rx_iload hG dX10_starts_95 5 rfl ?_
  refine rx_iadd hG dX10_starts_97 ?_
  obtain ⟨v8, hv8, hf⟩ := bindE hf
  refine rx_iald hG (skM12 T) hv8 dX10_starts_98 ?_
  refine rx_iadd hG dX10_starts_99 ?_
  refine rx_iload hG dX10_starts_100 6 rfl ?_
  refine rx_bipush hG (-2) dX10_starts_102 bp_m2 ?_
  refine rx_icmp_eq hG 123 dX10_starts_104 rfl (fun c9 => ?_) (fun c9 => ?_)
  · have hf := ifT hf c9
    refine rx_iconst hG 0 dX10_starts_123 ic_0 ?_
    refine rx_iadd hG dX10_starts_124 ?_
    obtain ⟨M10, hM10, hf⟩ := bindE hf
    refine rx_iast hG (skM16 T) hM10 dX10_starts_125 ?_
    cases hf
    exact rx_vret hG dX10_starts_126
  · have hf := ifF hf c9
    refine rx_iload hG dX10_starts_107 6 rfl ?_
    refine rx_iload hG dX10_starts_109 5 rfl ?_
    refine rx_icmp_eq hG 123 dX10_starts_111 rfl (fun c11 => ?_) (fun c11 => ?_)
    · have hf := ifT hf c11
      refine rx_iconst hG 0 dX10_starts_123 ic_0 ?_
      refine rx_iadd hG dX10_starts_124 ?_
      obtain ⟨M12, hM12, hf⟩ := bindE hf
      refine rx_iast hG (skM16 T) hM12 dX10_starts_125 ?_
      cases hf
      exact rx_vret hG dX10_starts_126
    · have hf := ifF hf c11
      refine rx_aload_n hG dX10_starts_114 0 rfl ?_
      refine gfM_M_24_0 l E T hG dX10_starts_115 ?_
      refine rx_iload_n hG dX10_starts_118 3 rfl ?_
      obtain ⟨v13, hv13, hf⟩ := bindE hf
      refine rx_iald hG (skM4 T) hv13 dX10_starts_119 ?_
      refine rx_goto hG 124 dX10_starts_120 rfl ?_
      refine rx_iadd hG dX10_starts_124 ?_
      obtain ⟨M14, hM14, hf⟩ := bindE hf
      refine rx_iast hG (skM16 T) hM14 dX10_starts_125 ?_
      cases hf
      exact rx_vret hG dX10_starts_126
set_option maxHeartbeats 4000000 in
set_option maxRecDepth 100000 in
theorem c_M_starts_0_16_12 (l : Launch) (E : En) (T : List Sk) (p0 : Int32) (p1 : Int32) {M M' : Mm} (h : f_M_starts_0_16_12 p0 p1 M = some M') : Ct l (SKM ++ T) E yX10_starts cX10_starts 7 none 5 120 [.ref (adr E 0), .ref (adr E 16), .ref (adr E 12), .int p0, .int p1] M none M' := by
  refine ct_of (by decide) (Nat.le_of_ble_eq_true rfl) ?_
  intro G hG
  show G 0 [(0, .ref (adr E 0)), (1, .ref (adr E 16)), (2, .ref (adr E 12)), (3, .int p0), (4, .int p1)] [] M
  have hf := h
  unfold f_M_starts_0_16_12 at hf
  refine rx_aload_n hG dX10_starts_0 1 rfl ?_
  refine rx_iload_n hG dX10_starts_1 3 rfl ?_
  refine rx_iconst hG 0 dX10_starts_2 ic_0 ?_
  obtain ⟨v1, hv1, hf⟩ := bindE hf
  refine rx_cSi hG (c_M_of l E (SKM ++ T) p0 0 hv1) kw_M_264 ⟨Nat.le_of_ble_eq_true rfl, Nat.le_of_ble_eq_true rfl⟩ rfl (Nat.le_of_ble_eq_true rfl) dX10_starts_3 ?_
  obtain ⟨v2, hv2, hf⟩ := bindE hf
  refine rx_iald hG (skM16 T) hv2 dX10_starts_6 ?_
  refine rx_if_eq hG 11 dX10_starts_7 rfl (fun c3 => ?_) (fun c3 => ?_)
  · have hf := ifT hf c3
    refine rx_aload_n hG dX10_starts_11 0 rfl ?_
    refine rx_aload_n hG dX10_starts_12 1 rfl ?_
    refine rx_aload_n hG dX10_starts_13 2 rfl ?_
    refine rx_iload_n hG dX10_starts_14 3 rfl ?_
    obtain ⟨v4, hv4, hf⟩ := bindE hf
    refine rx_cVi hG (c_M_chosen_0_16_12 l E T p0 hv4) (skM0 T) rfl rfl kw_M_288 ⟨Nat.le_of_ble_eq_true rfl, Nat.le_of_ble_eq_true rfl⟩ rfl (Nat.le_of_ble_eq_true rfl) dX10_starts_15 ?_
    refine rx_istore (lv2 := [(5, .int v4), (0, .ref (adr E 0)), (1, .ref (adr E 16)), (2, .ref (adr E 12)), (3, .int p0), (4, .int p1)]) hG dX10_starts_18 (Nat.le_of_ble_eq_true rfl) rfl ?_
    refine rx_iload hG dX10_starts_20 0 rfl ?_
    refine rx_iconst hG (-1) dX10_starts_22 ic_m1 ?_
    refine rx_icmp_ne hG 27 dX10_starts_23 rfl (fun c5 => ?_) (fun c5 => ?_)
    · have hf := ifF hf c5
      refine rx_aload_n hG dX10_starts_27 2 rfl ?_
      refine rx_iload_n hG dX10_starts_28 4 rfl ?_
      refine rx_iconst hG 3 dX10_starts_29 ic_3 ?_
      obtain ⟨v6, hv6, hf⟩ := bindE hf
      refine rx_cSi hG (c_M_of l E (SKM ++ T) p0 3 hv6) kw_M_264 ⟨Nat.le_of_ble_eq_true rfl, Nat.le_of_ble_eq_true rfl⟩ rfl (Nat.le_of_ble_eq_true rfl) dX10_starts_30 ?_
      obtain ⟨v7, hv7, hf⟩ := bindE hf
      refine rx_iald hG (skM16 T) hv7 dX10_starts_33 ?_
      refine rx_istore (lv2 := [(6, .int v7), (5, .int v4), (0, .ref (adr E 0)), (1, .ref (adr E 16)), (2, .ref (adr E 12)), (3, .int p0), (4, .int p1)]) hG dX10_starts_34 (Nat.le_of_ble_eq_true rfl) rfl ?_
      refine rx_iload_n hG dX10_starts_36 5 rfl ?_
      refine rx_if_le hG 54 dX10_starts_37 rfl (fun c8 => ?_) (fun c8 => ?_)
      · have hf := ifT hf c8
        refine rx_sub hG [2, 3, 4, 5, 6, 1, 0] (lv' := [(0, .ref (adr E 0)), (1, .ref (adr E 16)), (2, .ref (adr E 12)), (3, .int p0), (4, .int p1), (5, .int v4), (6, .int v7)]) rfl ?_
        exact Lj_M_starts_0_16_12_54 l E T hG  p0 p1 v4 v7 M hf
      · have hf := ifF hf c8
        refine rx_aload_n hG dX10_starts_40 3 rfl ?_
        refine rx_iload_n hG dX10_starts_41 5 rfl ?_
        refine rx_iconst hG 1 dX10_starts_42 ic_1 ?_
        refine rx_isub hG dX10_starts_43 ?_
        refine rx_iload hG dX10_starts_44 1 rfl ?_
        obtain ⟨v9, hv9, hf⟩ := bindE hf
        refine rx_cSi hG (c_M_store l E (SKM ++ T) (p0 - 1) v4 hv9) kw_M_267 ⟨Nat.le_of_ble_eq_true rfl, Nat.le_of_ble_eq_true rfl⟩ rfl (Nat.le_of_ble_eq_true rfl) dX10_starts_46 ?_
        refine rx_dup2 hG dX10_starts_49 rfl rfl ?_
        obtain ⟨v10, hv10, hf⟩ := bindE hf
        refine rx_iald hG (skM16 T) hv10 dX10_starts_50 ?_
        refine rx_iconst hG 1 dX10_starts_51 ic_1 ?_
        refine rx_isub hG dX10_starts_52 ?_
        obtain ⟨M11, hM11, hf⟩ := bindE hf
        refine rx_iast hG (skM16 T) hM11 dX10_starts_53 ?_
        refine rx_sub hG [2, 3, 4, 5, 6, 1, 0] (lv' := [(0, .ref (adr E 0)), (1, .ref (adr E 16)), (2, .ref (adr E 12)), (3, .int p0), (4, .int p1), (5, .int v4), (6, .int v7)]) rfl ?_
        exact Lj_M_starts_0_16_12_54 l E T hG  p0 p1 v4 v7 M11 hf
    · have hf := ifT hf c5
      cases hf
      exact rx_vret hG dX10_starts_26
  · have hf := ifF hf c3
    cases hf
    exact rx_vret hG dX10_starts_10
set_option maxHeartbeats 4000000 in
set_option maxRecDepth 100000 in
theorem Lj_M_serves_0_16_155 (l : Launch) (E : En) (T : List Sk) {a0 b0 kc ks : Nat} {M' : Mm} {G : Nat → List (Nat × Value) → List Value → Mm → Prop} (hG : RX l (SKM ++ T) E RX10 cX10_serves 5 none { frames := 1, cells := a0, slots := b0, locals := 24 } kc ks none M' G) (rc28 : Int32 → Int32 → Int32 → Mm → Option Mm) (hrc28 : ∀ (x2 : Int32) (x3 : Int32) (x4 : Int32) (M : Mm), rc28 x2 x3 x4 M = some M' → G 28 [(0, .ref (adr E 0)), (1, .ref (adr E 16)), (2, .int x2), (3, .int x3), (4, .int x4)] [] M) : ∀ (x2 : Int32) (x3 : Int32) (x4 : Int32) (M : Mm), j_M_serves_0_16_155 rc28 x2 x3 x4 M = some M' → G 155 [(0, .ref (adr E 0)), (1, .ref (adr E 16)), (2, .int x2), (3, .int x3), (4, .int x4)] [] M := by
  intro x2 x3 x4 M hf
  unfold j_M_serves_0_16_155 at hf
  refine rx_aload_n hG dX10_serves_155 1 rfl ?_
  refine rx_iload hG dX10_serves_156 4 rfl ?_
  refine rx_dup2 hG dX10_serves_158 rfl rfl ?_
  obtain ⟨v1, hv1, hf⟩ := bindE hf
  refine rx_iald hG (skM16 T) hv1 dX10_serves_159 ?_
  refine rx_iconst hG 1 dX10_serves_160 ic_1 ?_
  refine rx_isub hG dX10_serves_161 ?_
  obtain ⟨M2, hM2, hf⟩ := bindE hf
  refine rx_iast hG (skM16 T) hM2 dX10_serves_162 ?_
  refine rx_goto hG 28 dX10_serves_163 rfl ?_
  exact hrc28 x2 x3 x4 M2 hf
set_option maxHeartbeats 4000000 in
set_option maxRecDepth 100000 in
theorem Lj_M_serves_0_16_96 (l : Launch) (E : En) (T : List Sk) {a0 b0 kc ks : Nat} {M' : Mm} {G : Nat → List (Nat × Value) → List Value → Mm → Prop} (hG : RX l (SKM ++ T) E RX10 cX10_serves 5 none { frames := 1, cells := a0, slots := b0, locals := 24 } kc ks none M' G) (rc28 : Int32 → Int32 → Int32 → Mm → Option Mm) (hrc28 : ∀ (x2 : Int32) (x3 : Int32) (x4 : Int32) (M : Mm), rc28 x2 x3 x4 M = some M' → G 28 [(0, .ref (adr E 0)), (1, .ref (adr E 16)), (2, .int x2), (3, .int x3), (4, .int x4)] [] M) : ∀ (x2 : Int32) (x3 : Int32) (x4 : Int32) (M : Mm), j_M_serves_0_16_96 rc28 x2 x3 x4 M = some M' → G 96 [(0, .ref (adr E 0)), (1, .ref (adr E 16)), (2, .int x2), (3, .int x3), (4, .int x4)] [] M := by
  intro x2 x3 x4 M hf
  unfold j_M_serves_0_16_96 at hf
  refine rx_aload_n hG dX10_serves_96 1 rfl ?_
  refine rx_iload_n hG dX10_serves_97 2 rfl ?_
  refine rx_iconst hG 4 dX10_serves_98 ic_4 ?_
  obtain ⟨v1, hv1, hf⟩ := bindE hf
  refine rx_cSi hG (c_M_ofKind l E (SKM ++ T) x2 4 hv1) kw_M_274 ⟨Nat.le_of_ble_eq_true rfl, Nat.le_of_ble_eq_true rfl⟩ rfl (Nat.le_of_ble_eq_true rfl) dX10_serves_99 ?_
  refine rx_dup2 hG dX10_serves_102 rfl rfl ?_
  obtain ⟨v2, hv2, hf⟩ := bindE hf
  refine rx_iald hG (skM16 T) hv2 dX10_serves_103 ?_
  refine rx_iconst hG 1 dX10_serves_104 ic_1 ?_
  refine rx_iadd hG dX10_serves_105 ?_
  obtain ⟨M3, hM3, hf⟩ := bindE hf
  refine rx_iast hG (skM16 T) hM3 dX10_serves_106 ?_
  refine rx_aload_n hG dX10_serves_107 1 rfl ?_
  refine rx_iload_n hG dX10_serves_108 2 rfl ?_
  refine rx_iconst hG 1 dX10_serves_109 ic_1 ?_
  obtain ⟨v4, hv4, hf⟩ := bindE hf
  refine rx_cSi hG (c_M_ofKind l E (SKM ++ T) x2 1 hv4) kw_M_274 ⟨Nat.le_of_ble_eq_true rfl, Nat.le_of_ble_eq_true rfl⟩ rfl (Nat.le_of_ble_eq_true rfl) dX10_serves_110 ?_
  refine rx_dup2 hG dX10_serves_113 rfl rfl ?_
  obtain ⟨v5, hv5, hf⟩ := bindE hf
  refine rx_iald hG (skM16 T) hv5 dX10_serves_114 ?_
  refine rx_iconst hG 1 dX10_serves_115 ic_1 ?_
  refine rx_iadd hG dX10_serves_116 ?_
  obtain ⟨M6, hM6, hf⟩ := bindE hf
  refine rx_iast hG (skM16 T) hM6 dX10_serves_117 ?_
  refine rx_aload_n hG dX10_serves_118 1 rfl ?_
  refine rx_iload_n hG dX10_serves_119 2 rfl ?_
  refine rx_iconst hG 2 dX10_serves_120 ic_2 ?_
  obtain ⟨v7, hv7, hf⟩ := bindE hf
  refine rx_cSi hG (c_M_ofKind l E (SKM ++ T) x2 2 hv7) kw_M_274 ⟨Nat.le_of_ble_eq_true rfl, Nat.le_of_ble_eq_true rfl⟩ rfl (Nat.le_of_ble_eq_true rfl) dX10_serves_121 ?_
  refine rx_dup2 hG dX10_serves_124 rfl rfl ?_
  obtain ⟨v8, hv8, hf⟩ := bindE hf
  refine rx_iald hG (skM16 T) hv8 dX10_serves_125 ?_
  refine rx_iload_n hG dX10_serves_126 3 rfl ?_
  refine rx_aload_n hG dX10_serves_127 1 rfl ?_
  refine rx_iload_n hG dX10_serves_128 2 rfl ?_
  refine rx_iconst hG 3 dX10_serves_129 ic_3 ?_
  obtain ⟨v9, hv9, hf⟩ := bindE hf
  refine rx_cSi hG (c_M_ofKind l E (SKM ++ T) x2 3 hv9) kw_M_274 ⟨Nat.le_of_ble_eq_true rfl, Nat.le_of_ble_eq_true rfl⟩ rfl (Nat.le_of_ble_eq_true rfl) dX10_serves_130 ?_
  obtain ⟨v10, hv10, hf⟩ := bindE hf
  refine rx_iald hG (skM16 T) hv10 dX10_serves_133 ?_
  refine rx_isub hG dX10_serves_134 ?_
  refine rx_iadd hG dX10_serves_135 ?_
  obtain ⟨M11, hM11, hf⟩ := bindE hf
  refine rx_iast hG (skM16 T) hM11 dX10_serves_136 ?_
  refine rx_aload_n hG dX10_serves_137 1 rfl ?_
  refine rx_bipush hG 96 dX10_serves_138 bp_96 ?_
  refine rx_iload_n hG dX10_serves_140 2 rfl ?_
  refine rx_iadd hG dX10_serves_141 ?_
  obtain ⟨v12, hv12, hf⟩ := bindE hf
  refine rx_iald hG (skM16 T) hv12 dX10_serves_142 ?_
  refine rx_bipush hG (-2) dX10_serves_143 bp_m2 ?_
  refine rx_icmp_ne hG 155 dX10_serves_145 rfl (fun c13 => ?_) (fun c13 => ?_)
  · have hf := ifF hf c13
    exact Lj_M_serves_0_16_155 l E T hG rc28 hrc28 x2 x3 x4 M11 hf
  · have hf := ifT hf c13
    refine rx_aload_n hG dX10_serves_148 1 rfl ?_
    refine rx_bipush hG 96 dX10_serves_149 bp_96 ?_
    refine rx_iload_n hG dX10_serves_151 2 rfl ?_
    refine rx_iadd hG dX10_serves_152 ?_
    refine rx_iload_n hG dX10_serves_153 3 rfl ?_
    obtain ⟨M14, hM14, hf⟩ := bindE hf
    refine rx_iast hG (skM16 T) hM14 dX10_serves_154 ?_
    exact Lj_M_serves_0_16_155 l E T hG rc28 hrc28 x2 x3 x4 M14 hf
set_option maxHeartbeats 4000000 in
set_option maxRecDepth 100000 in
theorem Lblp_M_serves_0_16_52 (l : Launch) (E : En) (T : List Sk) {a0 b0 kc ks : Nat} {M' : Mm} {G : Nat → List (Nat × Value) → List Value → Mm → Prop} (hG : RX l (SKM ++ T) E RX10 cX10_serves 5 none { frames := 1, cells := a0, slots := b0, locals := 24 } kc ks none M' G) (rc28 : Int32 → Int32 → Int32 → Mm → Option Mm) (hrc28 : ∀ (x2 : Int32) (x3 : Int32) (x4 : Int32) (M : Mm), rc28 x2 x3 x4 M = some M' → G 28 [(0, .ref (adr E 0)), (1, .ref (adr E 16)), (2, .int x2), (3, .int x3), (4, .int x4)] [] M) (rc52 : Int32 → Int32 → Int32 → Mm → Option Mm) (hrc52 : ∀ (x2 : Int32) (x3 : Int32) (x4 : Int32) (M : Mm), rc52 x2 x3 x4 M = some M' → G 52 [(0, .ref (adr E 0)), (1, .ref (adr E 16)), (2, .int x2), (3, .int x3), (4, .int x4)] [] M) : ∀ (x2 : Int32) (x3 : Int32) (x4 : Int32) (M : Mm), blp_M_serves_0_16_52 rc28 rc52 x2 x3 x4 M = some M' → G 52 [(0, .ref (adr E 0)), (1, .ref (adr E 16)), (2, .int x2), (3, .int x3), (4, .int x4)] [] M := by
  intro x2 x3 x4 M hf
  unfold blp_M_serves_0_16_52 at hf
  refine rx_aload_n hG dX10_serves_52 0 rfl ?_
  refine rx_iload_n hG dX10_serves_53 2 rfl ?_
  refine rx_aload_n hG dX10_serves_54 1 rfl ?_
  refine rx_iload_n hG dX10_serves_55 2 rfl ?_
  refine rx_iconst hG 3 dX10_serves_56 ic_3 ?_
  obtain ⟨v1, hv1, hf⟩ := bindE hf
  refine rx_cSi hG (c_M_ofKind l E (SKM ++ T) x2 3 hv1) kw_M_274 ⟨Nat.le_of_ble_eq_true rfl, Nat.le_of_ble_eq_true rfl⟩ rfl (Nat.le_of_ble_eq_true rfl) dX10_serves_57 ?_
  obtain ⟨v2, hv2, hf⟩ := bindE hf
  refine rx_iald hG (skM16 T) hv2 dX10_serves_60 ?_
  obtain ⟨v3, hv3, hf⟩ := bindE hf
  refine rx_cVi hG (c_M_comeIn_0 l E T x2 v2 hv3) (skM0 T) rfl rfl kw_M_277 ⟨Nat.le_of_ble_eq_true rfl, Nat.le_of_ble_eq_true rfl⟩ rfl (Nat.le_of_ble_eq_true rfl) dX10_serves_61 ?_
  refine rx_aload_n hG dX10_serves_64 1 rfl ?_
  refine rx_iload_n hG dX10_serves_65 2 rfl ?_
  refine rx_iconst hG 4 dX10_serves_66 ic_4 ?_
  obtain ⟨v4, hv4, hf⟩ := bindE hf
  refine rx_cSi hG (c_M_ofKind l E (SKM ++ T) x2 4 hv4) kw_M_274 ⟨Nat.le_of_ble_eq_true rfl, Nat.le_of_ble_eq_true rfl⟩ rfl (Nat.le_of_ble_eq_true rfl) dX10_serves_67 ?_
  obtain ⟨v5, hv5, hf⟩ := bindE hf
  refine rx_iald hG (skM16 T) hv5 dX10_serves_70 ?_
  refine rx_icmp_ne hG 96 dX10_serves_71 rfl (fun c6 => ?_) (fun c6 => ?_)
  · have hf := ifF hf c6
    exact Lj_M_serves_0_16_96 l E T hG rc28 hrc28 x2 x3 x4 M hf
  · have hf := ifT hf c6
    refine rx_aload_n hG dX10_serves_74 1 rfl ?_
    refine rx_iload_n hG dX10_serves_75 2 rfl ?_
    refine rx_iconst hG 3 dX10_serves_76 ic_3 ?_
    obtain ⟨v7, hv7, hf⟩ := bindE hf
    refine rx_cSi hG (c_M_ofKind l E (SKM ++ T) x2 3 hv7) kw_M_274 ⟨Nat.le_of_ble_eq_true rfl, Nat.le_of_ble_eq_true rfl⟩ rfl (Nat.le_of_ble_eq_true rfl) dX10_serves_77 ?_
    refine rx_dup2 hG dX10_serves_80 rfl rfl ?_
    obtain ⟨v8, hv8, hf⟩ := bindE hf
    refine rx_iald hG (skM16 T) hv8 dX10_serves_81 ?_
    refine rx_iconst hG 1 dX10_serves_82 ic_1 ?_
    refine rx_iadd hG dX10_serves_83 ?_
    obtain ⟨M9, hM9, hf⟩ := bindE hf
    refine rx_iast hG (skM16 T) hM9 dX10_serves_84 ?_
    refine rx_aload_n hG dX10_serves_85 1 rfl ?_
    refine rx_iload_n hG dX10_serves_86 2 rfl ?_
    refine rx_iconst hG 4 dX10_serves_87 ic_4 ?_
    obtain ⟨v10, hv10, hf⟩ := bindE hf
    refine rx_cSi hG (c_M_ofKind l E (SKM ++ T) x2 4 hv10) kw_M_274 ⟨Nat.le_of_ble_eq_true rfl, Nat.le_of_ble_eq_true rfl⟩ rfl (Nat.le_of_ble_eq_true rfl) dX10_serves_88 ?_
    refine rx_iconst hG 0 dX10_serves_91 ic_0 ?_
    obtain ⟨M11, hM11, hf⟩ := bindE hf
    refine rx_iast hG (skM16 T) hM11 dX10_serves_92 ?_
    refine rx_goto hG 52 dX10_serves_93 rfl ?_
    exact hrc52 x2 x3 x4 M11 hf
theorem Llp_M_serves_0_16_52 (l : Launch) (E : En) (T : List Sk) {a0 b0 kc ks : Nat} {M' : Mm} {G : Nat → List (Nat × Value) → List Value → Mm → Prop} (hG : RX l (SKM ++ T) E RX10 cX10_serves 5 none { frames := 1, cells := a0, slots := b0, locals := 24 } kc ks none M' G) (rc28 : Int32 → Int32 → Int32 → Mm → Option Mm) (hrc28 : ∀ (x2 : Int32) (x3 : Int32) (x4 : Int32) (M : Mm), rc28 x2 x3 x4 M = some M' → G 28 [(0, .ref (adr E 0)), (1, .ref (adr E 16)), (2, .int x2), (3, .int x3), (4, .int x4)] [] M) : ∀ (n : Nat) (x2 : Int32) (x3 : Int32) (x4 : Int32) (M : Mm), lp_M_serves_0_16_52 rc28 n x2 x3 x4 M = some M' → G 52 [(0, .ref (adr E 0)), (1, .ref (adr E 16)), (2, .int x2), (3, .int x3), (4, .int x4)] [] M := by
  intro n
  induction n with
  | zero => intro x2 x3 x4 M hf; cases hf
  | succ n ih => intro x2 x3 x4 M hf; exact Lblp_M_serves_0_16_52 l E T hG rc28 hrc28 (lp_M_serves_0_16_52 rc28 n) ih x2 x3 x4 M hf
set_option maxHeartbeats 4000000 in
set_option maxRecDepth 100000 in
theorem Lblp_M_serves_0_16_28 (l : Launch) (E : En) (T : List Sk) {a0 b0 kc ks : Nat} {M' : Mm} {G : Nat → List (Nat × Value) → List Value → Mm → Prop} (hG : RX l (SKM ++ T) E RX10 cX10_serves 5 none { frames := 1, cells := a0, slots := b0, locals := 24 } kc ks none M' G) (rc28 : Int32 → Int32 → Int32 → Mm → Option Mm) (hrc28 : ∀ (x2 : Int32) (x3 : Int32) (x4 : Int32) (M : Mm), rc28 x2 x3 x4 M = some M' → G 28 [(0, .ref (adr E 0)), (1, .ref (adr E 16)), (2, .int x2), (3, .int x3), (4, .int x4)] [] M) : ∀ (x2 : Int32) (x3 : Int32) (x4 : Int32) (M : Mm), blp_M_serves_0_16_28 rc28 x2 x3 x4 M = some M' → G 28 [(0, .ref (adr E 0)), (1, .ref (adr E 16)), (2, .int x2), (3, .int x3), (4, .int x4)] [] M := by
  intro x2 x3 x4 M hf
  unfold blp_M_serves_0_16_28 at hf
  refine rx_aload_n hG dX10_serves_28 1 rfl ?_
  refine rx_iload_n hG dX10_serves_29 2 rfl ?_
  refine rx_iconst hG 0 dX10_serves_30 ic_0 ?_
  obtain ⟨v1, hv1, hf⟩ := bindE hf
  refine rx_cSi hG (c_M_ofKind l E (SKM ++ T) x2 0 hv1) kw_M_274 ⟨Nat.le_of_ble_eq_true rfl, Nat.le_of_ble_eq_true rfl⟩ rfl (Nat.le_of_ble_eq_true rfl) dX10_serves_31 ?_
  obtain ⟨v2, hv2, hf⟩ := bindE hf
  refine rx_iald hG (skM16 T) hv2 dX10_serves_34 ?_
  refine rx_aload_n hG dX10_serves_35 1 rfl ?_
  refine rx_iload_n hG dX10_serves_36 2 rfl ?_
  refine rx_iconst hG 1 dX10_serves_37 ic_1 ?_
  obtain ⟨v3, hv3, hf⟩ := bindE hf
  refine rx_cSi hG (c_M_ofKind l E (SKM ++ T) x2 1 hv3) kw_M_274 ⟨Nat.le_of_ble_eq_true rfl, Nat.le_of_ble_eq_true rfl⟩ rfl (Nat.le_of_ble_eq_true rfl) dX10_serves_38 ?_
  obtain ⟨v4, hv4, hf⟩ := bindE hf
  refine rx_iald hG (skM16 T) hv4 dX10_serves_41 ?_
  refine rx_icmp_le hG 166 dX10_serves_42 rfl (fun c5 => ?_) (fun c5 => ?_)
  · have hf := ifT hf c5
    cases hf
    exact rx_vret hG dX10_serves_166
  · have hf := ifF hf c5
    refine rx_aload_n hG dX10_serves_45 1 rfl ?_
    refine rx_iload hG dX10_serves_46 4 rfl ?_
    obtain ⟨v6, hv6, hf⟩ := bindE hf
    refine rx_iald hG (skM16 T) hv6 dX10_serves_48 ?_
    refine rx_if_le hG 166 dX10_serves_49 rfl (fun c7 => ?_) (fun c7 => ?_)
    · have hf := ifT hf c7
      cases hf
      exact rx_vret hG dX10_serves_166
    · have hf := ifF hf c7
      exact Llp_M_serves_0_16_52 l E T hG rc28 hrc28 FW x2 x3 x4 M hf
theorem Llp_M_serves_0_16_28 (l : Launch) (E : En) (T : List Sk) {a0 b0 kc ks : Nat} {M' : Mm} {G : Nat → List (Nat × Value) → List Value → Mm → Prop} (hG : RX l (SKM ++ T) E RX10 cX10_serves 5 none { frames := 1, cells := a0, slots := b0, locals := 24 } kc ks none M' G)  : ∀ (n : Nat) (x2 : Int32) (x3 : Int32) (x4 : Int32) (M : Mm), lp_M_serves_0_16_28  n x2 x3 x4 M = some M' → G 28 [(0, .ref (adr E 0)), (1, .ref (adr E 16)), (2, .int x2), (3, .int x3), (4, .int x4)] [] M := by
  intro n
  induction n with
  | zero => intro x2 x3 x4 M hf; cases hf
  | succ n ih => intro x2 x3 x4 M hf; exact Lblp_M_serves_0_16_28 l E T hG  (lp_M_serves_0_16_28  n) ih x2 x3 x4 M hf
set_option maxHeartbeats 4000000 in
set_option maxRecDepth 100000 in
theorem c_M_serves_0_16 (l : Launch) (E : En) (T : List Sk) (p0 : Int32) (p1 : Int32) {M M' : Mm} (h : f_M_serves_0_16 p0 p1 M = some M') : Ct l (SKM ++ T) E yX10_serves cX10_serves 5 none 1 24 [.ref (adr E 0), .ref (adr E 16), .int p0, .int p1] M none M' := by
  refine ct_of (by decide) (Nat.le_of_ble_eq_true rfl) ?_
  intro G hG
  show G 0 [(0, .ref (adr E 0)), (1, .ref (adr E 16)), (2, .int p0), (3, .int p1)] [] M
  have hf := h
  unfold f_M_serves_0_16 at hf
  refine rx_aload_n hG dX10_serves_0 1 rfl ?_
  refine rx_iload_n hG dX10_serves_1 2 rfl ?_
  refine rx_iconst hG 0 dX10_serves_2 ic_0 ?_
  obtain ⟨v1, hv1, hf⟩ := bindE hf
  refine rx_cSi hG (c_M_ofKind l E (SKM ++ T) p0 0 hv1) kw_M_274 ⟨Nat.le_of_ble_eq_true rfl, Nat.le_of_ble_eq_true rfl⟩ rfl (Nat.le_of_ble_eq_true rfl) dX10_serves_3 ?_
  refine rx_dup2 hG dX10_serves_6 rfl rfl ?_
  obtain ⟨v2, hv2, hf⟩ := bindE hf
  refine rx_iald hG (skM16 T) hv2 dX10_serves_7 ?_
  refine rx_aload_n hG dX10_serves_8 0 rfl ?_
  refine rx_iload_n hG dX10_serves_9 2 rfl ?_
  refine rx_iload_n hG dX10_serves_10 3 rfl ?_
  obtain ⟨v3, hv3, hf⟩ := bindE hf
  refine rx_cVi hG (c_M_comeIn_0 l E T p0 p1 hv3) (skM0 T) rfl rfl kw_M_277 ⟨Nat.le_of_ble_eq_true rfl, Nat.le_of_ble_eq_true rfl⟩ rfl (Nat.le_of_ble_eq_true rfl) dX10_serves_11 ?_
  refine rx_iadd hG dX10_serves_14 ?_
  obtain ⟨M4, hM4, hf⟩ := bindE hf
  refine rx_iast hG (skM16 T) hM4 dX10_serves_15 ?_
  refine rx_aload_n hG dX10_serves_16 0 rfl ?_
  refine gfM_M_242_0 l E T hG dX10_serves_17 ?_
  refine rx_iconst hG 1 dX10_serves_20 ic_1 ?_
  refine rx_isub hG dX10_serves_21 ?_
  refine rx_iload_n hG dX10_serves_22 2 rfl ?_
  obtain ⟨v5, hv5, hf⟩ := bindE hf
  refine rx_cSi hG (c_M_store l E (SKM ++ T) ((M4.1 0 23) - 1) p0 hv5) kw_M_267 ⟨Nat.le_of_ble_eq_true rfl, Nat.le_of_ble_eq_true rfl⟩ rfl (Nat.le_of_ble_eq_true rfl) dX10_serves_23 ?_
  refine rx_istore (lv2 := [(4, .int v5), (0, .ref (adr E 0)), (1, .ref (adr E 16)), (2, .int p0), (3, .int p1)]) hG dX10_serves_26 (Nat.le_of_ble_eq_true rfl) rfl ?_
  refine rx_sub hG [1, 2, 3, 4, 0] (lv' := [(0, .ref (adr E 0)), (1, .ref (adr E 16)), (2, .int p0), (3, .int p1), (4, .int v5)]) rfl ?_
  exact Llp_M_serves_0_16_28 l E T hG  FW p0 p1 v5 M4 hf
set_option maxHeartbeats 4000000 in
set_option maxRecDepth 100000 in
theorem Lj_M_ends_0_16_38 (l : Launch) (E : En) (T : List Sk) {a0 b0 kc ks : Nat} {M' : Mm} {G : Nat → List (Nat × Value) → List Value → Mm → Prop} (hG : RX l (SKM ++ T) E RX10 cX10_ends 5 none { frames := 1, cells := a0, slots := b0, locals := 21 } kc ks none M' G)  : ∀ (x2 : Int32) (x3 : Int32) (t0 : Int32) (M : Mm), j_M_ends_0_16_38  x2 x3 t0 M = some M' → G 38 [(0, .ref (adr E 0)), (1, .ref (adr E 16)), (2, .int x2), (3, .int x3)] [.int t0] M := by
  intro x2 x3 t0 M hf
  unfold j_M_ends_0_16_38 at hf
  refine rx_istore (lv2 := [(4, .int t0), (0, .ref (adr E 0)), (1, .ref (adr E 16)), (2, .int x2), (3, .int x3)]) hG dX10_ends_38 (Nat.le_of_ble_eq_true rfl) rfl ?_
  refine rx_aload_n hG dX10_ends_40 2 rfl ?_
  refine rx_iload_n hG dX10_ends_41 3 rfl ?_
  refine rx_iconst hG 0 dX10_ends_42 ic_0 ?_
  obtain ⟨v1, hv1, hf⟩ := bindE hf
  refine rx_cSi hG (c_M_of l E (SKM ++ T) x2 0 hv1) kw_M_264 ⟨Nat.le_of_ble_eq_true rfl, Nat.le_of_ble_eq_true rfl⟩ rfl (Nat.le_of_ble_eq_true rfl) dX10_ends_43 ?_
  refine rx_iconst hG 0 dX10_ends_46 ic_0 ?_
  obtain ⟨M2, hM2, hf⟩ := bindE hf
  refine rx_iast hG (skM16 T) hM2 dX10_ends_47 ?_
  refine rx_iload hG dX10_ends_48 0 rfl ?_
  refine rx_if_ne hG 54 dX10_ends_50 rfl (fun c3 => ?_) (fun c3 => ?_)
  · have hf := ifF hf c3
    refine rx_aload_n hG dX10_ends_54 2 rfl ?_
    refine rx_iload_n hG dX10_ends_55 3 rfl ?_
    refine rx_aload_n hG dX10_ends_56 2 rfl ?_
    refine rx_iload_n hG dX10_ends_57 3 rfl ?_
    refine rx_iconst hG 1 dX10_ends_58 ic_1 ?_
    obtain ⟨v4, hv4, hf⟩ := bindE hf
    refine rx_cSi hG (c_M_of l E (SKM ++ T) x2 1 hv4) kw_M_264 ⟨Nat.le_of_ble_eq_true rfl, Nat.le_of_ble_eq_true rfl⟩ rfl (Nat.le_of_ble_eq_true rfl) dX10_ends_59 ?_
    obtain ⟨v5, hv5, hf⟩ := bindE hf
    refine rx_iald hG (skM16 T) hv5 dX10_ends_62 ?_
    obtain ⟨v6, hv6, hf⟩ := bindE hf
    refine rx_cSi hG (c_M_store l E (SKM ++ T) x2 v5 hv6) kw_M_267 ⟨Nat.le_of_ble_eq_true rfl, Nat.le_of_ble_eq_true rfl⟩ rfl (Nat.le_of_ble_eq_true rfl) dX10_ends_63 ?_
    refine rx_dup2 hG dX10_ends_66 rfl rfl ?_
    obtain ⟨v7, hv7, hf⟩ := bindE hf
    refine rx_iald hG (skM16 T) hv7 dX10_ends_67 ?_
    refine rx_iconst hG 1 dX10_ends_68 ic_1 ?_
    refine rx_iadd hG dX10_ends_69 ?_
    obtain ⟨M8, hM8, hf⟩ := bindE hf
    refine rx_iast hG (skM16 T) hM8 dX10_ends_70 ?_
    refine rx_aload_n hG dX10_ends_71 2 rfl ?_
    refine rx_iload_n hG dX10_ends_72 3 rfl ?_
    refine rx_iconst hG 1 dX10_ends_73 ic_1 ?_
    obtain ⟨v9, hv9, hf⟩ := bindE hf
    refine rx_cSi hG (c_M_of l E (SKM ++ T) x2 1 hv9) kw_M_264 ⟨Nat.le_of_ble_eq_true rfl, Nat.le_of_ble_eq_true rfl⟩ rfl (Nat.le_of_ble_eq_true rfl) dX10_ends_74 ?_
    refine rx_bipush hG (-2) dX10_ends_77 bp_m2 ?_
    obtain ⟨M10, hM10, hf⟩ := bindE hf
    refine rx_iast hG (skM16 T) hM10 dX10_ends_79 ?_
    refine rx_aload_n hG dX10_ends_80 2 rfl ?_
    refine rx_iload_n hG dX10_ends_81 3 rfl ?_
    refine rx_iconst hG 4 dX10_ends_82 ic_4 ?_
    obtain ⟨v11, hv11, hf⟩ := bindE hf
    refine rx_cSi hG (c_M_of l E (SKM ++ T) x2 4 hv11) kw_M_264 ⟨Nat.le_of_ble_eq_true rfl, Nat.le_of_ble_eq_true rfl⟩ rfl (Nat.le_of_ble_eq_true rfl) dX10_ends_83 ?_
    refine rx_dup2 hG dX10_ends_86 rfl rfl ?_
    obtain ⟨v12, hv12, hf⟩ := bindE hf
    refine rx_iald hG (skM16 T) hv12 dX10_ends_87 ?_
    refine rx_iconst hG 1 dX10_ends_88 ic_1 ?_
    refine rx_iadd hG dX10_ends_89 ?_
    obtain ⟨M13, hM13, hf⟩ := bindE hf
    refine rx_iast hG (skM16 T) hM13 dX10_ends_90 ?_
    refine rx_aload_n hG dX10_ends_91 1 rfl ?_
    refine gfM_M_30_0 l E T hG dX10_ends_92 ?_
    refine rx_iload_n hG dX10_ends_95 3 rfl ?_
    obtain ⟨v14, hv14, hf⟩ := bindE hf
    refine rx_iald hG (skM6 T) hv14 dX10_ends_96 ?_
    refine rx_if_eq hG 117 dX10_ends_97 rfl (fun c15 => ?_) (fun c15 => ?_)
    · have hf := ifT hf c15
      cases hf
      exact rx_vret hG dX10_ends_117
    · have hf := ifF hf c15
      refine rx_aload_n hG dX10_ends_100 2 rfl ?_
      refine rx_iload_n hG dX10_ends_101 3 rfl ?_
      refine rx_iconst hG 4 dX10_ends_102 ic_4 ?_
      obtain ⟨v16, hv16, hf⟩ := bindE hf
      refine rx_cSi hG (c_M_of l E (SKM ++ T) x2 4 hv16) kw_M_264 ⟨Nat.le_of_ble_eq_true rfl, Nat.le_of_ble_eq_true rfl⟩ rfl (Nat.le_of_ble_eq_true rfl) dX10_ends_103 ?_
      obtain ⟨v17, hv17, hf⟩ := bindE hf
      refine rx_iald hG (skM16 T) hv17 dX10_ends_106 ?_
      refine rx_aload_n hG dX10_ends_107 1 rfl ?_
      refine gfM_M_30_0 l E T hG dX10_ends_108 ?_
      refine rx_iload_n hG dX10_ends_111 3 rfl ?_
      obtain ⟨v18, hv18, hf⟩ := bindE hf
      refine rx_iald hG (skM6 T) hv18 dX10_ends_112 ?_
      obtain ⟨v19, hv19, hf⟩ := bindE hf
      refine rx_irem hG hv19 dX10_ends_113 ?_
      refine rx_if_eq hG 118 dX10_ends_114 rfl (fun c20 => ?_) (fun c20 => ?_)
      · have hf := ifT hf c20
        refine rx_aload_n hG dX10_ends_118 2 rfl ?_
        refine rx_iload_n hG dX10_ends_119 3 rfl ?_
        refine rx_iconst hG 0 dX10_ends_120 ic_0 ?_
        obtain ⟨v21, hv21, hf⟩ := bindE hf
        refine rx_cSi hG (c_M_of l E (SKM ++ T) x2 0 hv21) kw_M_264 ⟨Nat.le_of_ble_eq_true rfl, Nat.le_of_ble_eq_true rfl⟩ rfl (Nat.le_of_ble_eq_true rfl) dX10_ends_121 ?_
        refine rx_iconst hG 2 dX10_ends_124 ic_2 ?_
        obtain ⟨M22, hM22, hf⟩ := bindE hf
        refine rx_iast hG (skM16 T) hM22 dX10_ends_125 ?_
        refine rx_aload_n hG dX10_ends_126 2 rfl ?_
        refine rx_iload_n hG dX10_ends_127 3 rfl ?_
        refine rx_iconst hG 2 dX10_ends_128 ic_2 ?_
        obtain ⟨v23, hv23, hf⟩ := bindE hf
        refine rx_cSi hG (c_M_of l E (SKM ++ T) x2 2 hv23) kw_M_264 ⟨Nat.le_of_ble_eq_true rfl, Nat.le_of_ble_eq_true rfl⟩ rfl (Nat.le_of_ble_eq_true rfl) dX10_ends_129 ?_
        refine rx_iload_n hG dX10_ends_132 4 rfl ?_
        refine rx_aload_n hG dX10_ends_133 1 rfl ?_
        refine gfM_M_27_0 l E T hG dX10_ends_134 ?_
        refine rx_iload_n hG dX10_ends_137 3 rfl ?_
        obtain ⟨v24, hv24, hf⟩ := bindE hf
        refine rx_iald hG (skM5 T) hv24 dX10_ends_138 ?_
        refine rx_iadd hG dX10_ends_139 ?_
        obtain ⟨M25, hM25, hf⟩ := bindE hf
        refine rx_iast hG (skM16 T) hM25 dX10_ends_140 ?_
        cases hf
        exact rx_vret hG dX10_ends_141
      · have hf := ifF hf c20
        cases hf
        exact rx_vret hG dX10_ends_117
  · have hf := ifT hf c3
    cases hf
    exact rx_vret hG dX10_ends_53
set_option maxHeartbeats 4000000 in
set_option maxRecDepth 100000 in
theorem c_M_ends_0_16 (l : Launch) (E : En) (T : List Sk) (p0 : Int32) (p1 : Int32) {M M' : Mm} (h : f_M_ends_0_16 p0 p1 M = some M') : Ct l (SKM ++ T) E yX10_ends cX10_ends 5 none 1 21 [.ref (adr E 0), .ref (adr E 16), .int p0, .int p1] M none M' := by
  refine ct_of (by decide) (Nat.le_of_ble_eq_true rfl) ?_
  intro G hG
  show G 0 [(0, .ref (adr E 0)), (1, .ref (adr E 16)), (2, .int p0), (3, .int p1)] [] M
  have hf := h
  unfold f_M_ends_0_16 at hf
  refine rx_aload_n hG dX10_ends_0 1 rfl ?_
  refine rx_iload_n hG dX10_ends_1 2 rfl ?_
  refine rx_iconst hG 0 dX10_ends_2 ic_0 ?_
  obtain ⟨v1, hv1, hf⟩ := bindE hf
  refine rx_cSi hG (c_M_of l E (SKM ++ T) p0 0 hv1) kw_M_264 ⟨Nat.le_of_ble_eq_true rfl, Nat.le_of_ble_eq_true rfl⟩ rfl (Nat.le_of_ble_eq_true rfl) dX10_ends_3 ?_
  obtain ⟨v2, hv2, hf⟩ := bindE hf
  refine rx_iald hG (skM16 T) hv2 dX10_ends_6 ?_
  refine rx_if_eq hG 21 dX10_ends_7 rfl (fun c3 => ?_) (fun c3 => ?_)
  · have hf := ifT hf c3
    cases hf
    exact rx_vret hG dX10_ends_21
  · have hf := ifF hf c3
    refine rx_aload_n hG dX10_ends_10 1 rfl ?_
    refine rx_iload_n hG dX10_ends_11 2 rfl ?_
    refine rx_iconst hG 2 dX10_ends_12 ic_2 ?_
    obtain ⟨v4, hv4, hf⟩ := bindE hf
    refine rx_cSi hG (c_M_of l E (SKM ++ T) p0 2 hv4) kw_M_264 ⟨Nat.le_of_ble_eq_true rfl, Nat.le_of_ble_eq_true rfl⟩ rfl (Nat.le_of_ble_eq_true rfl) dX10_ends_13 ?_
    obtain ⟨v5, hv5, hf⟩ := bindE hf
    refine rx_iald hG (skM16 T) hv5 dX10_ends_16 ?_
    refine rx_iload_n hG dX10_ends_17 3 rfl ?_
    refine rx_icmp_eq hG 22 dX10_ends_18 rfl (fun c6 => ?_) (fun c6 => ?_)
    · have hf := ifT hf c6
      refine rx_aload_n hG dX10_ends_22 1 rfl ?_
      refine rx_iload_n hG dX10_ends_23 2 rfl ?_
      refine rx_iconst hG 0 dX10_ends_24 ic_0 ?_
      obtain ⟨v7, hv7, hf⟩ := bindE hf
      refine rx_cSi hG (c_M_of l E (SKM ++ T) p0 0 hv7) kw_M_264 ⟨Nat.le_of_ble_eq_true rfl, Nat.le_of_ble_eq_true rfl⟩ rfl (Nat.le_of_ble_eq_true rfl) dX10_ends_25 ?_
      obtain ⟨v8, hv8, hf⟩ := bindE hf
      refine rx_iald hG (skM16 T) hv8 dX10_ends_28 ?_
      refine rx_iconst hG 1 dX10_ends_29 ic_1 ?_
      refine rx_icmp_ne hG 37 dX10_ends_30 rfl (fun c9 => ?_) (fun c9 => ?_)
      · have hf := ifF hf c9
        refine rx_iconst hG 0 dX10_ends_37 ic_0 ?_
        exact Lj_M_ends_0_16_38 l E T hG  p0 p1 0 M hf
      · have hf := ifT hf c9
        refine rx_iconst hG 1 dX10_ends_33 ic_1 ?_
        refine rx_goto hG 38 dX10_ends_34 rfl ?_
        exact Lj_M_ends_0_16_38 l E T hG  p0 p1 1 M hf
    · have hf := ifF hf c6
      cases hf
      exact rx_vret hG dX10_ends_21
set_option maxHeartbeats 4000000 in
set_option maxRecDepth 100000 in
theorem Lj_M_minute_0_16_12_136 (l : Launch) (E : En) (T : List Sk) {a0 b0 kc ks : Nat} {M' : Mm} {G : Nat → List (Nat × Value) → List Value → Mm → Prop} (hG : RX l (SKM ++ T) E RX10 cX10_minute 5 none { frames := 6, cells := a0, slots := b0, locals := 146 } kc ks none M' G)  : ∀  (M : Mm), j_M_minute_0_16_12_136  M = some M' → G 136 [(1, .ref (adr E 16))] [] M := by
  intro M hf
  unfold j_M_minute_0_16_12_136 at hf
  refine rx_aload_n hG dX10_minute_136 0 rfl ?_
  refine rx_iconst hG 0 dX10_minute_137 ic_0 ?_
  refine rx_dup2 hG dX10_minute_138 rfl rfl ?_
  obtain ⟨v1, hv1, hf⟩ := bindE hf
  refine rx_iald hG (skM16 T) hv1 dX10_minute_139 ?_
  refine rx_iconst hG 1 dX10_minute_140 ic_1 ?_
  refine rx_iadd hG dX10_minute_141 ?_
  obtain ⟨M2, hM2, hf⟩ := bindE hf
  refine rx_iast hG (skM16 T) hM2 dX10_minute_142 ?_
  cases hf
  exact rx_vret hG dX10_minute_143
set_option maxHeartbeats 4000000 in
set_option maxRecDepth 100000 in
theorem Lblp_M_minute_0_16_12_114 (l : Launch) (E : En) (T : List Sk) {a0 b0 kc ks : Nat} {M' : Mm} {G : Nat → List (Nat × Value) → List Value → Mm → Prop} (hG : RX l (SKM ++ T) E RX10 cX10_minute 5 none { frames := 6, cells := a0, slots := b0, locals := 146 } kc ks none M' G) (rc114 : Int32 → Mm → Option Mm) (hrc114 : ∀ (x4 : Int32) (M : Mm), rc114 x4 M = some M' → G 114 [(0, .ref (adr E 0)), (1, .ref (adr E 16)), (4, .int x4)] [] M) : ∀ (x4 : Int32) (M : Mm), blp_M_minute_0_16_12_114 rc114 x4 M = some M' → G 114 [(0, .ref (adr E 0)), (1, .ref (adr E 16)), (4, .int x4)] [] M := by
  intro x4 M hf
  unfold blp_M_minute_0_16_12_114 at hf
  refine rx_iload hG dX10_minute_114 2 rfl ?_
  refine rx_aload_n hG dX10_minute_116 0 rfl ?_
  refine gfM_M_242_0 l E T hG dX10_minute_117 ?_
  refine rx_icmp_ge hG 136 dX10_minute_120 rfl (fun c1 => ?_) (fun c1 => ?_)
  · have hf := ifT hf c1
    refine rx_sub hG [1] (lv' := [(1, .ref (adr E 16))]) rfl ?_
    exact Lj_M_minute_0_16_12_136 l E T hG  M hf
  · have hf := ifF hf c1
    refine rx_aload_n hG dX10_minute_123 0 rfl ?_
    refine rx_aload_n hG dX10_minute_124 1 rfl ?_
    refine rx_iload hG dX10_minute_125 2 rfl ?_
    obtain ⟨M2, hM2, hf⟩ := bindE hf
    refine rx_cVv hG (c_M_peaks_0_16 l E T x4 hM2) (skM0 T) rfl rfl kw_M_306 ⟨Nat.le_of_ble_eq_true rfl, Nat.le_of_ble_eq_true rfl⟩ rfl (Nat.le_of_ble_eq_true rfl) dX10_minute_127 ?_
    refine rx_iinc (lv2 := [(4, .int (x4 + 1)), (0, .ref (adr E 0)), (1, .ref (adr E 16))]) hG 1 dX10_minute_130 ic_1 2 rfl (Nat.le_of_ble_eq_true rfl) rfl ?_
    refine rx_goto hG 114 dX10_minute_133 rfl ?_
    refine rx_sub hG [1, 2, 0] (lv' := [(0, .ref (adr E 0)), (1, .ref (adr E 16)), (4, .int (x4 + 1))]) rfl ?_
    exact hrc114 (x4 + 1) M2 hf
theorem Llp_M_minute_0_16_12_114 (l : Launch) (E : En) (T : List Sk) {a0 b0 kc ks : Nat} {M' : Mm} {G : Nat → List (Nat × Value) → List Value → Mm → Prop} (hG : RX l (SKM ++ T) E RX10 cX10_minute 5 none { frames := 6, cells := a0, slots := b0, locals := 146 } kc ks none M' G)  : ∀ (n : Nat) (x4 : Int32) (M : Mm), lp_M_minute_0_16_12_114  n x4 M = some M' → G 114 [(0, .ref (adr E 0)), (1, .ref (adr E 16)), (4, .int x4)] [] M := by
  intro n
  induction n with
  | zero => intro x4 M hf; cases hf
  | succ n ih => intro x4 M hf; exact Lblp_M_minute_0_16_12_114 l E T hG  (lp_M_minute_0_16_12_114  n) ih x4 M hf
set_option maxHeartbeats 4000000 in
set_option maxRecDepth 100000 in
theorem Lj_M_minute_0_16_12_111 (l : Launch) (E : En) (T : List Sk) {a0 b0 kc ks : Nat} {M' : Mm} {G : Nat → List (Nat × Value) → List Value → Mm → Prop} (hG : RX l (SKM ++ T) E RX10 cX10_minute 5 none { frames := 6, cells := a0, slots := b0, locals := 146 } kc ks none M' G)  : ∀  (M : Mm), j_M_minute_0_16_12_111  M = some M' → G 111 [(0, .ref (adr E 0)), (1, .ref (adr E 16))] [] M := by
  intro M hf
  unfold j_M_minute_0_16_12_111 at hf
  refine rx_iconst hG 0 dX10_minute_111 ic_0 ?_
  refine rx_istore (lv2 := [(4, .int 0), (0, .ref (adr E 0)), (1, .ref (adr E 16))]) hG dX10_minute_112 (Nat.le_of_ble_eq_true rfl) rfl ?_
  refine rx_sub hG [1, 2, 0] (lv' := [(0, .ref (adr E 0)), (1, .ref (adr E 16)), (4, .int 0)]) rfl ?_
  exact Llp_M_minute_0_16_12_114 l E T hG  FW 0 M hf
set_option maxHeartbeats 4000000 in
set_option maxRecDepth 100000 in
theorem Lblp_M_minute_0_16_12_87 (l : Launch) (E : En) (T : List Sk) {a0 b0 kc ks : Nat} {M' : Mm} {G : Nat → List (Nat × Value) → List Value → Mm → Prop} (hG : RX l (SKM ++ T) E RX10 cX10_minute 5 none { frames := 6, cells := a0, slots := b0, locals := 146 } kc ks none M' G) (rc87 : Int32 → Int32 → Mm → Option Mm) (hrc87 : ∀ (x3 : Int32) (x4 : Int32) (M : Mm), rc87 x3 x4 M = some M' → G 87 [(0, .ref (adr E 0)), (1, .ref (adr E 16)), (2, .ref (adr E 12)), (3, .int x3), (4, .int x4)] [] M) : ∀ (x3 : Int32) (x4 : Int32) (M : Mm), blp_M_minute_0_16_12_87 rc87 x3 x4 M = some M' → G 87 [(0, .ref (adr E 0)), (1, .ref (adr E 16)), (2, .ref (adr E 12)), (3, .int x3), (4, .int x4)] [] M := by
  intro x3 x4 M hf
  unfold blp_M_minute_0_16_12_87 at hf
  refine rx_iload hG dX10_minute_87 4 rfl ?_
  refine rx_aload_n hG dX10_minute_89 0 rfl ?_
  refine gfM_M_242_0 l E T hG dX10_minute_90 ?_
  refine rx_icmp_ge hG 111 dX10_minute_93 rfl (fun c1 => ?_) (fun c1 => ?_)
  · have hf := ifT hf c1
    refine rx_sub hG [0, 1] (lv' := [(0, .ref (adr E 0)), (1, .ref (adr E 16))]) rfl ?_
    exact Lj_M_minute_0_16_12_111 l E T hG  M hf
  · have hf := ifF hf c1
    refine rx_aload_n hG dX10_minute_96 0 rfl ?_
    refine rx_aload_n hG dX10_minute_97 1 rfl ?_
    refine rx_aload_n hG dX10_minute_98 2 rfl ?_
    refine rx_iload hG dX10_minute_99 4 rfl ?_
    refine rx_iload_n hG dX10_minute_101 3 rfl ?_
    obtain ⟨M2, hM2, hf⟩ := bindE hf
    refine rx_cVv hG (c_M_tallies_0_16_12 l E T x4 x3 hM2) (skM0 T) rfl rfl kw_M_303 ⟨Nat.le_of_ble_eq_true rfl, Nat.le_of_ble_eq_true rfl⟩ rfl (Nat.le_of_ble_eq_true rfl) dX10_minute_102 ?_
    refine rx_iinc (lv2 := [(4, .int (x4 + 1)), (0, .ref (adr E 0)), (1, .ref (adr E 16)), (2, .ref (adr E 12)), (3, .int x3)]) hG 1 dX10_minute_105 ic_1 4 rfl (Nat.le_of_ble_eq_true rfl) rfl ?_
    refine rx_goto hG 87 dX10_minute_108 rfl ?_
    refine rx_sub hG [1, 2, 3, 4, 0] (lv' := [(0, .ref (adr E 0)), (1, .ref (adr E 16)), (2, .ref (adr E 12)), (3, .int x3), (4, .int (x4 + 1))]) rfl ?_
    exact hrc87 x3 (x4 + 1) M2 hf
theorem Llp_M_minute_0_16_12_87 (l : Launch) (E : En) (T : List Sk) {a0 b0 kc ks : Nat} {M' : Mm} {G : Nat → List (Nat × Value) → List Value → Mm → Prop} (hG : RX l (SKM ++ T) E RX10 cX10_minute 5 none { frames := 6, cells := a0, slots := b0, locals := 146 } kc ks none M' G)  : ∀ (n : Nat) (x3 : Int32) (x4 : Int32) (M : Mm), lp_M_minute_0_16_12_87  n x3 x4 M = some M' → G 87 [(0, .ref (adr E 0)), (1, .ref (adr E 16)), (2, .ref (adr E 12)), (3, .int x3), (4, .int x4)] [] M := by
  intro n
  induction n with
  | zero => intro x3 x4 M hf; cases hf
  | succ n ih => intro x3 x4 M hf; exact Lblp_M_minute_0_16_12_87 l E T hG  (lp_M_minute_0_16_12_87  n) ih x3 x4 M hf
set_option maxHeartbeats 4000000 in
set_option maxRecDepth 100000 in
theorem Lj_M_minute_0_16_12_84 (l : Launch) (E : En) (T : List Sk) {a0 b0 kc ks : Nat} {M' : Mm} {G : Nat → List (Nat × Value) → List Value → Mm → Prop} (hG : RX l (SKM ++ T) E RX10 cX10_minute 5 none { frames := 6, cells := a0, slots := b0, locals := 146 } kc ks none M' G)  : ∀ (x3 : Int32) (M : Mm), j_M_minute_0_16_12_84  x3 M = some M' → G 84 [(0, .ref (adr E 0)), (1, .ref (adr E 16)), (2, .ref (adr E 12)), (3, .int x3)] [] M := by
  intro x3 M hf
  unfold j_M_minute_0_16_12_84 at hf
  refine rx_iconst hG 0 dX10_minute_84 ic_0 ?_
  refine rx_istore (lv2 := [(4, .int 0), (0, .ref (adr E 0)), (1, .ref (adr E 16)), (2, .ref (adr E 12)), (3, .int x3)]) hG dX10_minute_85 (Nat.le_of_ble_eq_true rfl) rfl ?_
  refine rx_sub hG [1, 2, 3, 4, 0] (lv' := [(0, .ref (adr E 0)), (1, .ref (adr E 16)), (2, .ref (adr E 12)), (3, .int x3), (4, .int 0)]) rfl ?_
  exact Llp_M_minute_0_16_12_87 l E T hG  FW x3 0 M hf
set_option maxHeartbeats 4000000 in
set_option maxRecDepth 100000 in
theorem Lblp_M_minute_0_16_12_64 (l : Launch) (E : En) (T : List Sk) {a0 b0 kc ks : Nat} {M' : Mm} {G : Nat → List (Nat × Value) → List Value → Mm → Prop} (hG : RX l (SKM ++ T) E RX10 cX10_minute 5 none { frames := 6, cells := a0, slots := b0, locals := 146 } kc ks none M' G) (rc64 : Int32 → Int32 → Mm → Option Mm) (hrc64 : ∀ (x3 : Int32) (x4 : Int32) (M : Mm), rc64 x3 x4 M = some M' → G 64 [(0, .ref (adr E 0)), (1, .ref (adr E 16)), (2, .ref (adr E 12)), (3, .int x3), (4, .int x4)] [] M) : ∀ (x3 : Int32) (x4 : Int32) (M : Mm), blp_M_minute_0_16_12_64 rc64 x3 x4 M = some M' → G 64 [(0, .ref (adr E 0)), (1, .ref (adr E 16)), (2, .ref (adr E 12)), (3, .int x3), (4, .int x4)] [] M := by
  intro x3 x4 M hf
  unfold blp_M_minute_0_16_12_64 at hf
  refine rx_iload hG dX10_minute_64 4 rfl ?_
  refine rx_if_lt hG 84 dX10_minute_66 rfl (fun c1 => ?_) (fun c1 => ?_)
  · have hf := ifT hf c1
    refine rx_sub hG [0, 1, 2, 3] (lv' := [(0, .ref (adr E 0)), (1, .ref (adr E 16)), (2, .ref (adr E 12)), (3, .int x3)]) rfl ?_
    exact Lj_M_minute_0_16_12_84 l E T hG  x3 M hf
  · have hf := ifF hf c1
    refine rx_aload_n hG dX10_minute_69 0 rfl ?_
    refine rx_aload_n hG dX10_minute_70 1 rfl ?_
    refine rx_aload_n hG dX10_minute_71 2 rfl ?_
    refine rx_iload hG dX10_minute_72 4 rfl ?_
    refine rx_iload_n hG dX10_minute_74 3 rfl ?_
    obtain ⟨M2, hM2, hf⟩ := bindE hf
    refine rx_cVv hG (c_M_starts_0_16_12 l E T x4 x3 hM2) (skM0 T) rfl rfl kw_M_299 ⟨Nat.le_of_ble_eq_true rfl, Nat.le_of_ble_eq_true rfl⟩ rfl (Nat.le_of_ble_eq_true rfl) dX10_minute_75 ?_
    refine rx_iinc (lv2 := [(4, .int (x4 + (-1))), (0, .ref (adr E 0)), (1, .ref (adr E 16)), (2, .ref (adr E 12)), (3, .int x3)]) hG (-1) dX10_minute_78 ic_m1 4 rfl (Nat.le_of_ble_eq_true rfl) rfl ?_
    refine rx_goto hG 64 dX10_minute_81 rfl ?_
    refine rx_sub hG [1, 2, 3, 4, 0] (lv' := [(0, .ref (adr E 0)), (1, .ref (adr E 16)), (2, .ref (adr E 12)), (3, .int x3), (4, .int (x4 + (-1)))]) rfl ?_
    exact hrc64 x3 (x4 + (-1)) M2 hf
theorem Llp_M_minute_0_16_12_64 (l : Launch) (E : En) (T : List Sk) {a0 b0 kc ks : Nat} {M' : Mm} {G : Nat → List (Nat × Value) → List Value → Mm → Prop} (hG : RX l (SKM ++ T) E RX10 cX10_minute 5 none { frames := 6, cells := a0, slots := b0, locals := 146 } kc ks none M' G)  : ∀ (n : Nat) (x3 : Int32) (x4 : Int32) (M : Mm), lp_M_minute_0_16_12_64  n x3 x4 M = some M' → G 64 [(0, .ref (adr E 0)), (1, .ref (adr E 16)), (2, .ref (adr E 12)), (3, .int x3), (4, .int x4)] [] M := by
  intro n
  induction n with
  | zero => intro x3 x4 M hf; cases hf
  | succ n ih => intro x3 x4 M hf; exact Lblp_M_minute_0_16_12_64 l E T hG  (lp_M_minute_0_16_12_64  n) ih x3 x4 M hf
set_option maxHeartbeats 4000000 in
set_option maxRecDepth 100000 in
theorem Lj_M_minute_0_16_12_56 (l : Launch) (E : En) (T : List Sk) {a0 b0 kc ks : Nat} {M' : Mm} {G : Nat → List (Nat × Value) → List Value → Mm → Prop} (hG : RX l (SKM ++ T) E RX10 cX10_minute 5 none { frames := 6, cells := a0, slots := b0, locals := 146 } kc ks none M' G)  : ∀ (x3 : Int32) (M : Mm), j_M_minute_0_16_12_56  x3 M = some M' → G 56 [(0, .ref (adr E 0)), (1, .ref (adr E 16)), (2, .ref (adr E 12)), (3, .int x3)] [] M := by
  intro x3 M hf
  unfold j_M_minute_0_16_12_56 at hf
  refine rx_aload_n hG dX10_minute_56 0 rfl ?_
  refine gfM_M_242_0 l E T hG dX10_minute_57 ?_
  refine rx_iconst hG 1 dX10_minute_60 ic_1 ?_
  refine rx_isub hG dX10_minute_61 ?_
  refine rx_istore (lv2 := [(4, .int ((M.1 0 23) - 1)), (0, .ref (adr E 0)), (1, .ref (adr E 16)), (2, .ref (adr E 12)), (3, .int x3)]) hG dX10_minute_62 (Nat.le_of_ble_eq_true rfl) rfl ?_
  refine rx_sub hG [1, 2, 3, 4, 0] (lv' := [(0, .ref (adr E 0)), (1, .ref (adr E 16)), (2, .ref (adr E 12)), (3, .int x3), (4, .int ((M.1 0 23) - 1))]) rfl ?_
  exact Llp_M_minute_0_16_12_64 l E T hG  FW x3 ((M.1 0 23) - 1) M hf
set_option maxHeartbeats 4000000 in
set_option maxRecDepth 100000 in
theorem Lblp_M_minute_0_16_12_33 (l : Launch) (E : En) (T : List Sk) {a0 b0 kc ks : Nat} {M' : Mm} {G : Nat → List (Nat × Value) → List Value → Mm → Prop} (hG : RX l (SKM ++ T) E RX10 cX10_minute 5 none { frames := 6, cells := a0, slots := b0, locals := 146 } kc ks none M' G) (rc33 : Int32 → Int32 → Mm → Option Mm) (hrc33 : ∀ (x3 : Int32) (x4 : Int32) (M : Mm), rc33 x3 x4 M = some M' → G 33 [(0, .ref (adr E 0)), (1, .ref (adr E 16)), (2, .ref (adr E 12)), (3, .int x3), (4, .int x4)] [] M) : ∀ (x3 : Int32) (x4 : Int32) (M : Mm), blp_M_minute_0_16_12_33 rc33 x3 x4 M = some M' → G 33 [(0, .ref (adr E 0)), (1, .ref (adr E 16)), (2, .ref (adr E 12)), (3, .int x3), (4, .int x4)] [] M := by
  intro x3 x4 M hf
  unfold blp_M_minute_0_16_12_33 at hf
  refine rx_iload hG dX10_minute_33 4 rfl ?_
  refine rx_aload_n hG dX10_minute_35 0 rfl ?_
  refine gfM_M_248_0 l E T hG dX10_minute_36 ?_
  refine rx_icmp_ge hG 56 dX10_minute_39 rfl (fun c1 => ?_) (fun c1 => ?_)
  · have hf := ifT hf c1
    refine rx_sub hG [0, 1, 2, 3] (lv' := [(0, .ref (adr E 0)), (1, .ref (adr E 16)), (2, .ref (adr E 12)), (3, .int x3)]) rfl ?_
    exact Lj_M_minute_0_16_12_56 l E T hG  x3 M hf
  · have hf := ifF hf c1
    refine rx_aload_n hG dX10_minute_42 0 rfl ?_
    refine rx_aload_n hG dX10_minute_43 1 rfl ?_
    refine rx_iload hG dX10_minute_44 4 rfl ?_
    refine rx_iload_n hG dX10_minute_46 3 rfl ?_
    obtain ⟨M2, hM2, hf⟩ := bindE hf
    refine rx_cVv hG (c_M_serves_0_16 l E T x4 x3 hM2) (skM0 T) rfl rfl kw_M_296 ⟨Nat.le_of_ble_eq_true rfl, Nat.le_of_ble_eq_true rfl⟩ rfl (Nat.le_of_ble_eq_true rfl) dX10_minute_47 ?_
    refine rx_iinc (lv2 := [(4, .int (x4 + 1)), (0, .ref (adr E 0)), (1, .ref (adr E 16)), (2, .ref (adr E 12)), (3, .int x3)]) hG 1 dX10_minute_50 ic_1 4 rfl (Nat.le_of_ble_eq_true rfl) rfl ?_
    refine rx_goto hG 33 dX10_minute_53 rfl ?_
    refine rx_sub hG [1, 2, 3, 4, 0] (lv' := [(0, .ref (adr E 0)), (1, .ref (adr E 16)), (2, .ref (adr E 12)), (3, .int x3), (4, .int (x4 + 1))]) rfl ?_
    exact hrc33 x3 (x4 + 1) M2 hf
theorem Llp_M_minute_0_16_12_33 (l : Launch) (E : En) (T : List Sk) {a0 b0 kc ks : Nat} {M' : Mm} {G : Nat → List (Nat × Value) → List Value → Mm → Prop} (hG : RX l (SKM ++ T) E RX10 cX10_minute 5 none { frames := 6, cells := a0, slots := b0, locals := 146 } kc ks none M' G)  : ∀ (n : Nat) (x3 : Int32) (x4 : Int32) (M : Mm), lp_M_minute_0_16_12_33  n x3 x4 M = some M' → G 33 [(0, .ref (adr E 0)), (1, .ref (adr E 16)), (2, .ref (adr E 12)), (3, .int x3), (4, .int x4)] [] M := by
  intro n
  induction n with
  | zero => intro x3 x4 M hf; cases hf
  | succ n ih => intro x3 x4 M hf; exact Lblp_M_minute_0_16_12_33 l E T hG  (lp_M_minute_0_16_12_33  n) ih x3 x4 M hf
set_option maxHeartbeats 4000000 in
set_option maxRecDepth 100000 in
theorem Lj_M_minute_0_16_12_30 (l : Launch) (E : En) (T : List Sk) {a0 b0 kc ks : Nat} {M' : Mm} {G : Nat → List (Nat × Value) → List Value → Mm → Prop} (hG : RX l (SKM ++ T) E RX10 cX10_minute 5 none { frames := 6, cells := a0, slots := b0, locals := 146 } kc ks none M' G)  : ∀ (x3 : Int32) (M : Mm), j_M_minute_0_16_12_30  x3 M = some M' → G 30 [(0, .ref (adr E 0)), (1, .ref (adr E 16)), (2, .ref (adr E 12)), (3, .int x3)] [] M := by
  intro x3 M hf
  unfold j_M_minute_0_16_12_30 at hf
  refine rx_iconst hG 0 dX10_minute_30 ic_0 ?_
  refine rx_istore (lv2 := [(4, .int 0), (0, .ref (adr E 0)), (1, .ref (adr E 16)), (2, .ref (adr E 12)), (3, .int x3)]) hG dX10_minute_31 (Nat.le_of_ble_eq_true rfl) rfl ?_
  refine rx_sub hG [1, 2, 3, 4, 0] (lv' := [(0, .ref (adr E 0)), (1, .ref (adr E 16)), (2, .ref (adr E 12)), (3, .int x3), (4, .int 0)]) rfl ?_
  exact Llp_M_minute_0_16_12_33 l E T hG  FW x3 0 M hf
set_option maxHeartbeats 4000000 in
set_option maxRecDepth 100000 in
theorem Lblp_M_minute_0_16_12_7 (l : Launch) (E : En) (T : List Sk) {a0 b0 kc ks : Nat} {M' : Mm} {G : Nat → List (Nat × Value) → List Value → Mm → Prop} (hG : RX l (SKM ++ T) E RX10 cX10_minute 5 none { frames := 6, cells := a0, slots := b0, locals := 146 } kc ks none M' G) (rc7 : Int32 → Int32 → Mm → Option Mm) (hrc7 : ∀ (x3 : Int32) (x4 : Int32) (M : Mm), rc7 x3 x4 M = some M' → G 7 [(0, .ref (adr E 0)), (1, .ref (adr E 16)), (2, .ref (adr E 12)), (3, .int x3), (4, .int x4)] [] M) : ∀ (x3 : Int32) (x4 : Int32) (M : Mm), blp_M_minute_0_16_12_7 rc7 x3 x4 M = some M' → G 7 [(0, .ref (adr E 0)), (1, .ref (adr E 16)), (2, .ref (adr E 12)), (3, .int x3), (4, .int x4)] [] M := by
  intro x3 x4 M hf
  unfold blp_M_minute_0_16_12_7 at hf
  refine rx_iload hG dX10_minute_7 4 rfl ?_
  refine rx_aload_n hG dX10_minute_9 0 rfl ?_
  refine gfM_M_242_0 l E T hG dX10_minute_10 ?_
  refine rx_icmp_ge hG 30 dX10_minute_13 rfl (fun c1 => ?_) (fun c1 => ?_)
  · have hf := ifT hf c1
    refine rx_sub hG [0, 1, 2, 3] (lv' := [(0, .ref (adr E 0)), (1, .ref (adr E 16)), (2, .ref (adr E 12)), (3, .int x3)]) rfl ?_
    exact Lj_M_minute_0_16_12_30 l E T hG  x3 M hf
  · have hf := ifF hf c1
    refine rx_aload_n hG dX10_minute_16 0 rfl ?_
    refine rx_aload_n hG dX10_minute_17 1 rfl ?_
    refine rx_iload hG dX10_minute_18 4 rfl ?_
    refine rx_iload_n hG dX10_minute_20 3 rfl ?_
    obtain ⟨M2, hM2, hf⟩ := bindE hf
    refine rx_cVv hG (c_M_ends_0_16 l E T x4 x3 hM2) (skM0 T) rfl rfl kw_M_292 ⟨Nat.le_of_ble_eq_true rfl, Nat.le_of_ble_eq_true rfl⟩ rfl (Nat.le_of_ble_eq_true rfl) dX10_minute_21 ?_
    refine rx_iinc (lv2 := [(4, .int (x4 + 1)), (0, .ref (adr E 0)), (1, .ref (adr E 16)), (2, .ref (adr E 12)), (3, .int x3)]) hG 1 dX10_minute_24 ic_1 4 rfl (Nat.le_of_ble_eq_true rfl) rfl ?_
    refine rx_goto hG 7 dX10_minute_27 rfl ?_
    refine rx_sub hG [1, 2, 3, 4, 0] (lv' := [(0, .ref (adr E 0)), (1, .ref (adr E 16)), (2, .ref (adr E 12)), (3, .int x3), (4, .int (x4 + 1))]) rfl ?_
    exact hrc7 x3 (x4 + 1) M2 hf
theorem Llp_M_minute_0_16_12_7 (l : Launch) (E : En) (T : List Sk) {a0 b0 kc ks : Nat} {M' : Mm} {G : Nat → List (Nat × Value) → List Value → Mm → Prop} (hG : RX l (SKM ++ T) E RX10 cX10_minute 5 none { frames := 6, cells := a0, slots := b0, locals := 146 } kc ks none M' G)  : ∀ (n : Nat) (x3 : Int32) (x4 : Int32) (M : Mm), lp_M_minute_0_16_12_7  n x3 x4 M = some M' → G 7 [(0, .ref (adr E 0)), (1, .ref (adr E 16)), (2, .ref (adr E 12)), (3, .int x3), (4, .int x4)] [] M := by
  intro n
  induction n with
  | zero => intro x3 x4 M hf; cases hf
  | succ n ih => intro x3 x4 M hf; exact Lblp_M_minute_0_16_12_7 l E T hG  (lp_M_minute_0_16_12_7  n) ih x3 x4 M hf
set_option maxHeartbeats 4000000 in
set_option maxRecDepth 100000 in
theorem c_M_minute_0_16_12 (l : Launch) (E : En) (T : List Sk)  {M M' : Mm} (h : f_M_minute_0_16_12 M = some M') : Ct l (SKM ++ T) E yX10_minute cX10_minute 5 none 6 146 [.ref (adr E 0), .ref (adr E 16), .ref (adr E 12)] M none M' := by
  refine ct_of (by decide) (Nat.le_of_ble_eq_true rfl) ?_
  intro G hG
  show G 0 [(0, .ref (adr E 0)), (1, .ref (adr E 16)), (2, .ref (adr E 12))] [] M
  have hf := h
  unfold f_M_minute_0_16_12 at hf
  refine rx_aload_n hG dX10_minute_0 1 rfl ?_
  refine rx_iconst hG 0 dX10_minute_1 ic_0 ?_
  obtain ⟨v1, hv1, hf⟩ := bindE hf
  refine rx_iald hG (skM16 T) hv1 dX10_minute_2 ?_
  refine rx_istore_n (lv2 := [(3, .int v1), (0, .ref (adr E 0)), (1, .ref (adr E 16)), (2, .ref (adr E 12))]) hG dX10_minute_3 (Nat.le_of_ble_eq_true rfl) rfl ?_
  refine rx_iconst hG 0 dX10_minute_4 ic_0 ?_
  refine rx_istore (lv2 := [(4, .int 0), (3, .int v1), (0, .ref (adr E 0)), (1, .ref (adr E 16)), (2, .ref (adr E 12))]) hG dX10_minute_5 (Nat.le_of_ble_eq_true rfl) rfl ?_
  refine rx_sub hG [2, 3, 4, 1, 0] (lv' := [(0, .ref (adr E 0)), (1, .ref (adr E 16)), (2, .ref (adr E 12)), (3, .int v1), (4, .int 0)]) rfl ?_
  exact Llp_M_minute_0_16_12_7 l E T hG  FW v1 0 M hf
set_option maxHeartbeats 4000000 in
set_option maxRecDepth 100000 in
theorem Lblp_M_yieldOf_0_10 (l : Launch) (E : En) (T : List Sk) {a0 b0 kc ks : Nat} {r : Int32} {M' : Mm} {G : Nat → List (Nat × Value) → List Value → Mm → Prop} (hG : RX l (SKM ++ T) E RX10 cX10_yieldOf 3 (some .int) { frames := 7, cells := a0, slots := b0, locals := 170 } kc ks (some (.int r)) M' G) (rc10 : Int32 → Int32 → Mm → Option (Int32 × Mm)) (hrc10 : ∀ (x1 : Int32) (x2 : Int32) (M : Mm), rc10 x1 x2 M = some (r, M') → G 10 [(0, .ref (adr E 0)), (1, .int x1), (2, .int x2)] [] M) : ∀ (x1 : Int32) (x2 : Int32) (M : Mm), blp_M_yieldOf_0_10 rc10 x1 x2 M = some (r, M') → G 10 [(0, .ref (adr E 0)), (1, .int x1), (2, .int x2)] [] M := by
  intro x1 x2 M hf
  unfold blp_M_yieldOf_0_10 at hf
  refine rx_iload_n hG dX10_yieldOf_10 2 rfl ?_
  refine rx_iload_n hG dX10_yieldOf_11 1 rfl ?_
  refine rx_icmp_ge hG 33 dX10_yieldOf_12 rfl (fun c1 => ?_) (fun c1 => ?_)
  · have hf := ifT hf c1
    refine rx_aload_n hG dX10_yieldOf_33 0 rfl ?_
    refine rx_aload_n hG dX10_yieldOf_34 0 rfl ?_
    refine gfM_M_60_0 l E T hG dX10_yieldOf_35 ?_
    obtain ⟨v2, hv2, hf⟩ := bindE hf
    refine rx_cVi hG (c_M_delivered_0_16 l E T  hv2) (skM0 T) rfl rfl kw_M_325 ⟨Nat.le_of_ble_eq_true rfl, Nat.le_of_ble_eq_true rfl⟩ rfl (Nat.le_of_ble_eq_true rfl) dX10_yieldOf_38 ?_
    cases hf
    exact rx_iret hG dX10_yieldOf_41
  · have hf := ifF hf c1
    refine rx_aload_n hG dX10_yieldOf_15 0 rfl ?_
    refine rx_aload_n hG dX10_yieldOf_16 0 rfl ?_
    refine gfM_M_60_0 l E T hG dX10_yieldOf_17 ?_
    refine rx_aload_n hG dX10_yieldOf_20 0 rfl ?_
    refine gfM_M_48_0 l E T hG dX10_yieldOf_21 ?_
    obtain ⟨M3, hM3, hf⟩ := bindE hf
    refine rx_cVv hG (c_M_minute_0_16_12 l E T  hM3) (skM0 T) rfl rfl kw_M_329 ⟨Nat.le_of_ble_eq_true rfl, Nat.le_of_ble_eq_true rfl⟩ rfl (Nat.le_of_ble_eq_true rfl) dX10_yieldOf_24 ?_
    refine rx_iinc (lv2 := [(2, .int (x2 + 1)), (0, .ref (adr E 0)), (1, .int x1)]) hG 1 dX10_yieldOf_27 ic_1 2 rfl (Nat.le_of_ble_eq_true rfl) rfl ?_
    refine rx_goto hG 10 dX10_yieldOf_30 rfl ?_
    refine rx_sub hG [1, 2, 0] (lv' := [(0, .ref (adr E 0)), (1, .int x1), (2, .int (x2 + 1))]) rfl ?_
    exact hrc10 x1 (x2 + 1) M3 hf
theorem Llp_M_yieldOf_0_10 (l : Launch) (E : En) (T : List Sk) {a0 b0 kc ks : Nat} {r : Int32} {M' : Mm} {G : Nat → List (Nat × Value) → List Value → Mm → Prop} (hG : RX l (SKM ++ T) E RX10 cX10_yieldOf 3 (some .int) { frames := 7, cells := a0, slots := b0, locals := 170 } kc ks (some (.int r)) M' G)  : ∀ (n : Nat) (x1 : Int32) (x2 : Int32) (M : Mm), lp_M_yieldOf_0_10  n x1 x2 M = some (r, M') → G 10 [(0, .ref (adr E 0)), (1, .int x1), (2, .int x2)] [] M := by
  intro n
  induction n with
  | zero => intro x1 x2 M hf; cases hf
  | succ n ih => intro x1 x2 M hf; exact Lblp_M_yieldOf_0_10 l E T hG  (lp_M_yieldOf_0_10  n) ih x1 x2 M hf
set_option maxHeartbeats 4000000 in
set_option maxRecDepth 100000 in
theorem c_M_yieldOf_0 (l : Launch) (E : En) (T : List Sk) (p0 : Int32) {M M' : Mm} {r : Int32} (h : f_M_yieldOf_0 p0 M = some (r, M')) : Ct l (SKM ++ T) E yX10_yieldOf cX10_yieldOf 3 (some .int) 7 170 [.ref (adr E 0), .int p0] M (some (.int r)) M' := by
  refine ct_of (by decide) (Nat.le_of_ble_eq_true rfl) ?_
  intro G hG
  show G 0 [(0, .ref (adr E 0)), (1, .int p0)] [] M
  have hf := h
  unfold f_M_yieldOf_0 at hf
  refine rx_aload_n hG dX10_yieldOf_0 0 rfl ?_
  refine rx_aload_n hG dX10_yieldOf_1 0 rfl ?_
  refine gfM_M_60_0 l E T hG dX10_yieldOf_2 ?_
  obtain ⟨M1, hM1, hf⟩ := bindE hf
  refine rx_cVv hG (c_M_begins_0_16 l E T  hM1) (skM0 T) rfl rfl kw_M_260 ⟨Nat.le_of_ble_eq_true rfl, Nat.le_of_ble_eq_true rfl⟩ rfl (Nat.le_of_ble_eq_true rfl) dX10_yieldOf_5 ?_
  refine rx_iconst hG 0 dX10_yieldOf_8 ic_0 ?_
  refine rx_istore_n (lv2 := [(2, .int 0), (0, .ref (adr E 0)), (1, .int p0)]) hG dX10_yieldOf_9 (Nat.le_of_ble_eq_true rfl) rfl ?_
  refine rx_sub hG [1, 2, 0] (lv' := [(0, .ref (adr E 0)), (1, .int p0), (2, .int 0)]) rfl ?_
  exact Llp_M_yieldOf_0_10 l E T hG  FW p0 0 M1 hf
set_option maxHeartbeats 4000000 in
set_option maxRecDepth 100000 in
theorem c_M_yieldNow_0 (l : Launch) (E : En) (T : List Sk) (p0 : Int32) {M M' : Mm} {r : Int32} (h : f_M_yieldNow_0 p0 M = some (r, M')) : Ct l (SKM ++ T) E yX10_yieldNow cX10_yieldNow 2 (some .int) 8 192 [.ref (adr E 0), .int p0] M (some (.int r)) M' := by
  refine ct_of (by decide) (Nat.le_of_ble_eq_true rfl) ?_
  intro G hG
  show G 0 [(0, .ref (adr E 0)), (1, .int p0)] [] M
  have hf := h
  unfold f_M_yieldNow_0 at hf
  refine rx_aload_n hG dX10_yieldNow_0 0 rfl ?_
  obtain ⟨M1, hM1, hf⟩ := bindE hf
  refine rx_cVv hG (c_M_papers_0 l E T  hM1) (skM0 T) rfl rfl kw_M_342 ⟨Nat.le_of_ble_eq_true rfl, Nat.le_of_ble_eq_true rfl⟩ rfl (Nat.le_of_ble_eq_true rfl) dX10_yieldNow_1 ?_
  refine rx_aload_n hG dX10_yieldNow_4 0 rfl ?_
  refine rx_iload_n hG dX10_yieldNow_5 1 rfl ?_
  obtain ⟨q2, hq2, hf⟩ := bindE hf
  refine rx_cVi hG (c_M_yieldOf_0 l E T p0 hq2) (skM0 T) rfl rfl kw_M_345 ⟨Nat.le_of_ble_eq_true rfl, Nat.le_of_ble_eq_true rfl⟩ rfl (Nat.le_of_ble_eq_true rfl) dX10_yieldNow_6 ?_
  cases hf
  exact rx_iret hG dX10_yieldNow_9
set_option maxHeartbeats 4000000 in
set_option maxRecDepth 100000 in
theorem c_M_yields_0 (l : Launch) (E : En) (T : List Sk) (p0 : Int32) {M M' : Mm} {r : Int32} (h : f_M_yields_0 p0 M = some (r, M')) : Ct l (SKM ++ T) E yX10_yields cX10_yields 2 (some .int) 9 213 [.ref (adr E 0), .int p0] M (some (.int r)) M' := by
  refine ct_of (by decide) (Nat.le_of_ble_eq_true rfl) ?_
  intro G hG
  show G 0 [(0, .ref (adr E 0)), (1, .int p0)] [] M
  have hf := h
  unfold f_M_yields_0 at hf
  refine rx_aload_n hG dX10_yields_0 0 rfl ?_
  refine rx_iconst hG 0 dX10_yields_1 ic_0 ?_
  obtain ⟨M1, hM1, hf⟩ := bindE hf
  refine pfM_M_74_0 l E T hG hM1 dX10_yields_2 ?_
  refine rx_aload_n hG dX10_yields_5 0 rfl ?_
  refine gfM_M_257_0 l E T hG dX10_yields_6 ?_
  refine rx_if_ne hG 18 dX10_yields_9 rfl (fun c2 => ?_) (fun c2 => ?_)
  · have hf := ifF hf c2
    refine rx_iload_n hG dX10_yields_18 1 rfl ?_
    obtain ⟨v3, hv3, hf⟩ := bindE hf
    refine rx_cSi hG (c_M_isTerm l E (SKM ++ T) p0 hv3) kw_M_348 ⟨Nat.le_of_ble_eq_true rfl, Nat.le_of_ble_eq_true rfl⟩ rfl (Nat.le_of_ble_eq_true rfl) dX10_yields_19 ?_
    refine rx_if_eq hG 37 dX10_yields_22 rfl (fun c4 => ?_) (fun c4 => ?_)
    · have hf := ifT hf c4
      refine rx_aload_n hG dX10_yields_37 0 rfl ?_
      refine rx_iconst hG 2 dX10_yields_38 ic_2 ?_
      obtain ⟨q5, hq5, hf⟩ := bindE hf
      refine rx_cVi hG (c_M_refused_0 l E T 2 hq5) (skM0 T) rfl rfl kw_M_232 ⟨Nat.le_of_ble_eq_true rfl, Nat.le_of_ble_eq_true rfl⟩ rfl (Nat.le_of_ble_eq_true rfl) dX10_yields_39 ?_
      cases hf
      exact rx_iret hG dX10_yields_42
    · have hf := ifF hf c4
      refine rx_aload_n hG dX10_yields_25 0 rfl ?_
      refine rx_aload_n hG dX10_yields_26 0 rfl ?_
      refine rx_iload_n hG dX10_yields_27 1 rfl ?_
      obtain ⟨q6, hq6, hf⟩ := bindE hf
      refine rx_cVi hG (c_M_yieldNow_0 l E T p0 hq6) (skM0 T) rfl rfl kw_M_351 ⟨Nat.le_of_ble_eq_true rfl, Nat.le_of_ble_eq_true rfl⟩ rfl (Nat.le_of_ble_eq_true rfl) dX10_yields_28 ?_
      obtain ⟨q7, hq7, hf⟩ := bindE hf
      refine rx_cVi hG (c_M_good_0 l E T q6.1 hq7) (skM0 T) rfl rfl kw_M_245 ⟨Nat.le_of_ble_eq_true rfl, Nat.le_of_ble_eq_true rfl⟩ rfl (Nat.le_of_ble_eq_true rfl) dX10_yields_31 ?_
      refine rx_goto hG 42 dX10_yields_34 rfl ?_
      cases hf
      exact rx_iret hG dX10_yields_42
  · have hf := ifT hf c2
    refine rx_aload_n hG dX10_yields_12 0 rfl ?_
    refine rx_iconst hG 1 dX10_yields_13 ic_1 ?_
    obtain ⟨q8, hq8, hf⟩ := bindE hf
    refine rx_cVi hG (c_M_refused_0 l E T 1 hq8) (skM0 T) rfl rfl kw_M_232 ⟨Nat.le_of_ble_eq_true rfl, Nat.le_of_ble_eq_true rfl⟩ rfl (Nat.le_of_ble_eq_true rfl) dX10_yields_14 ?_
    cases hf
    exact rx_iret hG dX10_yields_17
set_option maxHeartbeats 4000000 in
set_option maxRecDepth 100000 in
theorem c_M_would_0 (l : Launch) (E : En) (T : List Sk) (p0 : Int32) (p1 : Int32) (p2 : Int32) (p3 : Int32) {M M' : Mm} {r : Int32} (h : f_M_would_0 p0 p1 p2 p3 M = some (r, M')) : Ct l (SKM ++ T) E yX10_would cX10_would 5 (some .int) 8 192 [.ref (adr E 0), .int p0, .int p1, .int p2, .int p3] M (some (.int r)) M' := by
  refine ct_of (by decide) (Nat.le_of_ble_eq_true rfl) ?_
  intro G hG
  show G 0 [(0, .ref (adr E 0)), (1, .int p0), (2, .int p1), (3, .int p2), (4, .int p3)] [] M
  have hf := h
  unfold f_M_would_0 at hf
  refine rx_aload_n hG dX10_would_0 0 rfl ?_
  refine rx_iconst hG 0 dX10_would_1 ic_0 ?_
  obtain ⟨M1, hM1, hf⟩ := bindE hf
  refine pfM_M_74_0 l E T hG hM1 dX10_would_2 ?_
  refine rx_aload_n hG dX10_would_5 0 rfl ?_
  refine rx_iload_n hG dX10_would_6 1 rfl ?_
  obtain ⟨v2, hv2, hf⟩ := bindE hf
  refine rx_cVi hG (c_M_isBench_0 l E T p0 hv2) (skM0 T) rfl rfl kw_M_316 ⟨Nat.le_of_ble_eq_true rfl, Nat.le_of_ble_eq_true rfl⟩ rfl (Nat.le_of_ble_eq_true rfl) dX10_would_7 ?_
  refine rx_if_eq hG 21 dX10_would_10 rfl (fun c3 => ?_) (fun c3 => ?_)
  · have hf := ifT hf c3
    refine rx_aload_n hG dX10_would_21 0 rfl ?_
    refine rx_iconst hG 1 dX10_would_22 ic_1 ?_
    obtain ⟨q4, hq4, hf⟩ := bindE hf
    refine rx_cVi hG (c_M_refused_0 l E T 1 hq4) (skM0 T) rfl rfl kw_M_232 ⟨Nat.le_of_ble_eq_true rfl, Nat.le_of_ble_eq_true rfl⟩ rfl (Nat.le_of_ble_eq_true rfl) dX10_would_23 ?_
    cases hf
    exact rx_iret hG dX10_would_26
  · have hf := ifF hf c3
    refine rx_aload_n hG dX10_would_13 0 rfl ?_
    refine rx_iload_n hG dX10_would_14 2 rfl ?_
    obtain ⟨v5, hv5, hf⟩ := bindE hf
    refine rx_cVi hG (c_M_isKind_0 l E T p1 hv5) (skM0 T) rfl rfl kw_M_319 ⟨Nat.le_of_ble_eq_true rfl, Nat.le_of_ble_eq_true rfl⟩ rfl (Nat.le_of_ble_eq_true rfl) dX10_would_15 ?_
    refine rx_if_ne hG 27 dX10_would_18 rfl (fun c6 => ?_) (fun c6 => ?_)
    · have hf := ifF hf c6
      refine rx_iload_n hG dX10_would_27 3 rfl ?_
      refine rx_iconst hG 0 dX10_would_28 ic_0 ?_
      refine rx_bipush hG 9 dX10_would_29 bp_9 ?_
      obtain ⟨v7, hv7, hf⟩ := bindE hf
      refine rx_cSi hG (c_M_in l E (SKM ++ T) p2 0 9 hv7) kw_M_95 ⟨Nat.le_of_ble_eq_true rfl, Nat.le_of_ble_eq_true rfl⟩ rfl (Nat.le_of_ble_eq_true rfl) dX10_would_31 ?_
      refine rx_if_eq hG 45 dX10_would_34 rfl (fun c8 => ?_) (fun c8 => ?_)
      · have hf := ifT hf c8
        refine rx_aload_n hG dX10_would_45 0 rfl ?_
        refine rx_iconst hG 2 dX10_would_46 ic_2 ?_
        obtain ⟨q9, hq9, hf⟩ := bindE hf
        refine rx_cVi hG (c_M_refused_0 l E T 2 hq9) (skM0 T) rfl rfl kw_M_232 ⟨Nat.le_of_ble_eq_true rfl, Nat.le_of_ble_eq_true rfl⟩ rfl (Nat.le_of_ble_eq_true rfl) dX10_would_47 ?_
        cases hf
        exact rx_iret hG dX10_would_50
      · have hf := ifF hf c8
        refine rx_iload hG dX10_would_37 4 rfl ?_
        obtain ⟨v10, hv10, hf⟩ := bindE hf
        refine rx_cSi hG (c_M_isTerm l E (SKM ++ T) p3 hv10) kw_M_348 ⟨Nat.le_of_ble_eq_true rfl, Nat.le_of_ble_eq_true rfl⟩ rfl (Nat.le_of_ble_eq_true rfl) dX10_would_39 ?_
        refine rx_if_ne hG 51 dX10_would_42 rfl (fun c11 => ?_) (fun c11 => ?_)
        · have hf := ifF hf c11
          refine rx_aload_n hG dX10_would_51 0 rfl ?_
          obtain ⟨M12, hM12, hf⟩ := bindE hf
          refine rx_cVv hG (c_M_papers_0 l E T  hM12) (skM0 T) rfl rfl kw_M_342 ⟨Nat.le_of_ble_eq_true rfl, Nat.le_of_ble_eq_true rfl⟩ rfl (Nat.le_of_ble_eq_true rfl) dX10_would_52 ?_
          refine rx_aload_n hG dX10_would_55 0 rfl ?_
          refine gfM_M_48_0 l E T hG dX10_would_56 ?_
          refine rx_iconst hG 3 dX10_would_59 ic_3 ?_
          refine rx_iload_n hG dX10_would_60 1 rfl ?_
          refine rx_imul hG dX10_would_61 ?_
          refine rx_iload_n hG dX10_would_62 2 rfl ?_
          refine rx_iadd hG dX10_would_63 ?_
          refine rx_iload_n hG dX10_would_64 3 rfl ?_
          obtain ⟨M13, hM13, hf⟩ := bindE hf
          refine rx_iast hG (skM12 T) hM13 dX10_would_65 ?_
          refine rx_aload_n hG dX10_would_66 0 rfl ?_
          refine rx_aload_n hG dX10_would_67 0 rfl ?_
          refine rx_iload hG dX10_would_68 4 rfl ?_
          obtain ⟨q14, hq14, hf⟩ := bindE hf
          refine rx_cVi hG (c_M_yieldOf_0 l E T p3 hq14) (skM0 T) rfl rfl kw_M_345 ⟨Nat.le_of_ble_eq_true rfl, Nat.le_of_ble_eq_true rfl⟩ rfl (Nat.le_of_ble_eq_true rfl) dX10_would_70 ?_
          obtain ⟨q15, hq15, hf⟩ := bindE hf
          refine rx_cVi hG (c_M_good_0 l E T q14.1 hq15) (skM0 T) rfl rfl kw_M_245 ⟨Nat.le_of_ble_eq_true rfl, Nat.le_of_ble_eq_true rfl⟩ rfl (Nat.le_of_ble_eq_true rfl) dX10_would_73 ?_
          cases hf
          exact rx_iret hG dX10_would_76
        · have hf := ifT hf c11
          refine rx_aload_n hG dX10_would_45 0 rfl ?_
          refine rx_iconst hG 2 dX10_would_46 ic_2 ?_
          obtain ⟨q16, hq16, hf⟩ := bindE hf
          refine rx_cVi hG (c_M_refused_0 l E T 2 hq16) (skM0 T) rfl rfl kw_M_232 ⟨Nat.le_of_ble_eq_true rfl, Nat.le_of_ble_eq_true rfl⟩ rfl (Nat.le_of_ble_eq_true rfl) dX10_would_47 ?_
          cases hf
          exact rx_iret hG dX10_would_50
    · have hf := ifT hf c6
      refine rx_aload_n hG dX10_would_21 0 rfl ?_
      refine rx_iconst hG 1 dX10_would_22 ic_1 ?_
      obtain ⟨q17, hq17, hf⟩ := bindE hf
      refine rx_cVi hG (c_M_refused_0 l E T 1 hq17) (skM0 T) rfl rfl kw_M_232 ⟨Nat.le_of_ble_eq_true rfl, Nat.le_of_ble_eq_true rfl⟩ rfl (Nat.le_of_ble_eq_true rfl) dX10_would_23 ?_
      cases hf
      exact rx_iret hG dX10_would_26
set_option maxHeartbeats 4000000 in
set_option maxRecDepth 100000 in
theorem Lj_M_fewest_0_78 (l : Launch) (E : En) (T : List Sk) {a0 b0 kc ks : Nat} {r : Int32} {M' : Mm} {G : Nat → List (Nat × Value) → List Value → Mm → Prop} (hG : RX l (SKM ++ T) E RX10 cX10_fewest 5 (some .int) { frames := 8, cells := a0, slots := b0, locals := 192 } kc ks (some (.int r)) M' G) (rc48 : Int32 → Int32 → Int32 → Mm → Option (Int32 × Mm)) (hrc48 : ∀ (x1 : Int32) (x2 : Int32) (x3 : Int32) (M : Mm), rc48 x1 x2 x3 M = some (r, M') → G 48 [(0, .ref (adr E 0)), (1, .int x1), (2, .int x2), (3, .int x3)] [] M) : ∀ (x1 : Int32) (x2 : Int32) (x3 : Int32) (M : Mm), j_M_fewest_0_78 rc48 x1 x2 x3 M = some (r, M') → G 78 [(0, .ref (adr E 0)), (1, .int x1), (2, .int x2), (3, .int x3)] [] M := by
  intro x1 x2 x3 M hf
  unfold j_M_fewest_0_78 at hf
  refine rx_aload_n hG dX10_fewest_78 0 rfl ?_
  refine rx_iload_n hG dX10_fewest_79 2 rfl ?_
  obtain ⟨q1, hq1, hf⟩ := bindE hf
  refine rx_cVi hG (c_M_yieldOf_0 l E T x2 hq1) (skM0 T) rfl rfl kw_M_345 ⟨Nat.le_of_ble_eq_true rfl, Nat.le_of_ble_eq_true rfl⟩ rfl (Nat.le_of_ble_eq_true rfl) dX10_fewest_80 ?_
  refine rx_iload_n hG dX10_fewest_83 1 rfl ?_
  refine rx_icmp_lt hG 93 dX10_fewest_84 rfl (fun c2 => ?_) (fun c2 => ?_)
  · have hf := ifT hf c2
    refine rx_iinc (lv2 := [(3, .int (x3 + 1)), (0, .ref (adr E 0)), (1, .int x1), (2, .int x2)]) hG 1 dX10_fewest_93 ic_1 3 rfl (Nat.le_of_ble_eq_true rfl) rfl ?_
    refine rx_goto hG 48 dX10_fewest_96 rfl ?_
    refine rx_sub hG [1, 2, 3, 0] (lv' := [(0, .ref (adr E 0)), (1, .int x1), (2, .int x2), (3, .int (x3 + 1))]) rfl ?_
    exact hrc48 x1 x2 (x3 + 1) q1.2 hf
  · have hf := ifF hf c2
    refine rx_aload_n hG dX10_fewest_87 0 rfl ?_
    refine rx_iload_n hG dX10_fewest_88 3 rfl ?_
    obtain ⟨q3, hq3, hf⟩ := bindE hf
    refine rx_cVi hG (c_M_good_0 l E T x3 hq3) (skM0 T) rfl rfl kw_M_245 ⟨Nat.le_of_ble_eq_true rfl, Nat.le_of_ble_eq_true rfl⟩ rfl (Nat.le_of_ble_eq_true rfl) dX10_fewest_89 ?_
    cases hf
    exact rx_iret hG dX10_fewest_92
set_option maxHeartbeats 4000000 in
set_option maxRecDepth 100000 in
theorem Lblp_M_fewest_0_57 (l : Launch) (E : En) (T : List Sk) {a0 b0 kc ks : Nat} {r : Int32} {M' : Mm} {G : Nat → List (Nat × Value) → List Value → Mm → Prop} (hG : RX l (SKM ++ T) E RX10 cX10_fewest 5 (some .int) { frames := 8, cells := a0, slots := b0, locals := 192 } kc ks (some (.int r)) M' G) (rc48 : Int32 → Int32 → Int32 → Mm → Option (Int32 × Mm)) (hrc48 : ∀ (x1 : Int32) (x2 : Int32) (x3 : Int32) (M : Mm), rc48 x1 x2 x3 M = some (r, M') → G 48 [(0, .ref (adr E 0)), (1, .int x1), (2, .int x2), (3, .int x3)] [] M) (rc57 : Int32 → Int32 → Int32 → Int32 → Mm → Option (Int32 × Mm)) (hrc57 : ∀ (x1 : Int32) (x2 : Int32) (x3 : Int32) (x4 : Int32) (M : Mm), rc57 x1 x2 x3 x4 M = some (r, M') → G 57 [(0, .ref (adr E 0)), (1, .int x1), (2, .int x2), (3, .int x3), (4, .int x4)] [] M) : ∀ (x1 : Int32) (x2 : Int32) (x3 : Int32) (x4 : Int32) (M : Mm), blp_M_fewest_0_57 rc48 rc57 x1 x2 x3 x4 M = some (r, M') → G 57 [(0, .ref (adr E 0)), (1, .int x1), (2, .int x2), (3, .int x3), (4, .int x4)] [] M := by
  intro x1 x2 x3 x4 M hf
  unfold blp_M_fewest_0_57 at hf
  refine rx_iload hG dX10_fewest_57 4 rfl ?_
  refine rx_bipush hG 18 dX10_fewest_59 bp_18 ?_
  refine rx_icmp_ge hG 78 dX10_fewest_61 rfl (fun c1 => ?_) (fun c1 => ?_)
  · have hf := ifT hf c1
    refine rx_sub hG [0, 1, 2, 3] (lv' := [(0, .ref (adr E 0)), (1, .int x1), (2, .int x2), (3, .int x3)]) rfl ?_
    exact Lj_M_fewest_0_78 l E T hG rc48 hrc48 x1 x2 x3 M hf
  · have hf := ifF hf c1
    refine rx_aload_n hG dX10_fewest_64 0 rfl ?_
    refine gfM_M_48_0 l E T hG dX10_fewest_65 ?_
    refine rx_iload hG dX10_fewest_68 4 rfl ?_
    refine rx_iload_n hG dX10_fewest_70 3 rfl ?_
    obtain ⟨M2, hM2, hf⟩ := bindE hf
    refine rx_iast hG (skM12 T) hM2 dX10_fewest_71 ?_
    refine rx_iinc (lv2 := [(4, .int (x4 + 1)), (0, .ref (adr E 0)), (1, .int x1), (2, .int x2), (3, .int x3)]) hG 1 dX10_fewest_72 ic_1 4 rfl (Nat.le_of_ble_eq_true rfl) rfl ?_
    refine rx_goto hG 57 dX10_fewest_75 rfl ?_
    refine rx_sub hG [1, 2, 3, 4, 0] (lv' := [(0, .ref (adr E 0)), (1, .int x1), (2, .int x2), (3, .int x3), (4, .int (x4 + 1))]) rfl ?_
    exact hrc57 x1 x2 x3 (x4 + 1) M2 hf
theorem Llp_M_fewest_0_57 (l : Launch) (E : En) (T : List Sk) {a0 b0 kc ks : Nat} {r : Int32} {M' : Mm} {G : Nat → List (Nat × Value) → List Value → Mm → Prop} (hG : RX l (SKM ++ T) E RX10 cX10_fewest 5 (some .int) { frames := 8, cells := a0, slots := b0, locals := 192 } kc ks (some (.int r)) M' G) (rc48 : Int32 → Int32 → Int32 → Mm → Option (Int32 × Mm)) (hrc48 : ∀ (x1 : Int32) (x2 : Int32) (x3 : Int32) (M : Mm), rc48 x1 x2 x3 M = some (r, M') → G 48 [(0, .ref (adr E 0)), (1, .int x1), (2, .int x2), (3, .int x3)] [] M) : ∀ (n : Nat) (x1 : Int32) (x2 : Int32) (x3 : Int32) (x4 : Int32) (M : Mm), lp_M_fewest_0_57 rc48 n x1 x2 x3 x4 M = some (r, M') → G 57 [(0, .ref (adr E 0)), (1, .int x1), (2, .int x2), (3, .int x3), (4, .int x4)] [] M := by
  intro n
  induction n with
  | zero => intro x1 x2 x3 x4 M hf; cases hf
  | succ n ih => intro x1 x2 x3 x4 M hf; exact Lblp_M_fewest_0_57 l E T hG rc48 hrc48 (lp_M_fewest_0_57 rc48 n) ih x1 x2 x3 x4 M hf
set_option maxHeartbeats 4000000 in
set_option maxRecDepth 100000 in
theorem Lblp_M_fewest_0_48 (l : Launch) (E : En) (T : List Sk) {a0 b0 kc ks : Nat} {r : Int32} {M' : Mm} {G : Nat → List (Nat × Value) → List Value → Mm → Prop} (hG : RX l (SKM ++ T) E RX10 cX10_fewest 5 (some .int) { frames := 8, cells := a0, slots := b0, locals := 192 } kc ks (some (.int r)) M' G) (rc48 : Int32 → Int32 → Int32 → Mm → Option (Int32 × Mm)) (hrc48 : ∀ (x1 : Int32) (x2 : Int32) (x3 : Int32) (M : Mm), rc48 x1 x2 x3 M = some (r, M') → G 48 [(0, .ref (adr E 0)), (1, .int x1), (2, .int x2), (3, .int x3)] [] M) : ∀ (x1 : Int32) (x2 : Int32) (x3 : Int32) (M : Mm), blp_M_fewest_0_48 rc48 x1 x2 x3 M = some (r, M') → G 48 [(0, .ref (adr E 0)), (1, .int x1), (2, .int x2), (3, .int x3)] [] M := by
  intro x1 x2 x3 M hf
  unfold blp_M_fewest_0_48 at hf
  refine rx_iload_n hG dX10_fewest_48 3 rfl ?_
  refine rx_bipush hG 9 dX10_fewest_49 bp_9 ?_
  refine rx_icmp_gt hG 99 dX10_fewest_51 rfl (fun c1 => ?_) (fun c1 => ?_)
  · have hf := ifT hf c1
    refine rx_aload_n hG dX10_fewest_99 0 rfl ?_
    refine rx_bipush hG (-2) dX10_fewest_100 bp_m2 ?_
    obtain ⟨q2, hq2, hf⟩ := bindE hf
    refine rx_cVi hG (c_M_good_0 l E T (-2) hq2) (skM0 T) rfl rfl kw_M_245 ⟨Nat.le_of_ble_eq_true rfl, Nat.le_of_ble_eq_true rfl⟩ rfl (Nat.le_of_ble_eq_true rfl) dX10_fewest_102 ?_
    cases hf
    exact rx_iret hG dX10_fewest_105
  · have hf := ifF hf c1
    refine rx_iconst hG 0 dX10_fewest_54 ic_0 ?_
    refine rx_istore (lv2 := [(4, .int 0), (0, .ref (adr E 0)), (1, .int x1), (2, .int x2), (3, .int x3)]) hG dX10_fewest_55 (Nat.le_of_ble_eq_true rfl) rfl ?_
    refine rx_sub hG [1, 2, 3, 4, 0] (lv' := [(0, .ref (adr E 0)), (1, .int x1), (2, .int x2), (3, .int x3), (4, .int 0)]) rfl ?_
    exact Llp_M_fewest_0_57 l E T hG rc48 hrc48 FW x1 x2 x3 0 M hf
theorem Llp_M_fewest_0_48 (l : Launch) (E : En) (T : List Sk) {a0 b0 kc ks : Nat} {r : Int32} {M' : Mm} {G : Nat → List (Nat × Value) → List Value → Mm → Prop} (hG : RX l (SKM ++ T) E RX10 cX10_fewest 5 (some .int) { frames := 8, cells := a0, slots := b0, locals := 192 } kc ks (some (.int r)) M' G)  : ∀ (n : Nat) (x1 : Int32) (x2 : Int32) (x3 : Int32) (M : Mm), lp_M_fewest_0_48  n x1 x2 x3 M = some (r, M') → G 48 [(0, .ref (adr E 0)), (1, .int x1), (2, .int x2), (3, .int x3)] [] M := by
  intro n
  induction n with
  | zero => intro x1 x2 x3 M hf; cases hf
  | succ n ih => intro x1 x2 x3 M hf; exact Lblp_M_fewest_0_48 l E T hG  (lp_M_fewest_0_48  n) ih x1 x2 x3 M hf
set_option maxHeartbeats 4000000 in
set_option maxRecDepth 100000 in
theorem c_M_fewest_0 (l : Launch) (E : En) (T : List Sk) (p0 : Int32) (p1 : Int32) {M M' : Mm} {r : Int32} (h : f_M_fewest_0 p0 p1 M = some (r, M')) : Ct l (SKM ++ T) E yX10_fewest cX10_fewest 5 (some .int) 8 192 [.ref (adr E 0), .int p0, .int p1] M (some (.int r)) M' := by
  refine ct_of (by decide) (Nat.le_of_ble_eq_true rfl) ?_
  intro G hG
  show G 0 [(0, .ref (adr E 0)), (1, .int p0), (2, .int p1)] [] M
  have hf := h
  unfold f_M_fewest_0 at hf
  refine rx_aload_n hG dX10_fewest_0 0 rfl ?_
  refine rx_iconst hG 0 dX10_fewest_1 ic_0 ?_
  obtain ⟨M1, hM1, hf⟩ := bindE hf
  refine pfM_M_74_0 l E T hG hM1 dX10_fewest_2 ?_
  refine rx_aload_n hG dX10_fewest_5 0 rfl ?_
  refine gfM_M_257_0 l E T hG dX10_fewest_6 ?_
  refine rx_if_ne hG 18 dX10_fewest_9 rfl (fun c2 => ?_) (fun c2 => ?_)
  · have hf := ifF hf c2
    refine rx_iload_n hG dX10_fewest_18 1 rfl ?_
    refine rx_iconst hG 0 dX10_fewest_19 ic_0 ?_
    refine rx_sipush hG 9999 dX10_fewest_20 sp_9999 ?_
    obtain ⟨v3, hv3, hf⟩ := bindE hf
    refine rx_cSi hG (c_M_in l E (SKM ++ T) p0 0 9999 hv3) kw_M_95 ⟨Nat.le_of_ble_eq_true rfl, Nat.le_of_ble_eq_true rfl⟩ rfl (Nat.le_of_ble_eq_true rfl) dX10_fewest_23 ?_
    refine rx_if_eq hG 36 dX10_fewest_26 rfl (fun c4 => ?_) (fun c4 => ?_)
    · have hf := ifT hf c4
      refine rx_aload_n hG dX10_fewest_36 0 rfl ?_
      refine rx_iconst hG 2 dX10_fewest_37 ic_2 ?_
      obtain ⟨q5, hq5, hf⟩ := bindE hf
      refine rx_cVi hG (c_M_refused_0 l E T 2 hq5) (skM0 T) rfl rfl kw_M_232 ⟨Nat.le_of_ble_eq_true rfl, Nat.le_of_ble_eq_true rfl⟩ rfl (Nat.le_of_ble_eq_true rfl) dX10_fewest_38 ?_
      cases hf
      exact rx_iret hG dX10_fewest_41
    · have hf := ifF hf c4
      refine rx_iload_n hG dX10_fewest_29 2 rfl ?_
      obtain ⟨v6, hv6, hf⟩ := bindE hf
      refine rx_cSi hG (c_M_isTerm l E (SKM ++ T) p1 hv6) kw_M_348 ⟨Nat.le_of_ble_eq_true rfl, Nat.le_of_ble_eq_true rfl⟩ rfl (Nat.le_of_ble_eq_true rfl) dX10_fewest_30 ?_
      refine rx_if_ne hG 42 dX10_fewest_33 rfl (fun c7 => ?_) (fun c7 => ?_)
      · have hf := ifF hf c7
        refine rx_aload_n hG dX10_fewest_42 0 rfl ?_
        obtain ⟨M8, hM8, hf⟩ := bindE hf
        refine rx_cVv hG (c_M_papers_0 l E T  hM8) (skM0 T) rfl rfl kw_M_342 ⟨Nat.le_of_ble_eq_true rfl, Nat.le_of_ble_eq_true rfl⟩ rfl (Nat.le_of_ble_eq_true rfl) dX10_fewest_43 ?_
        refine rx_iconst hG 1 dX10_fewest_46 ic_1 ?_
        refine rx_istore_n (lv2 := [(3, .int 1), (0, .ref (adr E 0)), (1, .int p0), (2, .int p1)]) hG dX10_fewest_47 (Nat.le_of_ble_eq_true rfl) rfl ?_
        refine rx_sub hG [1, 2, 3, 0] (lv' := [(0, .ref (adr E 0)), (1, .int p0), (2, .int p1), (3, .int 1)]) rfl ?_
        exact Llp_M_fewest_0_48 l E T hG  FW p0 p1 1 M8 hf
      · have hf := ifT hf c7
        refine rx_aload_n hG dX10_fewest_36 0 rfl ?_
        refine rx_iconst hG 2 dX10_fewest_37 ic_2 ?_
        obtain ⟨q9, hq9, hf⟩ := bindE hf
        refine rx_cVi hG (c_M_refused_0 l E T 2 hq9) (skM0 T) rfl rfl kw_M_232 ⟨Nat.le_of_ble_eq_true rfl, Nat.le_of_ble_eq_true rfl⟩ rfl (Nat.le_of_ble_eq_true rfl) dX10_fewest_38 ?_
        cases hf
        exact rx_iret hG dX10_fewest_41
  · have hf := ifT hf c2
    refine rx_aload_n hG dX10_fewest_12 0 rfl ?_
    refine rx_iconst hG 1 dX10_fewest_13 ic_1 ?_
    obtain ⟨q10, hq10, hf⟩ := bindE hf
    refine rx_cVi hG (c_M_refused_0 l E T 1 hq10) (skM0 T) rfl rfl kw_M_232 ⟨Nat.le_of_ble_eq_true rfl, Nat.le_of_ble_eq_true rfl⟩ rfl (Nat.le_of_ble_eq_true rfl) dX10_fewest_14 ?_
    cases hf
    exact rx_iret hG dX10_fewest_17
set_option maxHeartbeats 4000000 in
set_option maxRecDepth 100000 in
theorem Lj_M_takesOut_0_121 (l : Launch) (E : En) (T : List Sk) {a0 b0 kc ks : Nat} {M' : Mm} {G : Nat → List (Nat × Value) → List Value → Mm → Prop} (hG : RX l (SKM ++ T) E RX10 cX10_takesOut 7 none { frames := 9, cells := a0, slots := b0, locals := 213 } kc ks none M' G) (rc8 : Int32 → Int32 → Int32 → Mm → Option Mm) (hrc8 : ∀ (x1 : Int32) (x2 : Int32) (x3 : Int32) (M : Mm), rc8 x1 x2 x3 M = some M' → G 8 [(0, .ref (adr E 0)), (1, .int x1), (2, .int x2), (3, .int x3)] [] M) : ∀ (x1 : Int32) (x2 : Int32) (x3 : Int32) (M : Mm), j_M_takesOut_0_121 rc8 x1 x2 x3 M = some M' → G 121 [(0, .ref (adr E 0)), (1, .int x1), (2, .int x2), (3, .int x3)] [] M := by
  intro x1 x2 x3 M hf
  unfold j_M_takesOut_0_121 at hf
  refine rx_goto hG 8 dX10_takesOut_121 rfl ?_
  exact hrc8 x1 x2 x3 M hf
set_option maxHeartbeats 4000000 in
set_option maxRecDepth 100000 in
theorem Lj_M_takesOut_0_115 (l : Launch) (E : En) (T : List Sk) {a0 b0 kc ks : Nat} {M' : Mm} {G : Nat → List (Nat × Value) → List Value → Mm → Prop} (hG : RX l (SKM ++ T) E RX10 cX10_takesOut 7 none { frames := 9, cells := a0, slots := b0, locals := 213 } kc ks none M' G) (rc17 : Int32 → Int32 → Int32 → Int32 → Mm → Option Mm) (hrc17 : ∀ (x1 : Int32) (x2 : Int32) (x3 : Int32) (x4 : Int32) (M : Mm), rc17 x1 x2 x3 x4 M = some M' → G 17 [(0, .ref (adr E 0)), (1, .int x1), (2, .int x2), (3, .int x3), (4, .int x4)] [] M) : ∀ (x1 : Int32) (x2 : Int32) (x3 : Int32) (x4 : Int32) (M : Mm), j_M_takesOut_0_115 rc17 x1 x2 x3 x4 M = some M' → G 115 [(0, .ref (adr E 0)), (1, .int x1), (2, .int x2), (3, .int x3), (4, .int x4)] [] M := by
  intro x1 x2 x3 x4 M hf
  unfold j_M_takesOut_0_115 at hf
  refine rx_iinc (lv2 := [(4, .int (x4 + 1)), (0, .ref (adr E 0)), (1, .int x1), (2, .int x2), (3, .int x3)]) hG 1 dX10_takesOut_115 ic_1 4 rfl (Nat.le_of_ble_eq_true rfl) rfl ?_
  refine rx_goto hG 17 dX10_takesOut_118 rfl ?_
  refine rx_sub hG [1, 2, 3, 4, 0] (lv' := [(0, .ref (adr E 0)), (1, .int x1), (2, .int x2), (3, .int x3), (4, .int (x4 + 1))]) rfl ?_
  exact hrc17 x1 x2 x3 (x4 + 1) M hf
set_option maxHeartbeats 4000000 in
set_option maxRecDepth 100000 in
theorem Lj_M_takesOut_0_109 (l : Launch) (E : En) (T : List Sk) {a0 b0 kc ks : Nat} {M' : Mm} {G : Nat → List (Nat × Value) → List Value → Mm → Prop} (hG : RX l (SKM ++ T) E RX10 cX10_takesOut 7 none { frames := 9, cells := a0, slots := b0, locals := 213 } kc ks none M' G) (rc29 : Int32 → Int32 → Int32 → Int32 → Int32 → Mm → Option Mm) (hrc29 : ∀ (x1 : Int32) (x2 : Int32) (x3 : Int32) (x4 : Int32) (x5 : Int32) (M : Mm), rc29 x1 x2 x3 x4 x5 M = some M' → G 29 [(0, .ref (adr E 0)), (1, .int x1), (2, .int x2), (3, .int x3), (4, .int x4), (5, .int x5)] [] M) : ∀ (x1 : Int32) (x2 : Int32) (x3 : Int32) (x4 : Int32) (x5 : Int32) (M : Mm), j_M_takesOut_0_109 rc29 x1 x2 x3 x4 x5 M = some M' → G 109 [(0, .ref (adr E 0)), (1, .int x1), (2, .int x2), (3, .int x3), (4, .int x4), (5, .int x5)] [] M := by
  intro x1 x2 x3 x4 x5 M hf
  unfold j_M_takesOut_0_109 at hf
  refine rx_iinc (lv2 := [(5, .int (x5 + 1)), (0, .ref (adr E 0)), (1, .int x1), (2, .int x2), (3, .int x3), (4, .int x4)]) hG 1 dX10_takesOut_109 ic_1 5 rfl (Nat.le_of_ble_eq_true rfl) rfl ?_
  refine rx_goto hG 29 dX10_takesOut_112 rfl ?_
  refine rx_sub hG [1, 2, 3, 4, 5, 0] (lv' := [(0, .ref (adr E 0)), (1, .int x1), (2, .int x2), (3, .int x3), (4, .int x4), (5, .int (x5 + 1))]) rfl ?_
  exact hrc29 x1 x2 x3 x4 (x5 + 1) M hf
set_option maxHeartbeats 4000000 in
set_option maxRecDepth 100000 in
theorem Lblp_M_takesOut_0_29 (l : Launch) (E : En) (T : List Sk) {a0 b0 kc ks : Nat} {M' : Mm} {G : Nat → List (Nat × Value) → List Value → Mm → Prop} (hG : RX l (SKM ++ T) E RX10 cX10_takesOut 7 none { frames := 9, cells := a0, slots := b0, locals := 213 } kc ks none M' G) (rc17 : Int32 → Int32 → Int32 → Int32 → Mm → Option Mm) (hrc17 : ∀ (x1 : Int32) (x2 : Int32) (x3 : Int32) (x4 : Int32) (M : Mm), rc17 x1 x2 x3 x4 M = some M' → G 17 [(0, .ref (adr E 0)), (1, .int x1), (2, .int x2), (3, .int x3), (4, .int x4)] [] M) (rc29 : Int32 → Int32 → Int32 → Int32 → Int32 → Mm → Option Mm) (hrc29 : ∀ (x1 : Int32) (x2 : Int32) (x3 : Int32) (x4 : Int32) (x5 : Int32) (M : Mm), rc29 x1 x2 x3 x4 x5 M = some M' → G 29 [(0, .ref (adr E 0)), (1, .int x1), (2, .int x2), (3, .int x3), (4, .int x4), (5, .int x5)] [] M) : ∀ (x1 : Int32) (x2 : Int32) (x3 : Int32) (x4 : Int32) (x5 : Int32) (M : Mm), blp_M_takesOut_0_29 rc17 rc29 x1 x2 x3 x4 x5 M = some M' → G 29 [(0, .ref (adr E 0)), (1, .int x1), (2, .int x2), (3, .int x3), (4, .int x4), (5, .int x5)] [] M := by
  intro x1 x2 x3 x4 x5 M hf
  unfold blp_M_takesOut_0_29 at hf
  refine rx_iload hG dX10_takesOut_29 5 rfl ?_
  refine rx_aload_n hG dX10_takesOut_31 0 rfl ?_
  refine gfM_M_248_0 l E T hG dX10_takesOut_32 ?_
  refine rx_icmp_ge hG 115 dX10_takesOut_35 rfl (fun c1 => ?_) (fun c1 => ?_)
  · have hf := ifT hf c1
    refine rx_sub hG [0, 1, 2, 3, 4] (lv' := [(0, .ref (adr E 0)), (1, .int x1), (2, .int x2), (3, .int x3), (4, .int x4)]) rfl ?_
    exact Lj_M_takesOut_0_115 l E T hG rc17 hrc17 x1 x2 x3 x4 M hf
  · have hf := ifF hf c1
    refine rx_aload_n hG dX10_takesOut_38 0 rfl ?_
    refine gfM_M_48_0 l E T hG dX10_takesOut_39 ?_
    refine rx_iconst hG 3 dX10_takesOut_42 ic_3 ?_
    refine rx_iload hG dX10_takesOut_43 4 rfl ?_
    refine rx_imul hG dX10_takesOut_45 ?_
    refine rx_iload hG dX10_takesOut_46 5 rfl ?_
    refine rx_iadd hG dX10_takesOut_48 ?_
    obtain ⟨v2, hv2, hf⟩ := bindE hf
    refine rx_iald hG (skM12 T) hv2 dX10_takesOut_49 ?_
    refine rx_if_ne hG 56 dX10_takesOut_50 rfl (fun c3 => ?_) (fun c3 => ?_)
    · have hf := ifF hf c3
      refine rx_aload_n hG dX10_takesOut_56 0 rfl ?_
      refine gfM_M_48_0 l E T hG dX10_takesOut_57 ?_
      refine rx_iconst hG 3 dX10_takesOut_60 ic_3 ?_
      refine rx_iload hG dX10_takesOut_61 4 rfl ?_
      refine rx_imul hG dX10_takesOut_63 ?_
      refine rx_iload hG dX10_takesOut_64 5 rfl ?_
      refine rx_iadd hG dX10_takesOut_66 ?_
      refine rx_dup2 hG dX10_takesOut_67 rfl rfl ?_
      obtain ⟨v4, hv4, hf⟩ := bindE hf
      refine rx_iald hG (skM12 T) hv4 dX10_takesOut_68 ?_
      refine rx_iconst hG 1 dX10_takesOut_69 ic_1 ?_
      refine rx_isub hG dX10_takesOut_70 ?_
      obtain ⟨M5, hM5, hf⟩ := bindE hf
      refine rx_iast hG (skM12 T) hM5 dX10_takesOut_71 ?_
      refine rx_aload_n hG dX10_takesOut_72 0 rfl ?_
      refine rx_iload_n hG dX10_takesOut_73 1 rfl ?_
      obtain ⟨q6, hq6, hf⟩ := bindE hf
      refine rx_cVi hG (c_M_yieldOf_0 l E T x1 hq6) (skM0 T) rfl rfl kw_M_345 ⟨Nat.le_of_ble_eq_true rfl, Nat.le_of_ble_eq_true rfl⟩ rfl (Nat.le_of_ble_eq_true rfl) dX10_takesOut_74 ?_
      refine rx_istore (lv2 := [(6, .int q6.1), (0, .ref (adr E 0)), (1, .int x1), (2, .int x2), (3, .int x3), (4, .int x4), (5, .int x5)]) hG dX10_takesOut_77 (Nat.le_of_ble_eq_true rfl) rfl ?_
      refine rx_iload hG dX10_takesOut_79 0 rfl ?_
      refine rx_iload_n hG dX10_takesOut_81 3 rfl ?_
      refine rx_icmp_ge hG 104 dX10_takesOut_82 rfl (fun c7 => ?_) (fun c7 => ?_)
      · have hf := ifT hf c7
        refine rx_iload hG dX10_takesOut_104 0 rfl ?_
        refine rx_istore_n (lv2 := [(2, .int q6.1), (6, .int q6.1), (0, .ref (adr E 0)), (1, .int x1), (3, .int x3), (4, .int x4), (5, .int x5)]) hG dX10_takesOut_106 (Nat.le_of_ble_eq_true rfl) rfl ?_
        refine rx_iconst hG 1 dX10_takesOut_107 ic_1 ?_
        refine rx_istore_n (lv2 := [(3, .int 1), (2, .int q6.1), (6, .int q6.1), (0, .ref (adr E 0)), (1, .int x1), (4, .int x4), (5, .int x5)]) hG dX10_takesOut_108 (Nat.le_of_ble_eq_true rfl) rfl ?_
        refine rx_sub hG [3, 4, 1, 0, 5, 6] (lv' := [(0, .ref (adr E 0)), (1, .int x1), (2, .int q6.1), (3, .int 1), (4, .int x4), (5, .int x5)]) rfl ?_
        exact Lj_M_takesOut_0_109 l E T hG rc29 hrc29 x1 q6.1 1 x4 x5 q6.2 hf
      · have hf := ifF hf c7
        refine rx_aload_n hG dX10_takesOut_85 1 rfl ?_
        refine gfM_M_48_0 l E T hG dX10_takesOut_86 ?_
        refine rx_iconst hG 3 dX10_takesOut_89 ic_3 ?_
        refine rx_iload hG dX10_takesOut_90 5 rfl ?_
        refine rx_imul hG dX10_takesOut_92 ?_
        refine rx_iload hG dX10_takesOut_93 6 rfl ?_
        refine rx_iadd hG dX10_takesOut_95 ?_
        refine rx_dup2 hG dX10_takesOut_96 rfl rfl ?_
        obtain ⟨v8, hv8, hf⟩ := bindE hf
        refine rx_iald hG (skM12 T) hv8 dX10_takesOut_97 ?_
        refine rx_iconst hG 1 dX10_takesOut_98 ic_1 ?_
        refine rx_iadd hG dX10_takesOut_99 ?_
        obtain ⟨M9, hM9, hf⟩ := bindE hf
        refine rx_iast hG (skM12 T) hM9 dX10_takesOut_100 ?_
        refine rx_goto hG 109 dX10_takesOut_101 rfl ?_
        refine rx_sub hG [1, 2, 3, 4, 5, 6] (lv' := [(0, .ref (adr E 0)), (1, .int x1), (2, .int x2), (3, .int x3), (4, .int x4), (5, .int x5)]) rfl ?_
        exact Lj_M_takesOut_0_109 l E T hG rc29 hrc29 x1 x2 x3 x4 x5 M9 hf
    · have hf := ifT hf c3
      refine rx_goto hG 109 dX10_takesOut_53 rfl ?_
      exact Lj_M_takesOut_0_109 l E T hG rc29 hrc29 x1 x2 x3 x4 x5 M hf
theorem Llp_M_takesOut_0_29 (l : Launch) (E : En) (T : List Sk) {a0 b0 kc ks : Nat} {M' : Mm} {G : Nat → List (Nat × Value) → List Value → Mm → Prop} (hG : RX l (SKM ++ T) E RX10 cX10_takesOut 7 none { frames := 9, cells := a0, slots := b0, locals := 213 } kc ks none M' G) (rc17 : Int32 → Int32 → Int32 → Int32 → Mm → Option Mm) (hrc17 : ∀ (x1 : Int32) (x2 : Int32) (x3 : Int32) (x4 : Int32) (M : Mm), rc17 x1 x2 x3 x4 M = some M' → G 17 [(0, .ref (adr E 0)), (1, .int x1), (2, .int x2), (3, .int x3), (4, .int x4)] [] M) : ∀ (n : Nat) (x1 : Int32) (x2 : Int32) (x3 : Int32) (x4 : Int32) (x5 : Int32) (M : Mm), lp_M_takesOut_0_29 rc17 n x1 x2 x3 x4 x5 M = some M' → G 29 [(0, .ref (adr E 0)), (1, .int x1), (2, .int x2), (3, .int x3), (4, .int x4), (5, .int x5)] [] M := by
  intro n
  induction n with
  | zero => intro x1 x2 x3 x4 x5 M hf; cases hf
  | succ n ih => intro x1 x2 x3 x4 x5 M hf; exact Lblp_M_takesOut_0_29 l E T hG rc17 hrc17 (lp_M_takesOut_0_29 rc17 n) ih x1 x2 x3 x4 x5 M hf
set_option maxHeartbeats 4000000 in
set_option maxRecDepth 100000 in
theorem Lblp_M_takesOut_0_17 (l : Launch) (E : En) (T : List Sk) {a0 b0 kc ks : Nat} {M' : Mm} {G : Nat → List (Nat × Value) → List Value → Mm → Prop} (hG : RX l (SKM ++ T) E RX10 cX10_takesOut 7 none { frames := 9, cells := a0, slots := b0, locals := 213 } kc ks none M' G) (rc8 : Int32 → Int32 → Int32 → Mm → Option Mm) (hrc8 : ∀ (x1 : Int32) (x2 : Int32) (x3 : Int32) (M : Mm), rc8 x1 x2 x3 M = some M' → G 8 [(0, .ref (adr E 0)), (1, .int x1), (2, .int x2), (3, .int x3)] [] M) (rc17 : Int32 → Int32 → Int32 → Int32 → Mm → Option Mm) (hrc17 : ∀ (x1 : Int32) (x2 : Int32) (x3 : Int32) (x4 : Int32) (M : Mm), rc17 x1 x2 x3 x4 M = some M' → G 17 [(0, .ref (adr E 0)), (1, .int x1), (2, .int x2), (3, .int x3), (4, .int x4)] [] M) : ∀ (x1 : Int32) (x2 : Int32) (x3 : Int32) (x4 : Int32) (M : Mm), blp_M_takesOut_0_17 rc8 rc17 x1 x2 x3 x4 M = some M' → G 17 [(0, .ref (adr E 0)), (1, .int x1), (2, .int x2), (3, .int x3), (4, .int x4)] [] M := by
  intro x1 x2 x3 x4 M hf
  unfold blp_M_takesOut_0_17 at hf
  refine rx_iload hG dX10_takesOut_17 4 rfl ?_
  refine rx_aload_n hG dX10_takesOut_19 0 rfl ?_
  refine gfM_M_242_0 l E T hG dX10_takesOut_20 ?_
  refine rx_icmp_ge hG 121 dX10_takesOut_23 rfl (fun c1 => ?_) (fun c1 => ?_)
  · have hf := ifT hf c1
    refine rx_sub hG [0, 1, 2, 3] (lv' := [(0, .ref (adr E 0)), (1, .int x1), (2, .int x2), (3, .int x3)]) rfl ?_
    exact Lj_M_takesOut_0_121 l E T hG rc8 hrc8 x1 x2 x3 M hf
  · have hf := ifF hf c1
    refine rx_iconst hG 0 dX10_takesOut_26 ic_0 ?_
    refine rx_istore (lv2 := [(5, .int 0), (0, .ref (adr E 0)), (1, .int x1), (2, .int x2), (3, .int x3), (4, .int x4)]) hG dX10_takesOut_27 (Nat.le_of_ble_eq_true rfl) rfl ?_
    refine rx_sub hG [1, 2, 3, 4, 5, 0] (lv' := [(0, .ref (adr E 0)), (1, .int x1), (2, .int x2), (3, .int x3), (4, .int x4), (5, .int 0)]) rfl ?_
    exact Llp_M_takesOut_0_29 l E T hG rc17 hrc17 FW x1 x2 x3 x4 0 M hf
theorem Llp_M_takesOut_0_17 (l : Launch) (E : En) (T : List Sk) {a0 b0 kc ks : Nat} {M' : Mm} {G : Nat → List (Nat × Value) → List Value → Mm → Prop} (hG : RX l (SKM ++ T) E RX10 cX10_takesOut 7 none { frames := 9, cells := a0, slots := b0, locals := 213 } kc ks none M' G) (rc8 : Int32 → Int32 → Int32 → Mm → Option Mm) (hrc8 : ∀ (x1 : Int32) (x2 : Int32) (x3 : Int32) (M : Mm), rc8 x1 x2 x3 M = some M' → G 8 [(0, .ref (adr E 0)), (1, .int x1), (2, .int x2), (3, .int x3)] [] M) : ∀ (n : Nat) (x1 : Int32) (x2 : Int32) (x3 : Int32) (x4 : Int32) (M : Mm), lp_M_takesOut_0_17 rc8 n x1 x2 x3 x4 M = some M' → G 17 [(0, .ref (adr E 0)), (1, .int x1), (2, .int x2), (3, .int x3), (4, .int x4)] [] M := by
  intro n
  induction n with
  | zero => intro x1 x2 x3 x4 M hf; cases hf
  | succ n ih => intro x1 x2 x3 x4 M hf; exact Lblp_M_takesOut_0_17 l E T hG rc8 hrc8 (lp_M_takesOut_0_17 rc8 n) ih x1 x2 x3 x4 M hf
set_option maxHeartbeats 4000000 in
set_option maxRecDepth 100000 in
theorem Lblp_M_takesOut_0_8 (l : Launch) (E : En) (T : List Sk) {a0 b0 kc ks : Nat} {M' : Mm} {G : Nat → List (Nat × Value) → List Value → Mm → Prop} (hG : RX l (SKM ++ T) E RX10 cX10_takesOut 7 none { frames := 9, cells := a0, slots := b0, locals := 213 } kc ks none M' G) (rc8 : Int32 → Int32 → Int32 → Mm → Option Mm) (hrc8 : ∀ (x1 : Int32) (x2 : Int32) (x3 : Int32) (M : Mm), rc8 x1 x2 x3 M = some M' → G 8 [(0, .ref (adr E 0)), (1, .int x1), (2, .int x2), (3, .int x3)] [] M) : ∀ (x1 : Int32) (x2 : Int32) (x3 : Int32) (M : Mm), blp_M_takesOut_0_8 rc8 x1 x2 x3 M = some M' → G 8 [(0, .ref (adr E 0)), (1, .int x1), (2, .int x2), (3, .int x3)] [] M := by
  intro x1 x2 x3 M hf
  unfold blp_M_takesOut_0_8 at hf
  refine rx_iload_n hG dX10_takesOut_8 3 rfl ?_
  refine rx_if_eq hG 124 dX10_takesOut_9 rfl (fun c1 => ?_) (fun c1 => ?_)
  · have hf := ifT hf c1
    cases hf
    exact rx_vret hG dX10_takesOut_124
  · have hf := ifF hf c1
    refine rx_iconst hG 0 dX10_takesOut_12 ic_0 ?_
    refine rx_istore_n (lv2 := [(3, .int 0), (0, .ref (adr E 0)), (1, .int x1), (2, .int x2)]) hG dX10_takesOut_13 (Nat.le_of_ble_eq_true rfl) rfl ?_
    refine rx_iconst hG 0 dX10_takesOut_14 ic_0 ?_
    refine rx_istore (lv2 := [(4, .int 0), (3, .int 0), (0, .ref (adr E 0)), (1, .int x1), (2, .int x2)]) hG dX10_takesOut_15 (Nat.le_of_ble_eq_true rfl) rfl ?_
    refine rx_sub hG [2, 3, 4, 1, 0] (lv' := [(0, .ref (adr E 0)), (1, .int x1), (2, .int x2), (3, .int 0), (4, .int 0)]) rfl ?_
    exact Llp_M_takesOut_0_17 l E T hG rc8 hrc8 FW x1 x2 0 0 M hf
theorem Llp_M_takesOut_0_8 (l : Launch) (E : En) (T : List Sk) {a0 b0 kc ks : Nat} {M' : Mm} {G : Nat → List (Nat × Value) → List Value → Mm → Prop} (hG : RX l (SKM ++ T) E RX10 cX10_takesOut 7 none { frames := 9, cells := a0, slots := b0, locals := 213 } kc ks none M' G)  : ∀ (n : Nat) (x1 : Int32) (x2 : Int32) (x3 : Int32) (M : Mm), lp_M_takesOut_0_8  n x1 x2 x3 M = some M' → G 8 [(0, .ref (adr E 0)), (1, .int x1), (2, .int x2), (3, .int x3)] [] M := by
  intro n
  induction n with
  | zero => intro x1 x2 x3 M hf; cases hf
  | succ n ih => intro x1 x2 x3 M hf; exact Lblp_M_takesOut_0_8 l E T hG  (lp_M_takesOut_0_8  n) ih x1 x2 x3 M hf
set_option maxHeartbeats 4000000 in
set_option maxRecDepth 100000 in
theorem c_M_takesOut_0 (l : Launch) (E : En) (T : List Sk) (p0 : Int32) {M M' : Mm} (h : f_M_takesOut_0 p0 M = some M') : Ct l (SKM ++ T) E yX10_takesOut cX10_takesOut 7 none 9 213 [.ref (adr E 0), .int p0] M none M' := by
  refine ct_of (by decide) (Nat.le_of_ble_eq_true rfl) ?_
  intro G hG
  show G 0 [(0, .ref (adr E 0)), (1, .int p0)] [] M
  have hf := h
  unfold f_M_takesOut_0 at hf
  refine rx_aload_n hG dX10_takesOut_0 0 rfl ?_
  refine rx_iload_n hG dX10_takesOut_1 1 rfl ?_
  obtain ⟨q1, hq1, hf⟩ := bindE hf
  refine rx_cVi hG (c_M_yieldNow_0 l E T p0 hq1) (skM0 T) rfl rfl kw_M_351 ⟨Nat.le_of_ble_eq_true rfl, Nat.le_of_ble_eq_true rfl⟩ rfl (Nat.le_of_ble_eq_true rfl) dX10_takesOut_2 ?_
  refine rx_istore_n (lv2 := [(2, .int q1.1), (0, .ref (adr E 0)), (1, .int p0)]) hG dX10_takesOut_5 (Nat.le_of_ble_eq_true rfl) rfl ?_
  refine rx_iconst hG 1 dX10_takesOut_6 ic_1 ?_
  refine rx_istore_n (lv2 := [(3, .int 1), (2, .int q1.1), (0, .ref (adr E 0)), (1, .int p0)]) hG dX10_takesOut_7 (Nat.le_of_ble_eq_true rfl) rfl ?_
  refine rx_sub hG [2, 3, 1, 0] (lv' := [(0, .ref (adr E 0)), (1, .int p0), (2, .int q1.1), (3, .int 1)]) rfl ?_
  exact Llp_M_takesOut_0_8 l E T hG  FW p0 q1.1 1 q1.2 hf
set_option maxHeartbeats 4000000 in
set_option maxRecDepth 100000 in
theorem Lj_M_thin_0_80 (l : Launch) (E : En) (T : List Sk) {a0 b0 kc ks : Nat} {r : Int32} {M' : Mm} {G : Nat → List (Nat × Value) → List Value → Mm → Prop} (hG : RX l (SKM ++ T) E RX10 cX10_thin 5 (some .int) { frames := 10, cells := a0, slots := b0, locals := 239 } kc ks (some (.int r)) M' G) (rc40 : Int32 → Int32 → Mm → Option (Int32 × Mm)) (hrc40 : ∀ (x2 : Int32) (x3 : Int32) (M : Mm), rc40 x2 x3 M = some (r, M') → G 40 [(0, .ref (adr E 0)), (2, .int x2), (3, .int x3)] [] M) : ∀ (x2 : Int32) (x3 : Int32) (M : Mm), j_M_thin_0_80 rc40 x2 x3 M = some (r, M') → G 80 [(0, .ref (adr E 0)), (2, .int x2), (3, .int x3)] [] M := by
  intro x2 x3 M hf
  unfold j_M_thin_0_80 at hf
  refine rx_iinc (lv2 := [(3, .int (x3 + 1)), (0, .ref (adr E 0)), (2, .int x2)]) hG 1 dX10_thin_80 ic_1 2 rfl (Nat.le_of_ble_eq_true rfl) rfl ?_
  refine rx_goto hG 40 dX10_thin_83 rfl ?_
  refine rx_sub hG [1, 2, 0] (lv' := [(0, .ref (adr E 0)), (2, .int x2), (3, .int (x3 + 1))]) rfl ?_
  exact hrc40 x2 (x3 + 1) M hf
set_option maxHeartbeats 4000000 in
set_option maxRecDepth 100000 in
theorem Lblp_M_thin_0_51 (l : Launch) (E : En) (T : List Sk) {a0 b0 kc ks : Nat} {r : Int32} {M' : Mm} {G : Nat → List (Nat × Value) → List Value → Mm → Prop} (hG : RX l (SKM ++ T) E RX10 cX10_thin 5 (some .int) { frames := 10, cells := a0, slots := b0, locals := 239 } kc ks (some (.int r)) M' G) (rc40 : Int32 → Int32 → Mm → Option (Int32 × Mm)) (hrc40 : ∀ (x2 : Int32) (x3 : Int32) (M : Mm), rc40 x2 x3 M = some (r, M') → G 40 [(0, .ref (adr E 0)), (2, .int x2), (3, .int x3)] [] M) (rc51 : Int32 → Int32 → Int32 → Mm → Option (Int32 × Mm)) (hrc51 : ∀ (x2 : Int32) (x3 : Int32) (x4 : Int32) (M : Mm), rc51 x2 x3 x4 M = some (r, M') → G 51 [(0, .ref (adr E 0)), (2, .int x2), (3, .int x3), (4, .int x4)] [] M) : ∀ (x2 : Int32) (x3 : Int32) (x4 : Int32) (M : Mm), blp_M_thin_0_51 rc40 rc51 x2 x3 x4 M = some (r, M') → G 51 [(0, .ref (adr E 0)), (2, .int x2), (3, .int x3), (4, .int x4)] [] M := by
  intro x2 x3 x4 M hf
  unfold blp_M_thin_0_51 at hf
  refine rx_iload hG dX10_thin_51 3 rfl ?_
  refine rx_aload_n hG dX10_thin_53 0 rfl ?_
  refine gfM_M_248_0 l E T hG dX10_thin_54 ?_
  refine rx_icmp_ge hG 80 dX10_thin_57 rfl (fun c1 => ?_) (fun c1 => ?_)
  · have hf := ifT hf c1
    refine rx_sub hG [0, 1, 2] (lv' := [(0, .ref (adr E 0)), (2, .int x2), (3, .int x3)]) rfl ?_
    exact Lj_M_thin_0_80 l E T hG rc40 hrc40 x2 x3 M hf
  · have hf := ifF hf c1
    refine rx_iload_n hG dX10_thin_60 1 rfl ?_
    refine rx_aload_n hG dX10_thin_61 0 rfl ?_
    refine gfM_M_48_0 l E T hG dX10_thin_62 ?_
    refine rx_iconst hG 3 dX10_thin_65 ic_3 ?_
    refine rx_iload_n hG dX10_thin_66 2 rfl ?_
    refine rx_imul hG dX10_thin_67 ?_
    refine rx_iload hG dX10_thin_68 3 rfl ?_
    refine rx_iadd hG dX10_thin_70 ?_
    obtain ⟨v2, hv2, hf⟩ := bindE hf
    refine rx_iald hG (skM12 T) hv2 dX10_thin_71 ?_
    refine rx_iadd hG dX10_thin_72 ?_
    refine rx_istore_n (lv2 := [(2, .int (x2 + v2)), (0, .ref (adr E 0)), (3, .int x3), (4, .int x4)]) hG dX10_thin_73 (Nat.le_of_ble_eq_true rfl) rfl ?_
    refine rx_iinc (lv2 := [(4, .int (x4 + 1)), (2, .int (x2 + v2)), (0, .ref (adr E 0)), (3, .int x3)]) hG 1 dX10_thin_74 ic_1 3 rfl (Nat.le_of_ble_eq_true rfl) rfl ?_
    refine rx_goto hG 51 dX10_thin_77 rfl ?_
    refine rx_sub hG [2, 1, 3, 0] (lv' := [(0, .ref (adr E 0)), (2, .int (x2 + v2)), (3, .int x3), (4, .int (x4 + 1))]) rfl ?_
    exact hrc51 (x2 + v2) x3 (x4 + 1) M hf
theorem Llp_M_thin_0_51 (l : Launch) (E : En) (T : List Sk) {a0 b0 kc ks : Nat} {r : Int32} {M' : Mm} {G : Nat → List (Nat × Value) → List Value → Mm → Prop} (hG : RX l (SKM ++ T) E RX10 cX10_thin 5 (some .int) { frames := 10, cells := a0, slots := b0, locals := 239 } kc ks (some (.int r)) M' G) (rc40 : Int32 → Int32 → Mm → Option (Int32 × Mm)) (hrc40 : ∀ (x2 : Int32) (x3 : Int32) (M : Mm), rc40 x2 x3 M = some (r, M') → G 40 [(0, .ref (adr E 0)), (2, .int x2), (3, .int x3)] [] M) : ∀ (n : Nat) (x2 : Int32) (x3 : Int32) (x4 : Int32) (M : Mm), lp_M_thin_0_51 rc40 n x2 x3 x4 M = some (r, M') → G 51 [(0, .ref (adr E 0)), (2, .int x2), (3, .int x3), (4, .int x4)] [] M := by
  intro n
  induction n with
  | zero => intro x2 x3 x4 M hf; cases hf
  | succ n ih => intro x2 x3 x4 M hf; exact Lblp_M_thin_0_51 l E T hG rc40 hrc40 (lp_M_thin_0_51 rc40 n) ih x2 x3 x4 M hf
set_option maxHeartbeats 4000000 in
set_option maxRecDepth 100000 in
theorem Lblp_M_thin_0_40 (l : Launch) (E : En) (T : List Sk) {a0 b0 kc ks : Nat} {r : Int32} {M' : Mm} {G : Nat → List (Nat × Value) → List Value → Mm → Prop} (hG : RX l (SKM ++ T) E RX10 cX10_thin 5 (some .int) { frames := 10, cells := a0, slots := b0, locals := 239 } kc ks (some (.int r)) M' G) (rc40 : Int32 → Int32 → Mm → Option (Int32 × Mm)) (hrc40 : ∀ (x2 : Int32) (x3 : Int32) (M : Mm), rc40 x2 x3 M = some (r, M') → G 40 [(0, .ref (adr E 0)), (2, .int x2), (3, .int x3)] [] M) : ∀ (x2 : Int32) (x3 : Int32) (M : Mm), blp_M_thin_0_40 rc40 x2 x3 M = some (r, M') → G 40 [(0, .ref (adr E 0)), (2, .int x2), (3, .int x3)] [] M := by
  intro x2 x3 M hf
  unfold blp_M_thin_0_40 at hf
  refine rx_iload_n hG dX10_thin_40 2 rfl ?_
  refine rx_aload_n hG dX10_thin_41 0 rfl ?_
  refine gfM_M_242_0 l E T hG dX10_thin_42 ?_
  refine rx_icmp_ge hG 86 dX10_thin_45 rfl (fun c1 => ?_) (fun c1 => ?_)
  · have hf := ifT hf c1
    refine rx_aload_n hG dX10_thin_86 0 rfl ?_
    refine rx_iload_n hG dX10_thin_87 1 rfl ?_
    obtain ⟨q2, hq2, hf⟩ := bindE hf
    refine rx_cVi hG (c_M_good_0 l E T x2 hq2) (skM0 T) rfl rfl kw_M_245 ⟨Nat.le_of_ble_eq_true rfl, Nat.le_of_ble_eq_true rfl⟩ rfl (Nat.le_of_ble_eq_true rfl) dX10_thin_88 ?_
    cases hf
    exact rx_iret hG dX10_thin_91
  · have hf := ifF hf c1
    refine rx_iconst hG 0 dX10_thin_48 ic_0 ?_
    refine rx_istore (lv2 := [(4, .int 0), (0, .ref (adr E 0)), (2, .int x2), (3, .int x3)]) hG dX10_thin_49 (Nat.le_of_ble_eq_true rfl) rfl ?_
    refine rx_sub hG [1, 2, 3, 0] (lv' := [(0, .ref (adr E 0)), (2, .int x2), (3, .int x3), (4, .int 0)]) rfl ?_
    exact Llp_M_thin_0_51 l E T hG rc40 hrc40 FW x2 x3 0 M hf
theorem Llp_M_thin_0_40 (l : Launch) (E : En) (T : List Sk) {a0 b0 kc ks : Nat} {r : Int32} {M' : Mm} {G : Nat → List (Nat × Value) → List Value → Mm → Prop} (hG : RX l (SKM ++ T) E RX10 cX10_thin 5 (some .int) { frames := 10, cells := a0, slots := b0, locals := 239 } kc ks (some (.int r)) M' G)  : ∀ (n : Nat) (x2 : Int32) (x3 : Int32) (M : Mm), lp_M_thin_0_40  n x2 x3 M = some (r, M') → G 40 [(0, .ref (adr E 0)), (2, .int x2), (3, .int x3)] [] M := by
  intro n
  induction n with
  | zero => intro x2 x3 M hf; cases hf
  | succ n ih => intro x2 x3 M hf; exact Lblp_M_thin_0_40 l E T hG  (lp_M_thin_0_40  n) ih x2 x3 M hf
set_option maxHeartbeats 4000000 in
set_option maxRecDepth 100000 in
theorem c_M_thin_0 (l : Launch) (E : En) (T : List Sk) (p0 : Int32) {M M' : Mm} {r : Int32} (h : f_M_thin_0 p0 M = some (r, M')) : Ct l (SKM ++ T) E yX10_thin cX10_thin 5 (some .int) 10 239 [.ref (adr E 0), .int p0] M (some (.int r)) M' := by
  refine ct_of (by decide) (Nat.le_of_ble_eq_true rfl) ?_
  intro G hG
  show G 0 [(0, .ref (adr E 0)), (1, .int p0)] [] M
  have hf := h
  unfold f_M_thin_0 at hf
  refine rx_aload_n hG dX10_thin_0 0 rfl ?_
  refine rx_iconst hG 0 dX10_thin_1 ic_0 ?_
  obtain ⟨M1, hM1, hf⟩ := bindE hf
  refine pfM_M_74_0 l E T hG hM1 dX10_thin_2 ?_
  refine rx_aload_n hG dX10_thin_5 0 rfl ?_
  refine gfM_M_257_0 l E T hG dX10_thin_6 ?_
  refine rx_if_ne hG 18 dX10_thin_9 rfl (fun c2 => ?_) (fun c2 => ?_)
  · have hf := ifF hf c2
    refine rx_iload_n hG dX10_thin_18 1 rfl ?_
    obtain ⟨v3, hv3, hf⟩ := bindE hf
    refine rx_cSi hG (c_M_isTerm l E (SKM ++ T) p0 hv3) kw_M_348 ⟨Nat.le_of_ble_eq_true rfl, Nat.le_of_ble_eq_true rfl⟩ rfl (Nat.le_of_ble_eq_true rfl) dX10_thin_19 ?_
    refine rx_if_ne hG 31 dX10_thin_22 rfl (fun c4 => ?_) (fun c4 => ?_)
    · have hf := ifF hf c4
      refine rx_aload_n hG dX10_thin_31 0 rfl ?_
      refine rx_iload_n hG dX10_thin_32 1 rfl ?_
      obtain ⟨M5, hM5, hf⟩ := bindE hf
      refine rx_cVv hG (c_M_takesOut_0 l E T p0 hM5) (skM0 T) rfl rfl kw_M_354 ⟨Nat.le_of_ble_eq_true rfl, Nat.le_of_ble_eq_true rfl⟩ rfl (Nat.le_of_ble_eq_true rfl) dX10_thin_33 ?_
      refine rx_iconst hG 0 dX10_thin_36 ic_0 ?_
      refine rx_istore_n (lv2 := [(2, .int 0), (0, .ref (adr E 0)), (1, .int p0)]) hG dX10_thin_37 (Nat.le_of_ble_eq_true rfl) rfl ?_
      refine rx_iconst hG 0 dX10_thin_38 ic_0 ?_
      refine rx_istore_n (lv2 := [(3, .int 0), (2, .int 0), (0, .ref (adr E 0)), (1, .int p0)]) hG dX10_thin_39 (Nat.le_of_ble_eq_true rfl) rfl ?_
      refine rx_sub hG [2, 1, 0] (lv' := [(0, .ref (adr E 0)), (2, .int 0), (3, .int 0)]) rfl ?_
      exact Llp_M_thin_0_40 l E T hG  FW 0 0 M5 hf
    · have hf := ifT hf c4
      refine rx_aload_n hG dX10_thin_25 0 rfl ?_
      refine rx_iconst hG 2 dX10_thin_26 ic_2 ?_
      obtain ⟨q6, hq6, hf⟩ := bindE hf
      refine rx_cVi hG (c_M_refused_0 l E T 2 hq6) (skM0 T) rfl rfl kw_M_232 ⟨Nat.le_of_ble_eq_true rfl, Nat.le_of_ble_eq_true rfl⟩ rfl (Nat.le_of_ble_eq_true rfl) dX10_thin_27 ?_
      cases hf
      exact rx_iret hG dX10_thin_30
  · have hf := ifT hf c2
    refine rx_aload_n hG dX10_thin_12 0 rfl ?_
    refine rx_iconst hG 1 dX10_thin_13 ic_1 ?_
    obtain ⟨q7, hq7, hf⟩ := bindE hf
    refine rx_cVi hG (c_M_refused_0 l E T 1 hq7) (skM0 T) rfl rfl kw_M_232 ⟨Nat.le_of_ble_eq_true rfl, Nat.le_of_ble_eq_true rfl⟩ rfl (Nat.le_of_ble_eq_true rfl) dX10_thin_14 ?_
    cases hf
    exact rx_iret hG dX10_thin_17

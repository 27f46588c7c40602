set_option maxHeartbeats 4000000 in
set_option maxRecDepth 100000 in
theorem c_P_peak_0 (l : Launch) (E : En) (T : List Sk) (p0 : Int32) {M M' : Mm} {r : Int32} (h : f_P_peak_0 p0 M = some (r, M')) : Ct l (SKX ++ T) E yX9_peak cX9_peak 2 (some .int) 2 42 [.ref (adr E 0), .int p0] M (some (.int r)) M' := by
  refine ct_of (by decide) (Nat.le_of_ble_eq_true rfl) ?_
  intro G hG
  show G 0 [(0, .ref (adr E 0)), (1, .int p0)] [] M
  have hf := h
  unfold f_P_peak_0 at hf
  refine rx_aload_n hG dX9_peak_0 0 rfl ?_
  refine rx_iload_n hG dX9_peak_1 1 rfl ?_
  obtain ⟨v1, hv1, hf⟩ := bindE hf
  refine rx_cVi hG (c_P_isBench_0 l E T p0 hv1) (skX0 T) rfl rfl kw_P_150 ⟨Nat.le_of_ble_eq_true rfl, Nat.le_of_ble_eq_true rfl⟩ rfl (Nat.le_of_ble_eq_true rfl) dX9_peak_2 ?_
  refine rx_if_eq hG 24 dX9_peak_5 rfl (fun c2 => ?_) (fun c2 => ?_)
  · have hf := ifT hf c2
    refine rx_aload_n hG dX9_peak_24 0 rfl ?_
    refine rx_iconst hG 1 dX9_peak_25 ic_1 ?_
    obtain ⟨q3, hq3, hf⟩ := bindE hf
    refine rx_cVi hG (c_P_refused_0 l E T 1 hq3) (skX0 T) rfl rfl kw_P_79 ⟨Nat.le_of_ble_eq_true rfl, Nat.le_of_ble_eq_true rfl⟩ rfl (Nat.le_of_ble_eq_true rfl) dX9_peak_26 ?_
    cases hf
    exact rx_iret hG dX9_peak_29
  · have hf := ifF hf c2
    refine rx_aload_n hG dX9_peak_8 0 rfl ?_
    refine rx_aload_n hG dX9_peak_9 0 rfl ?_
    refine gfX_P_41_0 l E T hG dX9_peak_10 ?_
    refine gfX_P_234_35 l E T hG dX9_peak_13 ?_
    refine rx_iload_n hG dX9_peak_16 1 rfl ?_
    obtain ⟨v4, hv4, hf⟩ := bindE hf
    refine rx_iald hG (skX43 T) hv4 dX9_peak_17 ?_
    obtain ⟨q5, hq5, hf⟩ := bindE hf
    refine rx_cVi hG (c_P_granted_0 l E T v4 hq5) (skX0 T) rfl rfl kw_P_116 ⟨Nat.le_of_ble_eq_true rfl, Nat.le_of_ble_eq_true rfl⟩ rfl (Nat.le_of_ble_eq_true rfl) dX9_peak_18 ?_
    refine rx_goto hG 29 dX9_peak_21 rfl ?_
    cases hf
    exact rx_iret hG dX9_peak_29
set_option maxHeartbeats 4000000 in
set_option maxRecDepth 100000 in
theorem c_P_firstOf_0 (l : Launch) (E : En) (T : List Sk) (p0 : Int32) {M M' : Mm} {r : Int32} (h : f_P_firstOf_0 p0 M = some (r, M')) : Ct l (SKX ++ T) E yX9_firstOf cX9_firstOf 2 (some .int) 2 42 [.ref (adr E 0), .int p0] M (some (.int r)) M' := by
  refine ct_of (by decide) (Nat.le_of_ble_eq_true rfl) ?_
  intro G hG
  show G 0 [(0, .ref (adr E 0)), (1, .int p0)] [] M
  have hf := h
  unfold f_P_firstOf_0 at hf
  refine rx_aload_n hG dX9_firstOf_0 0 rfl ?_
  refine rx_iload_n hG dX9_firstOf_1 1 rfl ?_
  obtain ⟨v1, hv1, hf⟩ := bindE hf
  refine rx_cVi hG (c_P_isKind_0 l E T p0 hv1) (skX0 T) rfl rfl kw_P_167 ⟨Nat.le_of_ble_eq_true rfl, Nat.le_of_ble_eq_true rfl⟩ rfl (Nat.le_of_ble_eq_true rfl) dX9_firstOf_2 ?_
  refine rx_if_eq hG 24 dX9_firstOf_5 rfl (fun c2 => ?_) (fun c2 => ?_)
  · have hf := ifT hf c2
    refine rx_aload_n hG dX9_firstOf_24 0 rfl ?_
    refine rx_iconst hG 1 dX9_firstOf_25 ic_1 ?_
    obtain ⟨q3, hq3, hf⟩ := bindE hf
    refine rx_cVi hG (c_P_refused_0 l E T 1 hq3) (skX0 T) rfl rfl kw_P_79 ⟨Nat.le_of_ble_eq_true rfl, Nat.le_of_ble_eq_true rfl⟩ rfl (Nat.le_of_ble_eq_true rfl) dX9_firstOf_26 ?_
    cases hf
    exact rx_iret hG dX9_firstOf_29
  · have hf := ifF hf c2
    refine rx_aload_n hG dX9_firstOf_8 0 rfl ?_
    refine rx_aload_n hG dX9_firstOf_9 0 rfl ?_
    refine gfX_P_41_0 l E T hG dX9_firstOf_10 ?_
    refine gfX_P_237_35 l E T hG dX9_firstOf_13 ?_
    refine rx_iload_n hG dX9_firstOf_16 1 rfl ?_
    obtain ⟨v4, hv4, hf⟩ := bindE hf
    refine rx_iald hG (skX47 T) hv4 dX9_firstOf_17 ?_
    obtain ⟨q5, hq5, hf⟩ := bindE hf
    refine rx_cVi hG (c_P_granted_0 l E T v4 hq5) (skX0 T) rfl rfl kw_P_116 ⟨Nat.le_of_ble_eq_true rfl, Nat.le_of_ble_eq_true rfl⟩ rfl (Nat.le_of_ble_eq_true rfl) dX9_firstOf_18 ?_
    refine rx_goto hG 29 dX9_firstOf_21 rfl ?_
    cases hf
    exact rx_iret hG dX9_firstOf_29
set_option maxHeartbeats 4000000 in
set_option maxRecDepth 100000 in
theorem Lblp_P_commonDivisor_7 (l : Launch) (E : En) (T : List Sk) {a0 b0 kc ks : Nat} {r : Int32} {M : Mm} {G : Nat → List (Nat × Value) → List Value → Mm → Prop} (hG : RX l T E RX9 cX9_commonDivisor 6 (some .int) { frames := 1, cells := a0, slots := b0, locals := 21 } kc ks (some (.int r)) M G) (rc7 : Int32 → Int32 → Int32 → Option Int32) (hrc7 : ∀ (x2 : Int32) (x3 : Int32) (x4 : Int32), rc7 x2 x3 x4 = some r → G 7 [(2, .int x2), (3, .int x3), (4, .int x4)] [] M) : ∀ (x2 : Int32) (x3 : Int32) (x4 : Int32), blp_P_commonDivisor_7 rc7 x2 x3 x4 = some r → G 7 [(2, .int x2), (3, .int x3), (4, .int x4)] [] M := by
  intro x2 x3 x4 hf
  unfold blp_P_commonDivisor_7 at hf
  refine rx_iload hG dX9_commonDivisor_7 2 rfl ?_
  refine rx_bipush hG 64 dX9_commonDivisor_9 bp_64 ?_
  refine rx_icmp_ge hG 36 dX9_commonDivisor_11 rfl (fun c1 => ?_) (fun c1 => ?_)
  · have hf := ifT hf c1
    refine rx_iload_n hG dX9_commonDivisor_36 0 rfl ?_
    cases hf
    exact rx_iret hG dX9_commonDivisor_37
  · have hf := ifF hf c1
    refine rx_iload_n hG dX9_commonDivisor_14 1 rfl ?_
    refine rx_if_eq hG 36 dX9_commonDivisor_15 rfl (fun c2 => ?_) (fun c2 => ?_)
    · have hf := ifT hf c2
      refine rx_iload_n hG dX9_commonDivisor_36 0 rfl ?_
      cases hf
      exact rx_iret hG dX9_commonDivisor_37
    · have hf := ifF hf c2
      refine rx_iload_n hG dX9_commonDivisor_18 0 rfl ?_
      refine rx_iload_n hG dX9_commonDivisor_19 1 rfl ?_
      obtain ⟨v3, hv3, hf⟩ := bindE hf
      refine rx_cSi hG (c_P_remainder l E T x2 x3 hv3) kw_P_243 ⟨Nat.le_of_ble_eq_true rfl, Nat.le_of_ble_eq_true rfl⟩ rfl (Nat.le_of_ble_eq_true rfl) dX9_commonDivisor_20 ?_
      refine rx_istore (lv2 := [(5, .int v3), (2, .int x2), (3, .int x3), (4, .int x4)]) hG dX9_commonDivisor_23 (Nat.le_of_ble_eq_true rfl) rfl ?_
      refine rx_iload_n hG dX9_commonDivisor_25 2 rfl ?_
      refine rx_istore_n (lv2 := [(2, .int x3), (5, .int v3), (3, .int x3), (4, .int x4)]) hG dX9_commonDivisor_26 (Nat.le_of_ble_eq_true rfl) rfl ?_
      refine rx_iload hG dX9_commonDivisor_27 1 rfl ?_
      refine rx_istore_n (lv2 := [(3, .int v3), (2, .int x3), (5, .int v3), (4, .int x4)]) hG dX9_commonDivisor_29 (Nat.le_of_ble_eq_true rfl) rfl ?_
      refine rx_iinc (lv2 := [(4, .int (x4 + 1)), (3, .int v3), (2, .int x3), (5, .int v3)]) hG 1 dX9_commonDivisor_30 ic_1 3 rfl (Nat.le_of_ble_eq_true rfl) rfl ?_
      refine rx_goto hG 7 dX9_commonDivisor_33 rfl ?_
      refine rx_sub hG [2, 1, 0] (lv' := [(2, .int x3), (3, .int v3), (4, .int (x4 + 1))]) rfl ?_
      exact hrc7 x3 v3 (x4 + 1) hf
theorem Llp_P_commonDivisor_7 (l : Launch) (E : En) (T : List Sk) {a0 b0 kc ks : Nat} {r : Int32} {M : Mm} {G : Nat → List (Nat × Value) → List Value → Mm → Prop} (hG : RX l T E RX9 cX9_commonDivisor 6 (some .int) { frames := 1, cells := a0, slots := b0, locals := 21 } kc ks (some (.int r)) M G)  : ∀ (n : Nat) (x2 : Int32) (x3 : Int32) (x4 : Int32), lp_P_commonDivisor_7  n x2 x3 x4 = some r → G 7 [(2, .int x2), (3, .int x3), (4, .int x4)] [] M := by
  intro n
  induction n with
  | zero => intro x2 x3 x4 hf; cases hf
  | succ n ih => intro x2 x3 x4 hf; exact Lblp_P_commonDivisor_7 l E T hG  (lp_P_commonDivisor_7  n) ih x2 x3 x4 hf
set_option maxHeartbeats 4000000 in
set_option maxRecDepth 100000 in
theorem c_P_commonDivisor (l : Launch) (E : En) (T : List Sk) (p0 : Int32) (p1 : Int32) {M : Mm} {r : Int32} (h : f_P_commonDivisor p0 p1 = some r) : Ct l T E yX9_commonDivisor cX9_commonDivisor 6 (some .int) 1 21 [.int p0, .int p1] M (some (.int r)) M := by
  refine ct_of (by decide) (Nat.le_of_ble_eq_true rfl) ?_
  intro G hG
  show G 0 [(0, .int p0), (1, .int p1)] [] M
  have hf := h
  unfold f_P_commonDivisor at hf
  refine rx_iload_n hG dX9_commonDivisor_0 0 rfl ?_
  refine rx_istore_n (lv2 := [(2, .int p0), (0, .int p0), (1, .int p1)]) hG dX9_commonDivisor_1 (Nat.le_of_ble_eq_true rfl) rfl ?_
  refine rx_iload_n hG dX9_commonDivisor_2 2 rfl ?_
  refine rx_istore_n (lv2 := [(3, .int p1), (2, .int p0), (0, .int p0), (1, .int p1)]) hG dX9_commonDivisor_3 (Nat.le_of_ble_eq_true rfl) rfl ?_
  refine rx_iconst hG 0 dX9_commonDivisor_4 ic_0 ?_
  refine rx_istore (lv2 := [(4, .int 0), (3, .int p1), (2, .int p0), (0, .int p0), (1, .int p1)]) hG dX9_commonDivisor_5 (Nat.le_of_ble_eq_true rfl) rfl ?_
  refine rx_sub hG [2, 1, 0] (lv' := [(2, .int p0), (3, .int p1), (4, .int 0)]) rfl ?_
  exact Llp_P_commonDivisor_7 l E T hG  FW p0 p1 0 hf
set_option maxHeartbeats 4000000 in
set_option maxRecDepth 100000 in
theorem Lj_P_rate_0_76 (l : Launch) (E : En) (T : List Sk) {a0 b0 kc ks : Nat} {r : Int32} {M' : Mm} {G : Nat → List (Nat × Value) → List Value → Mm → Prop} (hG : RX l (SKX ++ T) E RX9 cX9_rate 4 (some .int) { frames := 2, cells := a0, slots := b0, locals := 46 } kc ks (some (.int r)) M' G)  : ∀ (x2 : Int32) (t0 : Int32) (M : Mm), j_P_rate_0_76  x2 t0 M = some (r, M') → G 76 [(0, .ref (adr E 0)), (2, .int x2)] [.int t0] M := by
  intro x2 t0 M hf
  unfold j_P_rate_0_76 at hf
  refine rx_istore_n (lv2 := [(3, .int t0), (0, .ref (adr E 0)), (2, .int x2)]) hG dX9_rate_76 (Nat.le_of_ble_eq_true rfl) rfl ?_
  refine rx_aload_n hG dX9_rate_77 1 rfl ?_
  refine rx_iload_n hG dX9_rate_78 2 rfl ?_
  refine rx_if_le hG 88 dX9_rate_79 rfl (fun c1 => ?_) (fun c1 => ?_)
  · have hf := ifT hf c1
    refine rx_iload_n hG dX9_rate_88 0 rfl ?_
    obtain ⟨q2, hq2, hf⟩ := bindE hf
    refine rx_cVi hG (c_P_granted_0 l E T t0 hq2) (skX0 T) rfl rfl kw_P_116 ⟨Nat.le_of_ble_eq_true rfl, Nat.le_of_ble_eq_true rfl⟩ rfl (Nat.le_of_ble_eq_true rfl) dX9_rate_89 ?_
    cases hf
    exact rx_iret hG dX9_rate_92
  · have hf := ifF hf c1
    refine rx_iload_n hG dX9_rate_82 0 rfl ?_
    refine rx_iload_n hG dX9_rate_83 2 rfl ?_
    obtain ⟨v3, hv3, hf⟩ := bindE hf
    refine rx_idiv hG hv3 dX9_rate_84 ?_
    refine rx_goto hG 89 dX9_rate_85 rfl ?_
    obtain ⟨q4, hq4, hf⟩ := bindE hf
    refine rx_cVi hG (c_P_granted_0 l E T v3 hq4) (skX0 T) rfl rfl kw_P_116 ⟨Nat.le_of_ble_eq_true rfl, Nat.le_of_ble_eq_true rfl⟩ rfl (Nat.le_of_ble_eq_true rfl) dX9_rate_89 ?_
    cases hf
    exact rx_iret hG dX9_rate_92
set_option maxHeartbeats 4000000 in
set_option maxRecDepth 100000 in
theorem c_P_rate_0 (l : Launch) (E : En) (T : List Sk) (p0 : Int32) {M M' : Mm} {r : Int32} (h : f_P_rate_0 p0 M = some (r, M')) : Ct l (SKX ++ T) E yX9_rate cX9_rate 4 (some .int) 2 46 [.ref (adr E 0), .int p0] M (some (.int r)) M' := by
  refine ct_of (by decide) (Nat.le_of_ble_eq_true rfl) ?_
  intro G hG
  show G 0 [(0, .ref (adr E 0)), (1, .int p0)] [] M
  have hf := h
  unfold f_P_rate_0 at hf
  refine rx_aload_n hG dX9_rate_0 0 rfl ?_
  refine gfX_P_103_0 l E T hG dX9_rate_1 ?_
  refine rx_if_eq hG 15 dX9_rate_4 rfl (fun c1 => ?_) (fun c1 => ?_)
  · have hf := ifT hf c1
    refine rx_aload_n hG dX9_rate_15 0 rfl ?_
    refine rx_iconst hG 1 dX9_rate_16 ic_1 ?_
    obtain ⟨q2, hq2, hf⟩ := bindE hf
    refine rx_cVi hG (c_P_refused_0 l E T 1 hq2) (skX0 T) rfl rfl kw_P_79 ⟨Nat.le_of_ble_eq_true rfl, Nat.le_of_ble_eq_true rfl⟩ rfl (Nat.le_of_ble_eq_true rfl) dX9_rate_17 ?_
    cases hf
    exact rx_iret hG dX9_rate_20
  · have hf := ifF hf c1
    refine rx_iload_n hG dX9_rate_7 1 rfl ?_
    refine rx_iconst hG 1 dX9_rate_8 ic_1 ?_
    obtain ⟨v3, hv3, hf⟩ := bindE hf
    refine rx_cSi hG (c_P_within l E (SKX ++ T) p0 1 hv3) kw_P_128 ⟨Nat.le_of_ble_eq_true rfl, Nat.le_of_ble_eq_true rfl⟩ rfl (Nat.le_of_ble_eq_true rfl) dX9_rate_9 ?_
    refine rx_if_ne hG 21 dX9_rate_12 rfl (fun c4 => ?_) (fun c4 => ?_)
    · have hf := ifF hf c4
      refine rx_aload_n hG dX9_rate_21 0 rfl ?_
      refine gfX_P_41_0 l E T hG dX9_rate_22 ?_
      refine gfX_P_141_35 l E T hG dX9_rate_25 ?_
      refine rx_if_ne hG 37 dX9_rate_28 rfl (fun c5 => ?_) (fun c5 => ?_)
      · have hf := ifF hf c5
        refine rx_aload_n hG dX9_rate_37 0 rfl ?_
        refine gfX_P_41_0 l E T hG dX9_rate_38 ?_
        refine gfX_P_198_35 l E T hG dX9_rate_41 ?_
        refine rx_aload_n hG dX9_rate_44 0 rfl ?_
        refine gfX_P_41_0 l E T hG dX9_rate_45 ?_
        refine gfX_P_141_35 l E T hG dX9_rate_48 ?_
        obtain ⟨v6, hv6, hf⟩ := bindE hf
        refine rx_cSi hG (c_P_commonDivisor l E (SKX ++ T) (M.1 35 15) (M.1 35 14) hv6) kw_P_240 ⟨Nat.le_of_ble_eq_true rfl, Nat.le_of_ble_eq_true rfl⟩ rfl (Nat.le_of_ble_eq_true rfl) dX9_rate_51 ?_
        refine rx_istore_n (lv2 := [(2, .int v6), (0, .ref (adr E 0)), (1, .int p0)]) hG dX9_rate_54 (Nat.le_of_ble_eq_true rfl) rfl ?_
        refine rx_iload_n hG dX9_rate_55 2 rfl ?_
        refine rx_if_ne hG 69 dX9_rate_56 rfl (fun c7 => ?_) (fun c7 => ?_)
        · have hf := ifF hf c7
          refine rx_aload_n hG dX9_rate_69 1 rfl ?_
          refine gfX_P_41_0 l E T hG dX9_rate_70 ?_
          refine gfX_P_141_35 l E T hG dX9_rate_73 ?_
          refine rx_sub hG [1, 0] (lv' := [(0, .ref (adr E 0)), (2, .int v6)]) rfl ?_
          exact Lj_P_rate_0_76 l E T hG  v6 (M.1 35 14) M hf
        · have hf := ifT hf c7
          refine rx_aload_n hG dX9_rate_59 1 rfl ?_
          refine gfX_P_41_0 l E T hG dX9_rate_60 ?_
          refine gfX_P_198_35 l E T hG dX9_rate_63 ?_
          refine rx_goto hG 76 dX9_rate_66 rfl ?_
          refine rx_sub hG [1, 0] (lv' := [(0, .ref (adr E 0)), (2, .int v6)]) rfl ?_
          exact Lj_P_rate_0_76 l E T hG  v6 (M.1 35 15) M hf
      · have hf := ifT hf c5
        refine rx_aload_n hG dX9_rate_31 0 rfl ?_
        refine rx_iconst hG 5 dX9_rate_32 ic_5 ?_
        obtain ⟨q8, hq8, hf⟩ := bindE hf
        refine rx_cVi hG (c_P_refused_0 l E T 5 hq8) (skX0 T) rfl rfl kw_P_79 ⟨Nat.le_of_ble_eq_true rfl, Nat.le_of_ble_eq_true rfl⟩ rfl (Nat.le_of_ble_eq_true rfl) dX9_rate_33 ?_
        cases hf
        exact rx_iret hG dX9_rate_36
    · have hf := ifT hf c4
      refine rx_aload_n hG dX9_rate_15 0 rfl ?_
      refine rx_iconst hG 1 dX9_rate_16 ic_1 ?_
      obtain ⟨q9, hq9, hf⟩ := bindE hf
      refine rx_cVi hG (c_P_refused_0 l E T 1 hq9) (skX0 T) rfl rfl kw_P_79 ⟨Nat.le_of_ble_eq_true rfl, Nat.le_of_ble_eq_true rfl⟩ rfl (Nat.le_of_ble_eq_true rfl) dX9_rate_17 ?_
      cases hf
      exact rx_iret hG dX9_rate_20
set_option maxHeartbeats 4000000 in
set_option maxRecDepth 100000 in
theorem Lj_L_busiestBench_35_32 (l : Launch) (E : En) (T : List Sk) {a0 b0 kc ks : Nat} {r : Int32} {M : Mm} {G : Nat → List (Nat × Value) → List Value → Mm → Prop} (hG : RX l (SKX ++ T) E RX3 cX3_busiestBench 3 (some .int) { frames := 1, cells := a0, slots := b0, locals := 22 } kc ks (some (.int r)) M G) (rc4 : Int32 → Int32 → Mm → Option Int32) (hrc4 : ∀ (x1 : Int32) (x2 : Int32), rc4 x1 x2 M = some r → G 4 [(0, .ref (adr E 35)), (1, .int x1), (2, .int x2)] [] M) : ∀ (x1 : Int32) (x2 : Int32), j_L_busiestBench_35_32 rc4 x1 x2 M = some r → G 32 [(0, .ref (adr E 35)), (1, .int x1), (2, .int x2)] [] M := by
  intro x1 x2 hf
  unfold j_L_busiestBench_35_32 at hf
  refine rx_iinc (lv2 := [(2, .int (x2 + 1)), (0, .ref (adr E 35)), (1, .int x1)]) hG 1 dX3_busiestBench_32 ic_1 2 rfl (Nat.le_of_ble_eq_true rfl) rfl ?_
  refine rx_goto hG 4 dX3_busiestBench_35 rfl ?_
  refine rx_sub hG [1, 2, 0] (lv' := [(0, .ref (adr E 35)), (1, .int x1), (2, .int (x2 + 1))]) rfl ?_
  exact hrc4 x1 (x2 + 1) hf
set_option maxHeartbeats 4000000 in
set_option maxRecDepth 100000 in
theorem Lblp_L_busiestBench_35_4 (l : Launch) (E : En) (T : List Sk) {a0 b0 kc ks : Nat} {r : Int32} {M : Mm} {G : Nat → List (Nat × Value) → List Value → Mm → Prop} (hG : RX l (SKX ++ T) E RX3 cX3_busiestBench 3 (some .int) { frames := 1, cells := a0, slots := b0, locals := 22 } kc ks (some (.int r)) M G) (rc4 : Int32 → Int32 → Mm → Option Int32) (hrc4 : ∀ (x1 : Int32) (x2 : Int32), rc4 x1 x2 M = some r → G 4 [(0, .ref (adr E 35)), (1, .int x1), (2, .int x2)] [] M) : ∀ (x1 : Int32) (x2 : Int32), blp_L_busiestBench_35_4 rc4 x1 x2 M = some r → G 4 [(0, .ref (adr E 35)), (1, .int x1), (2, .int x2)] [] M := by
  intro x1 x2 hf
  unfold blp_L_busiestBench_35_4 at hf
  refine rx_iload_n hG dX3_busiestBench_4 2 rfl ?_
  refine rx_aload_n hG dX3_busiestBench_5 0 rfl ?_
  refine gfX_L_48_35 l E T hG dX3_busiestBench_6 ?_
  refine gfX_L_102_2 l E T hG dX3_busiestBench_9 ?_
  refine rx_icmp_ge hG 38 dX3_busiestBench_12 rfl (fun c1 => ?_) (fun c1 => ?_)
  · have hf := ifT hf c1
    refine rx_iload_n hG dX3_busiestBench_38 1 rfl ?_
    cases hf
    exact rx_iret hG dX3_busiestBench_39
  · have hf := ifF hf c1
    refine rx_aload_n hG dX3_busiestBench_15 0 rfl ?_
    refine rx_iload_n hG dX3_busiestBench_16 2 rfl ?_
    refine rx_iconst hG 0 dX3_busiestBench_17 ic_0 ?_
    obtain ⟨v2, hv2, hf⟩ := bindE hf
    refine rx_cVi hG (c_L_minutesOf_35 l E T x2 0 hv2) (skX35 T) rfl rfl kw_L_184 ⟨Nat.le_of_ble_eq_true rfl, Nat.le_of_ble_eq_true rfl⟩ rfl (Nat.le_of_ble_eq_true rfl) dX3_busiestBench_18 ?_
    refine rx_aload_n hG dX3_busiestBench_21 0 rfl ?_
    refine rx_iload_n hG dX3_busiestBench_22 1 rfl ?_
    refine rx_iconst hG 0 dX3_busiestBench_23 ic_0 ?_
    obtain ⟨v3, hv3, hf⟩ := bindE hf
    refine rx_cVi hG (c_L_minutesOf_35 l E T x1 0 hv3) (skX35 T) rfl rfl kw_L_184 ⟨Nat.le_of_ble_eq_true rfl, Nat.le_of_ble_eq_true rfl⟩ rfl (Nat.le_of_ble_eq_true rfl) dX3_busiestBench_24 ?_
    refine rx_icmp_le hG 32 dX3_busiestBench_27 rfl (fun c4 => ?_) (fun c4 => ?_)
    · have hf := ifT hf c4
      exact Lj_L_busiestBench_35_32 l E T hG rc4 hrc4 x1 x2 hf
    · have hf := ifF hf c4
      refine rx_iload_n hG dX3_busiestBench_30 2 rfl ?_
      refine rx_istore_n (lv2 := [(1, .int x2), (0, .ref (adr E 35)), (2, .int x2)]) hG dX3_busiestBench_31 (Nat.le_of_ble_eq_true rfl) rfl ?_
      refine rx_sub hG [1, 0, 2] (lv' := [(0, .ref (adr E 35)), (1, .int x2), (2, .int x2)]) rfl ?_
      exact Lj_L_busiestBench_35_32 l E T hG rc4 hrc4 x2 x2 hf
theorem Llp_L_busiestBench_35_4 (l : Launch) (E : En) (T : List Sk) {a0 b0 kc ks : Nat} {r : Int32} {M : Mm} {G : Nat → List (Nat × Value) → List Value → Mm → Prop} (hG : RX l (SKX ++ T) E RX3 cX3_busiestBench 3 (some .int) { frames := 1, cells := a0, slots := b0, locals := 22 } kc ks (some (.int r)) M G)  : ∀ (n : Nat) (x1 : Int32) (x2 : Int32), lp_L_busiestBench_35_4  n x1 x2 M = some r → G 4 [(0, .ref (adr E 35)), (1, .int x1), (2, .int x2)] [] M := by
  intro n
  induction n with
  | zero => intro x1 x2 hf; cases hf
  | succ n ih => intro x1 x2 hf; exact Lblp_L_busiestBench_35_4 l E T hG  (lp_L_busiestBench_35_4  n) ih x1 x2 hf
set_option maxHeartbeats 4000000 in
set_option maxRecDepth 100000 in
theorem c_L_busiestBench_35 (l : Launch) (E : En) (T : List Sk)  {M : Mm} {r : Int32} (h : f_L_busiestBench_35 M = some r) : Ct l (SKX ++ T) E yX3_busiestBench cX3_busiestBench 3 (some .int) 1 22 [.ref (adr E 35)] M (some (.int r)) M := by
  refine ct_of (by decide) (Nat.le_of_ble_eq_true rfl) ?_
  intro G hG
  show G 0 [(0, .ref (adr E 35))] [] M
  have hf := h
  unfold f_L_busiestBench_35 at hf
  refine rx_iconst hG 0 dX3_busiestBench_0 ic_0 ?_
  refine rx_istore_n (lv2 := [(1, .int 0), (0, .ref (adr E 35))]) hG dX3_busiestBench_1 (Nat.le_of_ble_eq_true rfl) rfl ?_
  refine rx_iconst hG 1 dX3_busiestBench_2 ic_1 ?_
  refine rx_istore_n (lv2 := [(2, .int 1), (1, .int 0), (0, .ref (adr E 35))]) hG dX3_busiestBench_3 (Nat.le_of_ble_eq_true rfl) rfl ?_
  refine rx_sub hG [2, 1, 0] (lv' := [(0, .ref (adr E 35)), (1, .int 0), (2, .int 1)]) rfl ?_
  exact Llp_L_busiestBench_35_4 l E T hG  FW 0 1 hf
set_option maxHeartbeats 4000000 in
set_option maxRecDepth 100000 in
theorem c_P_busiest_0 (l : Launch) (E : En) (T : List Sk)  {M M' : Mm} {r : Int32} (h : f_P_busiest_0 M = some (r, M')) : Ct l (SKX ++ T) E yX9_busiest cX9_busiest 1 (some .int) 2 44 [.ref (adr E 0)] M (some (.int r)) M' := by
  refine ct_of (by decide) (Nat.le_of_ble_eq_true rfl) ?_
  intro G hG
  show G 0 [(0, .ref (adr E 0))] [] M
  have hf := h
  unfold f_P_busiest_0 at hf
  refine rx_aload_n hG dX9_busiest_0 0 rfl ?_
  refine gfX_P_103_0 l E T hG dX9_busiest_1 ?_
  refine rx_if_eq hG 21 dX9_busiest_4 rfl (fun c1 => ?_) (fun c1 => ?_)
  · have hf := ifT hf c1
    refine rx_aload_n hG dX9_busiest_21 0 rfl ?_
    refine rx_iconst hG 1 dX9_busiest_22 ic_1 ?_
    obtain ⟨q2, hq2, hf⟩ := bindE hf
    refine rx_cVi hG (c_P_refused_0 l E T 1 hq2) (skX0 T) rfl rfl kw_P_79 ⟨Nat.le_of_ble_eq_true rfl, Nat.le_of_ble_eq_true rfl⟩ rfl (Nat.le_of_ble_eq_true rfl) dX9_busiest_23 ?_
    cases hf
    exact rx_iret hG dX9_busiest_26
  · have hf := ifF hf c1
    refine rx_aload_n hG dX9_busiest_7 0 rfl ?_
    refine rx_aload_n hG dX9_busiest_8 0 rfl ?_
    refine gfX_P_41_0 l E T hG dX9_busiest_9 ?_
    obtain ⟨v3, hv3, hf⟩ := bindE hf
    refine rx_cVi hG (c_L_busiestBench_35 l E T  hv3) (skX35 T) rfl rfl kw_P_246 ⟨Nat.le_of_ble_eq_true rfl, Nat.le_of_ble_eq_true rfl⟩ rfl (Nat.le_of_ble_eq_true rfl) dX9_busiest_12 ?_
    obtain ⟨q4, hq4, hf⟩ := bindE hf
    refine rx_cVi hG (c_P_granted_0 l E T v3 hq4) (skX0 T) rfl rfl kw_P_116 ⟨Nat.le_of_ble_eq_true rfl, Nat.le_of_ble_eq_true rfl⟩ rfl (Nat.le_of_ble_eq_true rfl) dX9_busiest_15 ?_
    refine rx_goto hG 26 dX9_busiest_18 rfl ?_
    cases hf
    exact rx_iret hG dX9_busiest_26
set_option maxHeartbeats 4000000 in
set_option maxRecDepth 100000 in
theorem c_P_refusesPaper_0 (l : Launch) (E : En) (T : List Sk) (p0 : Int32) {M M' : Mm} {r : Int32} (h : f_P_refusesPaper_0 p0 M = some (r, M')) : Ct l (SKX ++ T) E yX9_refusesPaper cX9_refusesPaper 2 (some .boolean) 1 21 [.ref (adr E 0), .int p0] M (some (.int r)) M' := by
  refine ct_of (by decide) (Nat.le_of_ble_eq_true rfl) ?_
  intro G hG
  show G 0 [(0, .ref (adr E 0)), (1, .int p0)] [] M
  have hf := h
  unfold f_P_refusesPaper_0 at hf
  refine rx_aload_n hG dX9_refusesPaper_0 0 rfl ?_
  refine gfX_P_103_0 l E T hG dX9_refusesPaper_1 ?_
  refine rx_if_ne hG 15 dX9_refusesPaper_4 rfl (fun c1 => ?_) (fun c1 => ?_)
  · have hf := ifF hf c1
    refine rx_iload_n hG dX9_refusesPaper_15 1 rfl ?_
    refine rx_iconst hG 1 dX9_refusesPaper_16 ic_1 ?_
    refine rx_icmp_lt hG 27 dX9_refusesPaper_17 rfl (fun c2 => ?_) (fun c2 => ?_)
    · have hf := ifT hf c2
      refine rx_aload_n hG dX9_refusesPaper_27 0 rfl ?_
      refine rx_iconst hG 2 dX9_refusesPaper_28 ic_2 ?_
      obtain ⟨q3, hq3, hf⟩ := bindE hf
      refine rx_cVi hG (c_P_refused_0 l E T 2 hq3) (skX0 T) rfl rfl kw_P_79 ⟨Nat.le_of_ble_eq_true rfl, Nat.le_of_ble_eq_true rfl⟩ rfl (Nat.le_of_ble_eq_true rfl) dX9_refusesPaper_29 ?_
      refine rx_pop hG dX9_refusesPaper_32 rfl ?_
      refine rx_iconst hG 1 dX9_refusesPaper_33 ic_1 ?_
      cases hf
      exact rx_zret hG zr1 dX9_refusesPaper_34
    · have hf := ifF hf c2
      refine rx_iload_n hG dX9_refusesPaper_20 1 rfl ?_
      refine rx_sipush hG 2000 dX9_refusesPaper_21 sp_2000 ?_
      refine rx_icmp_le hG 35 dX9_refusesPaper_24 rfl (fun c4 => ?_) (fun c4 => ?_)
      · have hf := ifT hf c4
        refine rx_iconst hG 0 dX9_refusesPaper_35 ic_0 ?_
        cases hf
        exact rx_zret hG zr0 dX9_refusesPaper_36
      · have hf := ifF hf c4
        refine rx_aload_n hG dX9_refusesPaper_27 0 rfl ?_
        refine rx_iconst hG 2 dX9_refusesPaper_28 ic_2 ?_
        obtain ⟨q5, hq5, hf⟩ := bindE hf
        refine rx_cVi hG (c_P_refused_0 l E T 2 hq5) (skX0 T) rfl rfl kw_P_79 ⟨Nat.le_of_ble_eq_true rfl, Nat.le_of_ble_eq_true rfl⟩ rfl (Nat.le_of_ble_eq_true rfl) dX9_refusesPaper_29 ?_
        refine rx_pop hG dX9_refusesPaper_32 rfl ?_
        refine rx_iconst hG 1 dX9_refusesPaper_33 ic_1 ?_
        cases hf
        exact rx_zret hG zr1 dX9_refusesPaper_34
  · have hf := ifT hf c1
    refine rx_aload_n hG dX9_refusesPaper_7 0 rfl ?_
    refine rx_iconst hG 1 dX9_refusesPaper_8 ic_1 ?_
    obtain ⟨q6, hq6, hf⟩ := bindE hf
    refine rx_cVi hG (c_P_refused_0 l E T 1 hq6) (skX0 T) rfl rfl kw_P_79 ⟨Nat.le_of_ble_eq_true rfl, Nat.le_of_ble_eq_true rfl⟩ rfl (Nat.le_of_ble_eq_true rfl) dX9_refusesPaper_9 ?_
    refine rx_pop hG dX9_refusesPaper_12 rfl ?_
    refine rx_iconst hG 1 dX9_refusesPaper_13 ic_1 ?_
    cases hf
    exact rx_zret hG zr1 dX9_refusesPaper_14
set_option maxHeartbeats 4000000 in
set_option maxRecDepth 100000 in
theorem c_V_copy_49_32 (l : Launch) (E : En) (T : List Sk)  {M M' : Mm} (h : f_V_copy_49_32 M = some M') : Ct l (SKX ++ T) E yX2_copy cX2_copy 2 none 1 18 [.ref (adr E 49), .ref (adr E 32)] M none M' := by
  refine ct_of (by decide) (Nat.le_of_ble_eq_true rfl) ?_
  intro G hG
  show G 0 [(0, .ref (adr E 49)), (1, .ref (adr E 32))] [] M
  have hf := h
  unfold f_V_copy_49_32 at hf
  refine rx_aload_n hG dX2_copy_0 1 rfl ?_
  refine gfX_V_9_32 l E T hG dX2_copy_1 ?_
  refine rx_iconst hG 0 dX2_copy_4 ic_0 ?_
  refine rx_aload_n hG dX2_copy_5 0 rfl ?_
  refine gfX_V_9_49 l E T hG dX2_copy_6 ?_
  refine rx_iconst hG 0 dX2_copy_9 ic_0 ?_
  refine rx_bipush hG 18 dX2_copy_10 bp_18 ?_
  obtain ⟨M1, hM1, hf⟩ := bindE hf
  refine rx_copy hG (skX33 T) (skX50 T) hM1 kw_V_28 ⟨Nat.le_of_ble_eq_true rfl, Nat.le_of_ble_eq_true rfl⟩ dX2_copy_12 ?_
  refine rx_aload_n hG dX2_copy_15 1 rfl ?_
  refine gfX_V_15_32 l E T hG dX2_copy_16 ?_
  refine rx_iconst hG 0 dX2_copy_19 ic_0 ?_
  refine rx_aload_n hG dX2_copy_20 0 rfl ?_
  refine gfX_V_15_49 l E T hG dX2_copy_21 ?_
  refine rx_iconst hG 0 dX2_copy_24 ic_0 ?_
  refine rx_bipush hG 18 dX2_copy_25 bp_18 ?_
  obtain ⟨M2, hM2, hf⟩ := bindE hf
  refine rx_copy hG (skX34 T) (skX51 T) hM2 kw_V_28 ⟨Nat.le_of_ble_eq_true rfl, Nat.le_of_ble_eq_true rfl⟩ dX2_copy_27 ?_
  refine rx_aload_n hG dX2_copy_30 0 rfl ?_
  refine rx_aload_n hG dX2_copy_31 1 rfl ?_
  refine gfX_V_24_32 l E T hG dX2_copy_32 ?_
  obtain ⟨M3, hM3, hf⟩ := bindE hf
  refine pfX_V_24_49 l E T hG hM3 dX2_copy_35 ?_
  cases hf
  exact rx_vret hG dX2_copy_38
set_option maxHeartbeats 4000000 in
set_option maxRecDepth 100000 in
theorem Lblp_L_waresIn_52_4 (l : Launch) (E : En) (T : List Sk) {a0 b0 kc ks : Nat} {r : Int32} {M : Mm} {G : Nat → List (Nat × Value) → List Value → Mm → Prop} (hG : RX l (SKX ++ T) E RX3 cX3_waresIn 4 (some .int) { frames := 1, cells := a0, slots := b0, locals := 21 } kc ks (some (.int r)) M G) (rc4 : Int32 → Int32 → Int32 → Mm → Option Int32) (hrc4 : ∀ (x1 : Int32) (x2 : Int32) (x3 : Int32), rc4 x1 x2 x3 M = some r → G 4 [(0, .ref (adr E 52)), (1, .int x1), (2, .int x2), (3, .int x3)] [] M) : ∀ (x1 : Int32) (x2 : Int32) (x3 : Int32), blp_L_waresIn_52_4 rc4 x1 x2 x3 M = some r → G 4 [(0, .ref (adr E 52)), (1, .int x1), (2, .int x2), (3, .int x3)] [] M := by
  intro x1 x2 x3 hf
  unfold blp_L_waresIn_52_4 at hf
  refine rx_iload_n hG dX3_waresIn_4 3 rfl ?_
  refine rx_aload_n hG dX3_waresIn_5 0 rfl ?_
  refine gfX_L_48_52 l E T hG dX3_waresIn_6 ?_
  refine gfX_L_138_2 l E T hG dX3_waresIn_9 ?_
  refine rx_icmp_ge hG 34 dX3_waresIn_12 rfl (fun c1 => ?_) (fun c1 => ?_)
  · have hf := ifT hf c1
    refine rx_iload_n hG dX3_waresIn_34 2 rfl ?_
    cases hf
    exact rx_iret hG dX3_waresIn_35
  · have hf := ifF hf c1
    refine rx_iload_n hG dX3_waresIn_15 2 rfl ?_
    refine rx_aload_n hG dX3_waresIn_16 0 rfl ?_
    refine gfX_L_9_52 l E T hG dX3_waresIn_17 ?_
    refine rx_iload_n hG dX3_waresIn_20 1 rfl ?_
    refine rx_iload_n hG dX3_waresIn_21 3 rfl ?_
    obtain ⟨v2, hv2, hf⟩ := bindE hf
    refine rx_cNi hG (c_P_cell l E (SKX ++ T) x1 x3 hv2) kw_L_151 ⟨Nat.le_of_ble_eq_true rfl, Nat.le_of_ble_eq_true rfl⟩ rfl (Nat.le_of_ble_eq_true rfl) dX3_waresIn_22 ?_
    obtain ⟨v3, hv3, hf⟩ := bindE hf
    refine rx_iald hG (skX53 T) hv3 dX3_waresIn_25 ?_
    refine rx_iadd hG dX3_waresIn_26 ?_
    refine rx_istore_n (lv2 := [(2, .int (x2 + v3)), (0, .ref (adr E 52)), (1, .int x1), (3, .int x3)]) hG dX3_waresIn_27 (Nat.le_of_ble_eq_true rfl) rfl ?_
    refine rx_iinc (lv2 := [(3, .int (x3 + 1)), (2, .int (x2 + v3)), (0, .ref (adr E 52)), (1, .int x1)]) hG 1 dX3_waresIn_28 ic_1 3 rfl (Nat.le_of_ble_eq_true rfl) rfl ?_
    refine rx_goto hG 4 dX3_waresIn_31 rfl ?_
    refine rx_sub hG [2, 3, 1, 0] (lv' := [(0, .ref (adr E 52)), (1, .int x1), (2, .int (x2 + v3)), (3, .int (x3 + 1))]) rfl ?_
    exact hrc4 x1 (x2 + v3) (x3 + 1) hf
theorem Llp_L_waresIn_52_4 (l : Launch) (E : En) (T : List Sk) {a0 b0 kc ks : Nat} {r : Int32} {M : Mm} {G : Nat → List (Nat × Value) → List Value → Mm → Prop} (hG : RX l (SKX ++ T) E RX3 cX3_waresIn 4 (some .int) { frames := 1, cells := a0, slots := b0, locals := 21 } kc ks (some (.int r)) M G)  : ∀ (n : Nat) (x1 : Int32) (x2 : Int32) (x3 : Int32), lp_L_waresIn_52_4  n x1 x2 x3 M = some r → G 4 [(0, .ref (adr E 52)), (1, .int x1), (2, .int x2), (3, .int x3)] [] M := by
  intro n
  induction n with
  | zero => intro x1 x2 x3 hf; cases hf
  | succ n ih => intro x1 x2 x3 hf; exact Lblp_L_waresIn_52_4 l E T hG  (lp_L_waresIn_52_4  n) ih x1 x2 x3 hf
set_option maxHeartbeats 4000000 in
set_option maxRecDepth 100000 in
theorem c_L_waresIn_52 (l : Launch) (E : En) (T : List Sk) (p0 : Int32) {M : Mm} {r : Int32} (h : f_L_waresIn_52 p0 M = some r) : Ct l (SKX ++ T) E yX3_waresIn cX3_waresIn 4 (some .int) 1 21 [.ref (adr E 52), .int p0] M (some (.int r)) M := by
  refine ct_of (by decide) (Nat.le_of_ble_eq_true rfl) ?_
  intro G hG
  show G 0 [(0, .ref (adr E 52)), (1, .int p0)] [] M
  have hf := h
  unfold f_L_waresIn_52 at hf
  refine rx_iconst hG 0 dX3_waresIn_0 ic_0 ?_
  refine rx_istore_n (lv2 := [(2, .int 0), (0, .ref (adr E 52)), (1, .int p0)]) hG dX3_waresIn_1 (Nat.le_of_ble_eq_true rfl) rfl ?_
  refine rx_iconst hG 0 dX3_waresIn_2 ic_0 ?_
  refine rx_istore_n (lv2 := [(3, .int 0), (2, .int 0), (0, .ref (adr E 52)), (1, .int p0)]) hG dX3_waresIn_3 (Nat.le_of_ble_eq_true rfl) rfl ?_
  refine rx_sub hG [2, 3, 1, 0] (lv' := [(0, .ref (adr E 52)), (1, .int p0), (2, .int 0), (3, .int 0)]) rfl ?_
  exact Llp_L_waresIn_52_4 l E T hG  FW p0 0 0 hf
set_option maxHeartbeats 4000000 in
set_option maxRecDepth 100000 in
theorem Lblp_L_raisePeaks_52_2 (l : Launch) (E : En) (T : List Sk) {a0 b0 kc ks : Nat} {M' : Mm} {G : Nat → List (Nat × Value) → List Value → Mm → Prop} (hG : RX l (SKX ++ T) E RX3 cX3_raisePeaks 2 none { frames := 2, cells := a0, slots := b0, locals := 44 } kc ks none M' G) (rc2 : Int32 → Mm → Option Mm) (hrc2 : ∀ (x1 : Int32) (M : Mm), rc2 x1 M = some M' → G 2 [(0, .ref (adr E 52)), (1, .int x1)] [] M) : ∀ (x1 : Int32) (M : Mm), blp_L_raisePeaks_52_2 rc2 x1 M = some M' → G 2 [(0, .ref (adr E 52)), (1, .int x1)] [] M := by
  intro x1 M hf
  unfold blp_L_raisePeaks_52_2 at hf
  refine rx_iload_n hG dX3_raisePeaks_2 1 rfl ?_
  refine rx_aload_n hG dX3_raisePeaks_3 0 rfl ?_
  refine gfX_L_48_52 l E T hG dX3_raisePeaks_4 ?_
  refine gfX_L_102_2 l E T hG dX3_raisePeaks_7 ?_
  refine rx_icmp_ge hG 39 dX3_raisePeaks_10 rfl (fun c1 => ?_) (fun c1 => ?_)
  · have hf := ifT hf c1
    cases hf
    exact rx_vret hG dX3_raisePeaks_39
  · have hf := ifF hf c1
    refine rx_aload_n hG dX3_raisePeaks_13 0 rfl ?_
    refine gfX_L_33_52 l E T hG dX3_raisePeaks_14 ?_
    refine rx_iload_n hG dX3_raisePeaks_17 1 rfl ?_
    refine rx_aload_n hG dX3_raisePeaks_18 0 rfl ?_
    refine gfX_L_33_52 l E T hG dX3_raisePeaks_19 ?_
    refine rx_iload_n hG dX3_raisePeaks_22 1 rfl ?_
    obtain ⟨v2, hv2, hf⟩ := bindE hf
    refine rx_iald hG (skX60 T) hv2 dX3_raisePeaks_23 ?_
    refine rx_aload_n hG dX3_raisePeaks_24 0 rfl ?_
    refine rx_iload_n hG dX3_raisePeaks_25 1 rfl ?_
    obtain ⟨v3, hv3, hf⟩ := bindE hf
    refine rx_cVi hG (c_L_waresIn_52 l E T x1 hv3) (skX52 T) rfl rfl kw_L_181 ⟨Nat.le_of_ble_eq_true rfl, Nat.le_of_ble_eq_true rfl⟩ rfl (Nat.le_of_ble_eq_true rfl) dX3_raisePeaks_26 ?_
    refine rx_max hG kw_L_119 ⟨Nat.le_of_ble_eq_true rfl, Nat.le_of_ble_eq_true rfl⟩ dX3_raisePeaks_29 ?_
    obtain ⟨M4, hM4, hf⟩ := bindE hf
    refine rx_iast hG (skX60 T) hM4 dX3_raisePeaks_32 ?_
    refine rx_iinc (lv2 := [(1, .int (x1 + 1)), (0, .ref (adr E 52))]) hG 1 dX3_raisePeaks_33 ic_1 1 rfl (Nat.le_of_ble_eq_true rfl) rfl ?_
    refine rx_goto hG 2 dX3_raisePeaks_36 rfl ?_
    refine rx_sub hG [1, 0] (lv' := [(0, .ref (adr E 52)), (1, .int (x1 + 1))]) rfl ?_
    exact hrc2 (x1 + 1) M4 hf
theorem Llp_L_raisePeaks_52_2 (l : Launch) (E : En) (T : List Sk) {a0 b0 kc ks : Nat} {M' : Mm} {G : Nat → List (Nat × Value) → List Value → Mm → Prop} (hG : RX l (SKX ++ T) E RX3 cX3_raisePeaks 2 none { frames := 2, cells := a0, slots := b0, locals := 44 } kc ks none M' G)  : ∀ (n : Nat) (x1 : Int32) (M : Mm), lp_L_raisePeaks_52_2  n x1 M = some M' → G 2 [(0, .ref (adr E 52)), (1, .int x1)] [] M := by
  intro n
  induction n with
  | zero => intro x1 M hf; cases hf
  | succ n ih => intro x1 M hf; exact Lblp_L_raisePeaks_52_2 l E T hG  (lp_L_raisePeaks_52_2  n) ih x1 M hf
set_option maxHeartbeats 4000000 in
set_option maxRecDepth 100000 in
theorem c_L_raisePeaks_52 (l : Launch) (E : En) (T : List Sk)  {M M' : Mm} (h : f_L_raisePeaks_52 M = some M') : Ct l (SKX ++ T) E yX3_raisePeaks cX3_raisePeaks 2 none 2 44 [.ref (adr E 52)] M none M' := by
  refine ct_of (by decide) (Nat.le_of_ble_eq_true rfl) ?_
  intro G hG
  show G 0 [(0, .ref (adr E 52))] [] M
  have hf := h
  unfold f_L_raisePeaks_52 at hf
  refine rx_iconst hG 0 dX3_raisePeaks_0 ic_0 ?_
  refine rx_istore_n (lv2 := [(1, .int 0), (0, .ref (adr E 52))]) hG dX3_raisePeaks_1 (Nat.le_of_ble_eq_true rfl) rfl ?_
  refine rx_sub hG [1, 0] (lv' := [(0, .ref (adr E 52)), (1, .int 0)]) rfl ?_
  exact Llp_L_raisePeaks_52_2 l E T hG  FW 0 M hf
set_option maxHeartbeats 4000000 in
set_option maxRecDepth 100000 in
theorem Lj_L_start_52_56 (l : Launch) (E : En) (T : List Sk) {a0 b0 kc ks : Nat} {M' : Mm} {G : Nat → List (Nat × Value) → List Value → Mm → Prop} (hG : RX l (SKX ++ T) E RX3 cX3_start 2 none { frames := 3, cells := a0, slots := b0, locals := 65 } kc ks none M' G)  : ∀  (M : Mm), j_L_start_52_56  M = some M' → G 56 [(0, .ref (adr E 52))] [] M := by
  intro M hf
  unfold j_L_start_52_56 at hf
  refine rx_aload_n hG dX3_start_56 0 rfl ?_
  refine gfX_L_18_52 l E T hG dX3_start_57 ?_
  refine rx_iconst hG 0 dX3_start_60 ic_0 ?_
  obtain ⟨M1, hM1, hf⟩ := bindE hf
  refine rx_cSv hG (c_fill l E _ (skX55 T) (Nat.le_of_ble_eq_true rfl) 0 hM1) kw_L_56 ⟨Nat.le_of_ble_eq_true rfl, Nat.le_of_ble_eq_true rfl⟩ rfl (Nat.le_of_ble_eq_true rfl) dX3_start_61 ?_
  refine rx_aload_n hG dX3_start_64 0 rfl ?_
  refine gfX_L_21_52 l E T hG dX3_start_65 ?_
  refine rx_bipush hG (-2) dX3_start_68 bp_m2 ?_
  obtain ⟨M2, hM2, hf⟩ := bindE hf
  refine rx_cSv hG (c_fill l E _ (skX56 T) (Nat.le_of_ble_eq_true rfl) (-2) hM2) kw_L_56 ⟨Nat.le_of_ble_eq_true rfl, Nat.le_of_ble_eq_true rfl⟩ rfl (Nat.le_of_ble_eq_true rfl) dX3_start_70 ?_
  refine rx_aload_n hG dX3_start_73 0 rfl ?_
  refine gfX_L_24_52 l E T hG dX3_start_74 ?_
  refine rx_iconst hG 0 dX3_start_77 ic_0 ?_
  obtain ⟨M3, hM3, hf⟩ := bindE hf
  refine rx_cSv hG (c_fill l E _ (skX57 T) (Nat.le_of_ble_eq_true rfl) 0 hM3) kw_L_56 ⟨Nat.le_of_ble_eq_true rfl, Nat.le_of_ble_eq_true rfl⟩ rfl (Nat.le_of_ble_eq_true rfl) dX3_start_78 ?_
  refine rx_aload_n hG dX3_start_81 0 rfl ?_
  refine gfX_L_27_52 l E T hG dX3_start_82 ?_
  refine rx_iconst hG 0 dX3_start_85 ic_0 ?_
  obtain ⟨M4, hM4, hf⟩ := bindE hf
  refine rx_cSv hG (c_fill l E _ (skX58 T) (Nat.le_of_ble_eq_true rfl) 0 hM4) kw_L_56 ⟨Nat.le_of_ble_eq_true rfl, Nat.le_of_ble_eq_true rfl⟩ rfl (Nat.le_of_ble_eq_true rfl) dX3_start_86 ?_
  refine rx_aload_n hG dX3_start_89 0 rfl ?_
  refine gfX_L_30_52 l E T hG dX3_start_90 ?_
  refine rx_iconst hG 0 dX3_start_93 ic_0 ?_
  obtain ⟨M5, hM5, hf⟩ := bindE hf
  refine rx_cSv hG (c_fill l E _ (skX59 T) (Nat.le_of_ble_eq_true rfl) 0 hM5) kw_L_56 ⟨Nat.le_of_ble_eq_true rfl, Nat.le_of_ble_eq_true rfl⟩ rfl (Nat.le_of_ble_eq_true rfl) dX3_start_94 ?_
  refine rx_aload_n hG dX3_start_97 0 rfl ?_
  refine gfX_L_33_52 l E T hG dX3_start_98 ?_
  refine rx_iconst hG 0 dX3_start_101 ic_0 ?_
  obtain ⟨M6, hM6, hf⟩ := bindE hf
  refine rx_cSv hG (c_fill l E _ (skX60 T) (Nat.le_of_ble_eq_true rfl) 0 hM6) kw_L_56 ⟨Nat.le_of_ble_eq_true rfl, Nat.le_of_ble_eq_true rfl⟩ rfl (Nat.le_of_ble_eq_true rfl) dX3_start_102 ?_
  refine rx_aload_n hG dX3_start_105 0 rfl ?_
  refine gfX_L_36_52 l E T hG dX3_start_106 ?_
  refine rx_iconst hG 0 dX3_start_109 ic_0 ?_
  obtain ⟨M7, hM7, hf⟩ := bindE hf
  refine rx_cSv hG (c_fill l E _ (skX61 T) (Nat.le_of_ble_eq_true rfl) 0 hM7) kw_L_56 ⟨Nat.le_of_ble_eq_true rfl, Nat.le_of_ble_eq_true rfl⟩ rfl (Nat.le_of_ble_eq_true rfl) dX3_start_110 ?_
  refine rx_aload_n hG dX3_start_113 0 rfl ?_
  refine gfX_L_39_52 l E T hG dX3_start_114 ?_
  refine rx_iconst hG 0 dX3_start_117 ic_0 ?_
  obtain ⟨M8, hM8, hf⟩ := bindE hf
  refine rx_cSv hG (c_fill l E _ (skX62 T) (Nat.le_of_ble_eq_true rfl) 0 hM8) kw_L_56 ⟨Nat.le_of_ble_eq_true rfl, Nat.le_of_ble_eq_true rfl⟩ rfl (Nat.le_of_ble_eq_true rfl) dX3_start_118 ?_
  refine rx_aload_n hG dX3_start_121 0 rfl ?_
  refine gfX_L_42_52 l E T hG dX3_start_122 ?_
  refine rx_iconst hG 0 dX3_start_125 ic_0 ?_
  obtain ⟨M9, hM9, hf⟩ := bindE hf
  refine rx_cSv hG (c_fill l E _ (skX63 T) (Nat.le_of_ble_eq_true rfl) 0 hM9) kw_L_56 ⟨Nat.le_of_ble_eq_true rfl, Nat.le_of_ble_eq_true rfl⟩ rfl (Nat.le_of_ble_eq_true rfl) dX3_start_126 ?_
  refine rx_aload_n hG dX3_start_129 0 rfl ?_
  refine gfX_L_45_52 l E T hG dX3_start_130 ?_
  refine rx_bipush hG (-2) dX3_start_133 bp_m2 ?_
  obtain ⟨M10, hM10, hf⟩ := bindE hf
  refine rx_cSv hG (c_fill l E _ (skX64 T) (Nat.le_of_ble_eq_true rfl) (-2) hM10) kw_L_56 ⟨Nat.le_of_ble_eq_true rfl, Nat.le_of_ble_eq_true rfl⟩ rfl (Nat.le_of_ble_eq_true rfl) dX3_start_135 ?_
  refine rx_aload_n hG dX3_start_138 0 rfl ?_
  refine rx_iconst hG 0 dX3_start_139 ic_0 ?_
  obtain ⟨M11, hM11, hf⟩ := bindE hf
  refine pfX_L_73_52 l E T hG hM11 dX3_start_140 ?_
  refine rx_aload_n hG dX3_start_143 0 rfl ?_
  refine rx_iconst hG 0 dX3_start_144 ic_0 ?_
  obtain ⟨M12, hM12, hf⟩ := bindE hf
  refine pfX_L_77_52 l E T hG hM12 dX3_start_145 ?_
  refine rx_aload_n hG dX3_start_148 0 rfl ?_
  refine rx_bipush hG (-2) dX3_start_149 bp_m2 ?_
  obtain ⟨M13, hM13, hf⟩ := bindE hf
  refine pfX_L_80_52 l E T hG hM13 dX3_start_151 ?_
  refine rx_aload_n hG dX3_start_154 0 rfl ?_
  refine rx_bipush hG (-2) dX3_start_155 bp_m2 ?_
  obtain ⟨M14, hM14, hf⟩ := bindE hf
  refine pfX_L_83_52 l E T hG hM14 dX3_start_157 ?_
  refine rx_aload_n hG dX3_start_160 0 rfl ?_
  obtain ⟨M15, hM15, hf⟩ := bindE hf
  refine rx_cVv hG (c_L_raisePeaks_52 l E T  hM15) (skX52 T) rfl rfl kw_L_86 ⟨Nat.le_of_ble_eq_true rfl, Nat.le_of_ble_eq_true rfl⟩ rfl (Nat.le_of_ble_eq_true rfl) dX3_start_161 ?_
  cases hf
  exact rx_vret hG dX3_start_164
set_option maxHeartbeats 4000000 in
set_option maxRecDepth 100000 in
theorem c_L_start_52 (l : Launch) (E : En) (T : List Sk) (p0 : Int32) {M M' : Mm} (h : f_L_start_52 p0 M = some M') : Ct l (SKX ++ T) E yX3_start cX3_start 2 none 3 65 [.ref (adr E 52), .int p0] M none M' := by
  refine ct_of (by decide) (Nat.le_of_ble_eq_true rfl) ?_
  intro G hG
  show G 0 [(0, .ref (adr E 52)), (1, .int p0)] [] M
  have hf := h
  unfold f_L_start_52 at hf
  refine rx_aload_n hG dX3_start_0 0 rfl ?_
  refine gfX_L_9_52 l E T hG dX3_start_1 ?_
  refine rx_iconst hG 0 dX3_start_4 ic_0 ?_
  obtain ⟨M1, hM1, hf⟩ := bindE hf
  refine rx_cSv hG (c_fill l E _ (skX53 T) (Nat.le_of_ble_eq_true rfl) 0 hM1) kw_L_56 ⟨Nat.le_of_ble_eq_true rfl, Nat.le_of_ble_eq_true rfl⟩ rfl (Nat.le_of_ble_eq_true rfl) dX3_start_5 ?_
  refine rx_aload_n hG dX3_start_8 0 rfl ?_
  refine gfX_L_15_52 l E T hG dX3_start_9 ?_
  refine rx_iconst hG 0 dX3_start_12 ic_0 ?_
  obtain ⟨M2, hM2, hf⟩ := bindE hf
  refine rx_cSv hG (c_fill l E _ (skX54 T) (Nat.le_of_ble_eq_true rfl) 0 hM2) kw_L_56 ⟨Nat.le_of_ble_eq_true rfl, Nat.le_of_ble_eq_true rfl⟩ rfl (Nat.le_of_ble_eq_true rfl) dX3_start_13 ?_
  refine rx_iload_n hG dX3_start_16 1 rfl ?_
  refine rx_if_eq hG 56 dX3_start_17 rfl (fun c3 => ?_) (fun c3 => ?_)
  · have hf := ifT hf c3
    refine rx_sub hG [0] (lv' := [(0, .ref (adr E 52))]) rfl ?_
    exact Lj_L_start_52_56 l E T hG  M2 hf
  · have hf := ifF hf c3
    refine rx_aload_n hG dX3_start_20 0 rfl ?_
    refine gfX_L_52_52 l E T hG dX3_start_21 ?_
    refine gfX_L_62_49 l E T hG dX3_start_24 ?_
    refine rx_iconst hG 0 dX3_start_27 ic_0 ?_
    refine rx_aload_n hG dX3_start_28 0 rfl ?_
    refine gfX_L_9_52 l E T hG dX3_start_29 ?_
    refine rx_iconst hG 0 dX3_start_32 ic_0 ?_
    refine rx_bipush hG 18 dX3_start_33 bp_18 ?_
    obtain ⟨M4, hM4, hf⟩ := bindE hf
    refine rx_copy hG (skX50 T) (skX53 T) hM4 kw_L_67 ⟨Nat.le_of_ble_eq_true rfl, Nat.le_of_ble_eq_true rfl⟩ dX3_start_35 ?_
    refine rx_aload_n hG dX3_start_38 0 rfl ?_
    refine gfX_L_52_52 l E T hG dX3_start_39 ?_
    refine gfX_L_62_49 l E T hG dX3_start_42 ?_
    refine rx_iconst hG 0 dX3_start_45 ic_0 ?_
    refine rx_aload_n hG dX3_start_46 0 rfl ?_
    refine gfX_L_15_52 l E T hG dX3_start_47 ?_
    refine rx_iconst hG 0 dX3_start_50 ic_0 ?_
    refine rx_bipush hG 18 dX3_start_51 bp_18 ?_
    obtain ⟨M5, hM5, hf⟩ := bindE hf
    refine rx_copy hG (skX50 T) (skX54 T) hM5 kw_L_67 ⟨Nat.le_of_ble_eq_true rfl, Nat.le_of_ble_eq_true rfl⟩ dX3_start_53 ?_
    refine rx_sub hG [0] (lv' := [(0, .ref (adr E 52))]) rfl ?_
    exact Lj_L_start_52_56 l E T hG  M5 hf
set_option maxHeartbeats 4000000 in
set_option maxRecDepth 100000 in
theorem Lj_L_beginAt_52_109 (l : Launch) (E : En) (T : List Sk) {a0 b0 kc ks : Nat} {M' : Mm} {G : Nat → List (Nat × Value) → List Value → Mm → Prop} (hG : RX l (SKX ++ T) E RX3 cX3_beginAt 5 none { frames := 1, cells := a0, slots := b0, locals := 21 } kc ks none M' G)  : ∀ (x1 : Int32) (x2 : Int32) (t0 : Int32) (t1 : Int32) (t2 : Int32) (M : Mm), j_L_beginAt_52_109  x1 x2 t0 t1 t2 M = some M' → G 109 [(0, .ref (adr E 52)), (1, .int x1), (2, .int x2)] [.int t0, .int t1, .int t2, .ref (adr E 57)] M := by
  intro x1 x2 t0 t1 t2 M hf
  unfold j_L_beginAt_52_109 at hf
  refine rx_iadd hG dX3_beginAt_109 ?_
  obtain ⟨M1, hM1, hf⟩ := bindE hf
  refine rx_iast hG (skX57 T) hM1 dX3_beginAt_110 ?_
  refine rx_aload_n hG dX3_beginAt_111 0 rfl ?_
  refine gfX_L_18_52 l E T hG dX3_beginAt_112 ?_
  refine rx_iload_n hG dX3_beginAt_115 1 rfl ?_
  refine rx_iconst hG 1 dX3_beginAt_116 ic_1 ?_
  obtain ⟨M2, hM2, hf⟩ := bindE hf
  refine rx_iast hG (skX55 T) hM2 dX3_beginAt_117 ?_
  refine rx_aload_n hG dX3_beginAt_118 0 rfl ?_
  refine gfX_L_21_52 l E T hG dX3_beginAt_119 ?_
  refine rx_iload_n hG dX3_beginAt_122 1 rfl ?_
  refine rx_iload_n hG dX3_beginAt_123 2 rfl ?_
  obtain ⟨M3, hM3, hf⟩ := bindE hf
  refine rx_iast hG (skX56 T) hM3 dX3_beginAt_124 ?_
  cases hf
  exact rx_vret hG dX3_beginAt_125
set_option maxHeartbeats 4000000 in
set_option maxRecDepth 100000 in
theorem Lj_L_beginAt_52_70 (l : Launch) (E : En) (T : List Sk) {a0 b0 kc ks : Nat} {M' : Mm} {G : Nat → List (Nat × Value) → List Value → Mm → Prop} (hG : RX l (SKX ++ T) E RX3 cX3_beginAt 5 none { frames := 1, cells := a0, slots := b0, locals := 21 } kc ks none M' G)  : ∀ (x1 : Int32) (x2 : Int32) (x3 : Int32) (t0 : Int32) (M : Mm), j_L_beginAt_52_70  x1 x2 x3 t0 M = some M' → G 70 [(0, .ref (adr E 52)), (1, .int x1), (2, .int x2), (3, .int x3)] [.int t0] M := by
  intro x1 x2 x3 t0 M hf
  unfold j_L_beginAt_52_70 at hf
  refine rx_istore (lv2 := [(4, .int t0), (0, .ref (adr E 52)), (1, .int x1), (2, .int x2), (3, .int x3)]) hG dX3_beginAt_70 (Nat.le_of_ble_eq_true rfl) rfl ?_
  refine rx_aload_n hG dX3_beginAt_72 1 rfl ?_
  refine gfX_L_24_52 l E T hG dX3_beginAt_73 ?_
  refine rx_iload_n hG dX3_beginAt_76 2 rfl ?_
  refine rx_aload_n hG dX3_beginAt_77 1 rfl ?_
  refine gfX_L_73_52 l E T hG dX3_beginAt_78 ?_
  refine rx_aload_n hG dX3_beginAt_81 1 rfl ?_
  refine gfX_L_52_52 l E T hG dX3_beginAt_82 ?_
  refine gfX_L_163_49 l E T hG dX3_beginAt_85 ?_
  refine rx_iload_n hG dX3_beginAt_88 4 rfl ?_
  obtain ⟨v1, hv1, hf⟩ := bindE hf
  refine rx_iald hG (skX51 T) hv1 dX3_beginAt_89 ?_
  refine rx_iadd hG dX3_beginAt_90 ?_
  refine rx_iload hG dX3_beginAt_91 0 rfl ?_
  refine rx_if_eq hG 108 dX3_beginAt_93 rfl (fun c2 => ?_) (fun c2 => ?_)
  · have hf := ifT hf c2
    refine rx_iconst hG 0 dX3_beginAt_108 ic_0 ?_
    refine rx_sub hG [1, 2, 3] (lv' := [(0, .ref (adr E 52)), (1, .int x1), (2, .int x2)]) rfl ?_
    exact Lj_L_beginAt_52_109 l E T hG  x1 x2 0 ((M.1 52 14) + v1) x1 M hf
  · have hf := ifF hf c2
    refine rx_aload_n hG dX3_beginAt_96 1 rfl ?_
    refine gfX_L_48_52 l E T hG dX3_beginAt_97 ?_
    refine gfX_L_166_2 l E T hG dX3_beginAt_100 ?_
    refine rx_iload_n hG dX3_beginAt_103 2 rfl ?_
    obtain ⟨v3, hv3, hf⟩ := bindE hf
    refine rx_iald hG (skX3 T) hv3 dX3_beginAt_104 ?_
    refine rx_goto hG 109 dX3_beginAt_105 rfl ?_
    refine rx_sub hG [1, 2, 3] (lv' := [(0, .ref (adr E 52)), (1, .int x1), (2, .int x2)]) rfl ?_
    exact Lj_L_beginAt_52_109 l E T hG  x1 x2 v3 ((M.1 52 14) + v1) x1 M hf
set_option maxHeartbeats 4000000 in
set_option maxRecDepth 100000 in
theorem Lj_L_beginAt_52_69 (l : Launch) (E : En) (T : List Sk) {a0 b0 kc ks : Nat} {M' : Mm} {G : Nat → List (Nat × Value) → List Value → Mm → Prop} (hG : RX l (SKX ++ T) E RX3 cX3_beginAt 5 none { frames := 1, cells := a0, slots := b0, locals := 21 } kc ks none M' G)  : ∀ (x1 : Int32) (x2 : Int32) (x3 : Int32) (M : Mm), j_L_beginAt_52_69  x1 x2 x3 M = some M' → G 69 [(0, .ref (adr E 52)), (1, .int x1), (2, .int x2), (3, .int x3)] [] M := by
  intro x1 x2 x3 M hf
  unfold j_L_beginAt_52_69 at hf
  refine rx_iconst hG 0 dX3_beginAt_69 ic_0 ?_
  exact Lj_L_beginAt_52_70 l E T hG  x1 x2 x3 0 M hf
set_option maxHeartbeats 4000000 in
set_option maxRecDepth 100000 in
theorem Lj_L_beginAt_52_34 (l : Launch) (E : En) (T : List Sk) {a0 b0 kc ks : Nat} {M' : Mm} {G : Nat → List (Nat × Value) → List Value → Mm → Prop} (hG : RX l (SKX ++ T) E RX3 cX3_beginAt 5 none { frames := 1, cells := a0, slots := b0, locals := 21 } kc ks none M' G)  : ∀ (x1 : Int32) (x2 : Int32) (x3 : Int32) (M : Mm), j_L_beginAt_52_34  x1 x2 x3 M = some M' → G 34 [(0, .ref (adr E 52)), (1, .int x1), (2, .int x2), (3, .int x3)] [] M := by
  intro x1 x2 x3 M hf
  unfold j_L_beginAt_52_34 at hf
  refine rx_aload_n hG dX3_beginAt_34 0 rfl ?_
  refine gfX_L_15_52 l E T hG dX3_beginAt_35 ?_
  refine rx_iload_n hG dX3_beginAt_38 3 rfl ?_
  refine rx_dup2 hG dX3_beginAt_39 rfl rfl ?_
  obtain ⟨v1, hv1, hf⟩ := bindE hf
  refine rx_iald hG (skX54 T) hv1 dX3_beginAt_40 ?_
  refine rx_iconst hG 1 dX3_beginAt_41 ic_1 ?_
  refine rx_iadd hG dX3_beginAt_42 ?_
  obtain ⟨M2, hM2, hf⟩ := bindE hf
  refine rx_iast hG (skX54 T) hM2 dX3_beginAt_43 ?_
  refine rx_aload_n hG dX3_beginAt_44 0 rfl ?_
  refine gfX_L_21_52 l E T hG dX3_beginAt_45 ?_
  refine rx_iload_n hG dX3_beginAt_48 1 rfl ?_
  obtain ⟨v3, hv3, hf⟩ := bindE hf
  refine rx_iald hG (skX56 T) hv3 dX3_beginAt_49 ?_
  refine rx_bipush hG (-2) dX3_beginAt_50 bp_m2 ?_
  refine rx_icmp_eq hG 69 dX3_beginAt_52 rfl (fun c4 => ?_) (fun c4 => ?_)
  · have hf := ifT hf c4
    exact Lj_L_beginAt_52_69 l E T hG  x1 x2 x3 M2 hf
  · have hf := ifF hf c4
    refine rx_aload_n hG dX3_beginAt_55 0 rfl ?_
    refine gfX_L_21_52 l E T hG dX3_beginAt_56 ?_
    refine rx_iload_n hG dX3_beginAt_59 1 rfl ?_
    obtain ⟨v5, hv5, hf⟩ := bindE hf
    refine rx_iald hG (skX56 T) hv5 dX3_beginAt_60 ?_
    refine rx_iload_n hG dX3_beginAt_61 2 rfl ?_
    refine rx_icmp_eq hG 69 dX3_beginAt_62 rfl (fun c6 => ?_) (fun c6 => ?_)
    · have hf := ifT hf c6
      exact Lj_L_beginAt_52_69 l E T hG  x1 x2 x3 M2 hf
    · have hf := ifF hf c6
      refine rx_iconst hG 1 dX3_beginAt_65 ic_1 ?_
      refine rx_goto hG 70 dX3_beginAt_66 rfl ?_
      exact Lj_L_beginAt_52_70 l E T hG  x1 x2 x3 1 M2 hf
set_option maxHeartbeats 4000000 in
set_option maxRecDepth 100000 in
theorem c_L_beginAt_52 (l : Launch) (E : En) (T : List Sk) (p0 : Int32) (p1 : Int32) {M M' : Mm} (h : f_L_beginAt_52 p0 p1 M = some M') : Ct l (SKX ++ T) E yX3_beginAt cX3_beginAt 5 none 1 21 [.ref (adr E 52), .int p0, .int p1] M none M' := by
  refine ct_of (by decide) (Nat.le_of_ble_eq_true rfl) ?_
  intro G hG
  show G 0 [(0, .ref (adr E 52)), (1, .int p0), (2, .int p1)] [] M
  have hf := h
  unfold f_L_beginAt_52 at hf
  refine rx_iload_n hG dX3_beginAt_0 1 rfl ?_
  refine rx_iload_n hG dX3_beginAt_1 2 rfl ?_
  obtain ⟨v1, hv1, hf⟩ := bindE hf
  refine rx_cNi hG (c_P_cell l E (SKX ++ T) p0 p1 hv1) kw_L_151 ⟨Nat.le_of_ble_eq_true rfl, Nat.le_of_ble_eq_true rfl⟩ rfl (Nat.le_of_ble_eq_true rfl) dX3_beginAt_2 ?_
  refine rx_istore_n (lv2 := [(3, .int v1), (0, .ref (adr E 52)), (1, .int p0), (2, .int p1)]) hG dX3_beginAt_5 (Nat.le_of_ble_eq_true rfl) rfl ?_
  refine rx_iload_n hG dX3_beginAt_6 2 rfl ?_
  refine rx_if_le hG 34 dX3_beginAt_7 rfl (fun c2 => ?_) (fun c2 => ?_)
  · have hf := ifT hf c2
    refine rx_sub hG [1, 2, 3, 0] (lv' := [(0, .ref (adr E 52)), (1, .int p0), (2, .int p1), (3, .int v1)]) rfl ?_
    exact Lj_L_beginAt_52_34 l E T hG  p0 p1 v1 M hf
  · have hf := ifF hf c2
    refine rx_aload_n hG dX3_beginAt_10 1 rfl ?_
    refine gfX_L_9_52 l E T hG dX3_beginAt_11 ?_
    refine rx_iload_n hG dX3_beginAt_14 0 rfl ?_
    refine rx_iconst hG 3 dX3_beginAt_15 ic_3 ?_
    refine rx_isub hG dX3_beginAt_16 ?_
    refine rx_dup2 hG dX3_beginAt_17 rfl rfl ?_
    obtain ⟨v3, hv3, hf⟩ := bindE hf
    refine rx_iald hG (skX53 T) hv3 dX3_beginAt_18 ?_
    refine rx_iconst hG 1 dX3_beginAt_19 ic_1 ?_
    refine rx_isub hG dX3_beginAt_20 ?_
    obtain ⟨M4, hM4, hf⟩ := bindE hf
    refine rx_iast hG (skX53 T) hM4 dX3_beginAt_21 ?_
    refine rx_aload_n hG dX3_beginAt_22 1 rfl ?_
    refine gfX_L_15_52 l E T hG dX3_beginAt_23 ?_
    refine rx_iload_n hG dX3_beginAt_26 0 rfl ?_
    refine rx_iconst hG 3 dX3_beginAt_27 ic_3 ?_
    refine rx_isub hG dX3_beginAt_28 ?_
    refine rx_dup2 hG dX3_beginAt_29 rfl rfl ?_
    obtain ⟨v5, hv5, hf⟩ := bindE hf
    refine rx_iald hG (skX54 T) hv5 dX3_beginAt_30 ?_
    refine rx_iconst hG 1 dX3_beginAt_31 ic_1 ?_
    refine rx_isub hG dX3_beginAt_32 ?_
    obtain ⟨M6, hM6, hf⟩ := bindE hf
    refine rx_iast hG (skX54 T) hM6 dX3_beginAt_33 ?_
    refine rx_sub hG [1, 2, 3, 0] (lv' := [(0, .ref (adr E 52)), (1, .int p0), (2, .int p1), (3, .int v1)]) rfl ?_
    exact Lj_L_beginAt_52_34 l E T hG  p0 p1 v1 M6 hf
set_option maxHeartbeats 4000000 in
set_option maxRecDepth 100000 in
theorem Lj_L_freeIfCan_52_23 (l : Launch) (E : En) (T : List Sk) {a0 b0 kc ks : Nat} {r : Int32} {M : Mm} {G : Nat → List (Nat × Value) → List Value → Mm → Prop} (hG : RX l (SKX ++ T) E RX3 cX3_freeIfCan 4 (some .int) { frames := 0, cells := a0, slots := b0, locals := 0 } kc ks (some (.int r)) M G)  : ∀ (x3 : Int32), j_L_freeIfCan_52_23  x3 M = some r → G 23 [(0, .ref (adr E 52)), (3, .int x3)] [] M := by
  intro x3 hf
  unfold j_L_freeIfCan_52_23 at hf
  refine rx_aload_n hG dX3_freeIfCan_23 0 rfl ?_
  refine gfX_L_52_52 l E T hG dX3_freeIfCan_24 ?_
  refine gfX_L_62_49 l E T hG dX3_freeIfCan_27 ?_
  refine rx_iload_n hG dX3_freeIfCan_30 1 rfl ?_
  obtain ⟨v1, hv1, hf⟩ := bindE hf
  refine rx_iald hG (skX50 T) hv1 dX3_freeIfCan_31 ?_
  refine rx_aload_n hG dX3_freeIfCan_32 0 rfl ?_
  refine gfX_L_15_52 l E T hG dX3_freeIfCan_33 ?_
  refine rx_iload_n hG dX3_freeIfCan_36 1 rfl ?_
  obtain ⟨v2, hv2, hf⟩ := bindE hf
  refine rx_iald hG (skX54 T) hv2 dX3_freeIfCan_37 ?_
  refine rx_isub hG dX3_freeIfCan_38 ?_
  cases hf
  exact rx_iret hG dX3_freeIfCan_39
set_option maxHeartbeats 4000000 in
set_option maxRecDepth 100000 in
theorem c_L_freeIfCan_52 (l : Launch) (E : En) (T : List Sk) (p0 : Int32) (p1 : Int32) {M : Mm} {r : Int32} (h : f_L_freeIfCan_52 p0 p1 M = some r) : Ct l (SKX ++ T) E yX3_freeIfCan cX3_freeIfCan 4 (some .int) 0 0 [.ref (adr E 52), .int p0, .int p1] M (some (.int r)) M := by
  refine ct_of (by decide) (Nat.le_of_ble_eq_true rfl) ?_
  intro G hG
  show G 0 [(0, .ref (adr E 52)), (1, .int p0), (2, .int p1)] [] M
  have hf := h
  unfold f_L_freeIfCan_52 at hf
  refine rx_iconst hG 3 dX3_freeIfCan_0 ic_3 ?_
  refine rx_iload_n hG dX3_freeIfCan_1 1 rfl ?_
  refine rx_imul hG dX3_freeIfCan_2 ?_
  refine rx_iload_n hG dX3_freeIfCan_3 2 rfl ?_
  refine rx_iadd hG dX3_freeIfCan_4 ?_
  refine rx_istore_n (lv2 := [(3, .int ((3 * p0) + p1)), (0, .ref (adr E 52)), (1, .int p0), (2, .int p1)]) hG dX3_freeIfCan_5 (Nat.le_of_ble_eq_true rfl) rfl ?_
  refine rx_iload_n hG dX3_freeIfCan_6 2 rfl ?_
  refine rx_if_le hG 23 dX3_freeIfCan_7 rfl (fun c1 => ?_) (fun c1 => ?_)
  · have hf := ifT hf c1
    refine rx_sub hG [1, 0] (lv' := [(0, .ref (adr E 52)), (3, .int ((3 * p0) + p1))]) rfl ?_
    exact Lj_L_freeIfCan_52_23 l E T hG  ((3 * p0) + p1) hf
  · have hf := ifF hf c1
    refine rx_aload_n hG dX3_freeIfCan_10 1 rfl ?_
    refine gfX_L_9_52 l E T hG dX3_freeIfCan_11 ?_
    refine rx_iload_n hG dX3_freeIfCan_14 0 rfl ?_
    refine rx_iconst hG 3 dX3_freeIfCan_15 ic_3 ?_
    refine rx_isub hG dX3_freeIfCan_16 ?_
    obtain ⟨v2, hv2, hf⟩ := bindE hf
    refine rx_iald hG (skX53 T) hv2 dX3_freeIfCan_17 ?_
    refine rx_if_gt hG 23 dX3_freeIfCan_18 rfl (fun c3 => ?_) (fun c3 => ?_)
    · have hf := ifT hf c3
      refine rx_sub hG [1, 0] (lv' := [(0, .ref (adr E 52)), (3, .int ((3 * p0) + p1))]) rfl ?_
      exact Lj_L_freeIfCan_52_23 l E T hG  ((3 * p0) + p1) hf
    · have hf := ifF hf c3
      refine rx_iconst hG 0 dX3_freeIfCan_21 ic_0 ?_
      cases hf
      exact rx_iret hG dX3_freeIfCan_22
set_option maxHeartbeats 4000000 in
set_option maxRecDepth 100000 in
theorem Lj_L_chosen_52_126 (l : Launch) (E : En) (T : List Sk) {a0 b0 kc ks : Nat} {r : Int32} {M : Mm} {G : Nat → List (Nat × Value) → List Value → Mm → Prop} (hG : RX l (SKX ++ T) E RX3 cX3_chosen 9 (some .int) { frames := 1, cells := a0, slots := b0, locals := 23 } kc ks (some (.int r)) M G) (rc55 : Int32 → Int32 → Int32 → Int32 → Int32 → Mm → Option Int32) (hrc55 : ∀ (x1 : Int32) (x3 : Int32) (x4 : Int32) (x5 : Int32) (x6 : Int32), rc55 x1 x3 x4 x5 x6 M = some r → G 55 [(0, .ref (adr E 52)), (1, .int x1), (3, .int x3), (4, .int x4), (5, .int x5), (6, .int x6)] [] M) : ∀ (x1 : Int32) (x3 : Int32) (x4 : Int32) (x5 : Int32) (x6 : Int32), j_L_chosen_52_126 rc55 x1 x3 x4 x5 x6 M = some r → G 126 [(0, .ref (adr E 52)), (1, .int x1), (3, .int x3), (4, .int x4), (5, .int x5), (6, .int x6)] [] M := by
  intro x1 x3 x4 x5 x6 hf
  unfold j_L_chosen_52_126 at hf
  refine rx_iinc (lv2 := [(6, .int (x6 + 1)), (0, .ref (adr E 52)), (1, .int x1), (3, .int x3), (4, .int x4), (5, .int x5)]) hG 1 dX3_chosen_126 ic_1 5 rfl (Nat.le_of_ble_eq_true rfl) rfl ?_
  refine rx_goto hG 55 dX3_chosen_129 rfl ?_
  refine rx_sub hG [1, 2, 3, 4, 5, 0] (lv' := [(0, .ref (adr E 52)), (1, .int x1), (3, .int x3), (4, .int x4), (5, .int x5), (6, .int (x6 + 1))]) rfl ?_
  exact hrc55 x1 x3 x4 x5 (x6 + 1) hf
set_option maxHeartbeats 4000000 in
set_option maxRecDepth 100000 in
theorem Lj_L_chosen_52_111 (l : Launch) (E : En) (T : List Sk) {a0 b0 kc ks : Nat} {r : Int32} {M : Mm} {G : Nat → List (Nat × Value) → List Value → Mm → Prop} (hG : RX l (SKX ++ T) E RX3 cX3_chosen 9 (some .int) { frames := 1, cells := a0, slots := b0, locals := 23 } kc ks (some (.int r)) M G) (rc55 : Int32 → Int32 → Int32 → Int32 → Int32 → Mm → Option Int32) (hrc55 : ∀ (x1 : Int32) (x3 : Int32) (x4 : Int32) (x5 : Int32) (x6 : Int32), rc55 x1 x3 x4 x5 x6 M = some r → G 55 [(0, .ref (adr E 52)), (1, .int x1), (3, .int x3), (4, .int x4), (5, .int x5), (6, .int x6)] [] M) : ∀ (x1 : Int32) (x3 : Int32) (x4 : Int32) (x5 : Int32) (x6 : Int32) (x7 : Int32) (x8 : Int32), j_L_chosen_52_111 rc55 x1 x3 x4 x5 x6 x7 x8 M = some r → G 111 [(0, .ref (adr E 52)), (1, .int x1), (3, .int x3), (4, .int x4), (5, .int x5), (6, .int x6), (7, .int x7), (8, .int x8)] [] M := by
  intro x1 x3 x4 x5 x6 x7 x8 hf
  unfold j_L_chosen_52_111 at hf
  refine rx_iload hG dX3_chosen_111 7 rfl ?_
  refine rx_iload hG dX3_chosen_113 4 rfl ?_
  refine rx_icmp_le hG 126 dX3_chosen_115 rfl (fun c1 => ?_) (fun c1 => ?_)
  · have hf := ifT hf c1
    refine rx_sub hG [0, 1, 2, 3, 4, 5] (lv' := [(0, .ref (adr E 52)), (1, .int x1), (3, .int x3), (4, .int x4), (5, .int x5), (6, .int x6)]) rfl ?_
    exact Lj_L_chosen_52_126 l E T hG rc55 hrc55 x1 x3 x4 x5 x6 hf
  · have hf := ifF hf c1
    refine rx_iload hG dX3_chosen_118 6 rfl ?_
    refine rx_istore (lv2 := [(4, .int x7), (0, .ref (adr E 52)), (1, .int x1), (3, .int x3), (5, .int x5), (6, .int x6), (7, .int x7), (8, .int x8)]) hG dX3_chosen_120 (Nat.le_of_ble_eq_true rfl) rfl ?_
    refine rx_iload hG dX3_chosen_122 7 rfl ?_
    refine rx_istore (lv2 := [(5, .int x8), (4, .int x7), (0, .ref (adr E 52)), (1, .int x1), (3, .int x3), (6, .int x6), (7, .int x7), (8, .int x8)]) hG dX3_chosen_124 (Nat.le_of_ble_eq_true rfl) rfl ?_
    refine rx_sub hG [2, 3, 4, 1, 0, 5] (lv' := [(0, .ref (adr E 52)), (1, .int x1), (3, .int x3), (4, .int x7), (5, .int x8), (6, .int x6)]) rfl ?_
    exact Lj_L_chosen_52_126 l E T hG rc55 hrc55 x1 x3 x7 x8 x6 hf
set_option maxHeartbeats 4000000 in
set_option maxRecDepth 100000 in
theorem Lblp_L_chosen_52_55 (l : Launch) (E : En) (T : List Sk) {a0 b0 kc ks : Nat} {r : Int32} {M : Mm} {G : Nat → List (Nat × Value) → List Value → Mm → Prop} (hG : RX l (SKX ++ T) E RX3 cX3_chosen 9 (some .int) { frames := 1, cells := a0, slots := b0, locals := 23 } kc ks (some (.int r)) M G) (rc55 : Int32 → Int32 → Int32 → Int32 → Int32 → Mm → Option Int32) (hrc55 : ∀ (x1 : Int32) (x3 : Int32) (x4 : Int32) (x5 : Int32) (x6 : Int32), rc55 x1 x3 x4 x5 x6 M = some r → G 55 [(0, .ref (adr E 52)), (1, .int x1), (3, .int x3), (4, .int x4), (5, .int x5), (6, .int x6)] [] M) : ∀ (x1 : Int32) (x3 : Int32) (x4 : Int32) (x5 : Int32) (x6 : Int32), blp_L_chosen_52_55 rc55 x1 x3 x4 x5 x6 M = some r → G 55 [(0, .ref (adr E 52)), (1, .int x1), (3, .int x3), (4, .int x4), (5, .int x5), (6, .int x6)] [] M := by
  intro x1 x3 x4 x5 x6 hf
  unfold blp_L_chosen_52_55 at hf
  refine rx_iload hG dX3_chosen_55 5 rfl ?_
  refine rx_aload_n hG dX3_chosen_57 0 rfl ?_
  refine gfX_L_48_52 l E T hG dX3_chosen_58 ?_
  refine gfX_L_138_2 l E T hG dX3_chosen_61 ?_
  refine rx_icmp_ge hG 132 dX3_chosen_64 rfl (fun c1 => ?_) (fun c1 => ?_)
  · have hf := ifT hf c1
    refine rx_iload hG dX3_chosen_132 3 rfl ?_
    cases hf
    exact rx_iret hG dX3_chosen_134
  · have hf := ifF hf c1
    refine rx_iload_n hG dX3_chosen_67 2 rfl ?_
    refine rx_iload hG dX3_chosen_68 5 rfl ?_
    refine rx_iadd hG dX3_chosen_70 ?_
    refine rx_aload_n hG dX3_chosen_71 0 rfl ?_
    refine gfX_L_48_52 l E T hG dX3_chosen_72 ?_
    refine gfX_L_138_2 l E T hG dX3_chosen_75 ?_
    obtain ⟨v2, hv2, hf⟩ := bindE hf
    refine rx_cNi hG (c_P_remainder l E (SKX ++ T) (x3 + x6) (M.1 2 0) hv2) kw_L_128 ⟨Nat.le_of_ble_eq_true rfl, Nat.le_of_ble_eq_true rfl⟩ rfl (Nat.le_of_ble_eq_true rfl) dX3_chosen_78 ?_
    refine rx_istore (lv2 := [(7, .int v2), (0, .ref (adr E 52)), (1, .int x1), (3, .int x3), (4, .int x4), (5, .int x5), (6, .int x6)]) hG dX3_chosen_81 (Nat.le_of_ble_eq_true rfl) rfl ?_
    refine rx_aload_n hG dX3_chosen_83 1 rfl ?_
    refine rx_iload_n hG dX3_chosen_84 2 rfl ?_
    refine rx_iload hG dX3_chosen_85 0 rfl ?_
    obtain ⟨v3, hv3, hf⟩ := bindE hf
    refine rx_cVi hG (c_L_freeIfCan_52 l E T x1 v2 hv3) (skX52 T) rfl rfl kw_L_172 ⟨Nat.le_of_ble_eq_true rfl, Nat.le_of_ble_eq_true rfl⟩ rfl (Nat.le_of_ble_eq_true rfl) dX3_chosen_87 ?_
    refine rx_istore (lv2 := [(8, .int v3), (7, .int v2), (0, .ref (adr E 52)), (1, .int x1), (3, .int x3), (4, .int x4), (5, .int x5), (6, .int x6)]) hG dX3_chosen_90 (Nat.le_of_ble_eq_true rfl) rfl ?_
    refine rx_iload hG dX3_chosen_92 0 rfl ?_
    refine rx_if_le hG 111 dX3_chosen_94 rfl (fun c4 => ?_) (fun c4 => ?_)
    · have hf := ifT hf c4
      refine rx_sub hG [2, 3, 4, 5, 6, 7, 1, 0] (lv' := [(0, .ref (adr E 52)), (1, .int x1), (3, .int x3), (4, .int x4), (5, .int x5), (6, .int x6), (7, .int v2), (8, .int v3)]) rfl ?_
      exact Lj_L_chosen_52_111 l E T hG rc55 hrc55 x1 x3 x4 x5 x6 v2 v3 hf
    · have hf := ifF hf c4
      refine rx_aload_n hG dX3_chosen_97 2 rfl ?_
      refine gfX_L_52_52 l E T hG dX3_chosen_98 ?_
      refine gfX_L_169_49 l E T hG dX3_chosen_101 ?_
      refine rx_iconst hG 1 dX3_chosen_104 ic_1 ?_
      refine rx_icmp_eq hG 111 dX3_chosen_105 rfl (fun c5 => ?_) (fun c5 => ?_)
      · have hf := ifT hf c5
        refine rx_sub hG [2, 3, 4, 5, 6, 7, 1, 0] (lv' := [(0, .ref (adr E 52)), (1, .int x1), (3, .int x3), (4, .int x4), (5, .int x5), (6, .int x6), (7, .int v2), (8, .int v3)]) rfl ?_
        exact Lj_L_chosen_52_111 l E T hG rc55 hrc55 x1 x3 x4 x5 x6 v2 v3 hf
      · have hf := ifF hf c5
        refine rx_iload hG dX3_chosen_108 1 rfl ?_
        cases hf
        exact rx_iret hG dX3_chosen_110
theorem Llp_L_chosen_52_55 (l : Launch) (E : En) (T : List Sk) {a0 b0 kc ks : Nat} {r : Int32} {M : Mm} {G : Nat → List (Nat × Value) → List Value → Mm → Prop} (hG : RX l (SKX ++ T) E RX3 cX3_chosen 9 (some .int) { frames := 1, cells := a0, slots := b0, locals := 23 } kc ks (some (.int r)) M G)  : ∀ (n : Nat) (x1 : Int32) (x3 : Int32) (x4 : Int32) (x5 : Int32) (x6 : Int32), lp_L_chosen_52_55  n x1 x3 x4 x5 x6 M = some r → G 55 [(0, .ref (adr E 52)), (1, .int x1), (3, .int x3), (4, .int x4), (5, .int x5), (6, .int x6)] [] M := by
  intro n
  induction n with
  | zero => intro x1 x3 x4 x5 x6 hf; cases hf
  | succ n ih => intro x1 x3 x4 x5 x6 hf; exact Lblp_L_chosen_52_55 l E T hG  (lp_L_chosen_52_55  n) ih x1 x3 x4 x5 x6 hf
set_option maxHeartbeats 4000000 in
set_option maxRecDepth 100000 in
theorem Lj_L_chosen_52_44 (l : Launch) (E : En) (T : List Sk) {a0 b0 kc ks : Nat} {r : Int32} {M : Mm} {G : Nat → List (Nat × Value) → List Value → Mm → Prop} (hG : RX l (SKX ++ T) E RX3 cX3_chosen 9 (some .int) { frames := 1, cells := a0, slots := b0, locals := 23 } kc ks (some (.int r)) M G)  : ∀ (x1 : Int32) (t0 : Int32), j_L_chosen_52_44  x1 t0 M = some r → G 44 [(0, .ref (adr E 52)), (1, .int x1)] [.int t0] M := by
  intro x1 t0 hf
  unfold j_L_chosen_52_44 at hf
  refine rx_istore_n (lv2 := [(3, .int t0), (0, .ref (adr E 52)), (1, .int x1)]) hG dX3_chosen_44 (Nat.le_of_ble_eq_true rfl) rfl ?_
  refine rx_bipush hG (-2) dX3_chosen_45 bp_m2 ?_
  refine rx_istore (lv2 := [(4, .int (-2)), (3, .int t0), (0, .ref (adr E 52)), (1, .int x1)]) hG dX3_chosen_47 (Nat.le_of_ble_eq_true rfl) rfl ?_
  refine rx_iconst hG 0 dX3_chosen_49 ic_0 ?_
  refine rx_istore (lv2 := [(5, .int 0), (4, .int (-2)), (3, .int t0), (0, .ref (adr E 52)), (1, .int x1)]) hG dX3_chosen_50 (Nat.le_of_ble_eq_true rfl) rfl ?_
  refine rx_iconst hG 0 dX3_chosen_52 ic_0 ?_
  refine rx_istore (lv2 := [(6, .int 0), (5, .int 0), (4, .int (-2)), (3, .int t0), (0, .ref (adr E 52)), (1, .int x1)]) hG dX3_chosen_53 (Nat.le_of_ble_eq_true rfl) rfl ?_
  refine rx_sub hG [4, 5, 3, 2, 1, 0] (lv' := [(0, .ref (adr E 52)), (1, .int x1), (3, .int t0), (4, .int (-2)), (5, .int 0), (6, .int 0)]) rfl ?_
  exact Llp_L_chosen_52_55 l E T hG  FW x1 t0 (-2) 0 0 hf
set_option maxHeartbeats 4000000 in
set_option maxRecDepth 100000 in
theorem Lj_L_chosen_52_27 (l : Launch) (E : En) (T : List Sk) {a0 b0 kc ks : Nat} {r : Int32} {M : Mm} {G : Nat → List (Nat × Value) → List Value → Mm → Prop} (hG : RX l (SKX ++ T) E RX3 cX3_chosen 9 (some .int) { frames := 1, cells := a0, slots := b0, locals := 23 } kc ks (some (.int r)) M G)  : ∀ (x1 : Int32) (t0 : Int32), j_L_chosen_52_27  x1 t0 M = some r → G 27 [(0, .ref (adr E 52)), (1, .int x1)] [.int t0] M := by
  intro x1 t0 hf
  unfold j_L_chosen_52_27 at hf
  refine rx_istore_n (lv2 := [(2, .int t0), (0, .ref (adr E 52)), (1, .int x1)]) hG dX3_chosen_27 (Nat.le_of_ble_eq_true rfl) rfl ?_
  refine rx_iload_n hG dX3_chosen_28 0 rfl ?_
  refine rx_if_eq hG 43 dX3_chosen_29 rfl (fun c1 => ?_) (fun c1 => ?_)
  · have hf := ifT hf c1
    refine rx_iconst hG 0 dX3_chosen_43 ic_0 ?_
    refine rx_sub hG [1, 2] (lv' := [(0, .ref (adr E 52)), (1, .int x1)]) rfl ?_
    exact Lj_L_chosen_52_44 l E T hG  x1 0 hf
  · have hf := ifF hf c1
    refine rx_aload_n hG dX3_chosen_32 1 rfl ?_
    refine gfX_L_21_52 l E T hG dX3_chosen_33 ?_
    refine rx_iload_n hG dX3_chosen_36 2 rfl ?_
    obtain ⟨v2, hv2, hf⟩ := bindE hf
    refine rx_iald hG (skX56 T) hv2 dX3_chosen_37 ?_
    refine rx_iconst hG 1 dX3_chosen_38 ic_1 ?_
    refine rx_iadd hG dX3_chosen_39 ?_
    refine rx_goto hG 44 dX3_chosen_40 rfl ?_
    refine rx_sub hG [1, 2] (lv' := [(0, .ref (adr E 52)), (1, .int x1)]) rfl ?_
    exact Lj_L_chosen_52_44 l E T hG  x1 (v2 + 1) hf
set_option maxHeartbeats 4000000 in
set_option maxRecDepth 100000 in
theorem Lj_L_chosen_52_26 (l : Launch) (E : En) (T : List Sk) {a0 b0 kc ks : Nat} {r : Int32} {M : Mm} {G : Nat → List (Nat × Value) → List Value → Mm → Prop} (hG : RX l (SKX ++ T) E RX3 cX3_chosen 9 (some .int) { frames := 1, cells := a0, slots := b0, locals := 23 } kc ks (some (.int r)) M G)  : ∀ (x1 : Int32), j_L_chosen_52_26  x1 M = some r → G 26 [(0, .ref (adr E 52)), (1, .int x1)] [] M := by
  intro x1 hf
  unfold j_L_chosen_52_26 at hf
  refine rx_iconst hG 0 dX3_chosen_26 ic_0 ?_
  exact Lj_L_chosen_52_27 l E T hG  x1 0 hf
set_option maxHeartbeats 4000000 in
set_option maxRecDepth 100000 in
theorem c_L_chosen_52 (l : Launch) (E : En) (T : List Sk) (p0 : Int32) {M : Mm} {r : Int32} (h : f_L_chosen_52 p0 M = some r) : Ct l (SKX ++ T) E yX3_chosen cX3_chosen 9 (some .int) 1 23 [.ref (adr E 52), .int p0] M (some (.int r)) M := by
  refine ct_of (by decide) (Nat.le_of_ble_eq_true rfl) ?_
  intro G hG
  show G 0 [(0, .ref (adr E 52)), (1, .int p0)] [] M
  have hf := h
  unfold f_L_chosen_52 at hf
  refine rx_aload_n hG dX3_chosen_0 0 rfl ?_
  refine gfX_L_52_52 l E T hG dX3_chosen_1 ?_
  refine gfX_L_169_49 l E T hG dX3_chosen_4 ?_
  refine rx_iconst hG 2 dX3_chosen_7 ic_2 ?_
  refine rx_icmp_ne hG 26 dX3_chosen_8 rfl (fun c1 => ?_) (fun c1 => ?_)
  · have hf := ifF hf c1
    exact Lj_L_chosen_52_26 l E T hG  p0 hf
  · have hf := ifT hf c1
    refine rx_aload_n hG dX3_chosen_11 0 rfl ?_
    refine gfX_L_21_52 l E T hG dX3_chosen_12 ?_
    refine rx_iload_n hG dX3_chosen_15 1 rfl ?_
    obtain ⟨v2, hv2, hf⟩ := bindE hf
    refine rx_iald hG (skX56 T) hv2 dX3_chosen_16 ?_
    refine rx_bipush hG (-2) dX3_chosen_17 bp_m2 ?_
    refine rx_icmp_eq hG 26 dX3_chosen_19 rfl (fun c3 => ?_) (fun c3 => ?_)
    · have hf := ifT hf c3
      exact Lj_L_chosen_52_26 l E T hG  p0 hf
    · have hf := ifF hf c3
      refine rx_iconst hG 1 dX3_chosen_22 ic_1 ?_
      refine rx_goto hG 27 dX3_chosen_23 rfl ?_
      exact Lj_L_chosen_52_27 l E T hG  p0 1 hf
set_option maxHeartbeats 4000000 in
set_option maxRecDepth 100000 in
theorem Lj_L_deliver_52_37 (l : Launch) (E : En) (T : List Sk) {a0 b0 kc ks : Nat} {M' : Mm} {G : Nat → List (Nat × Value) → List Value → Mm → Prop} (hG : RX l (SKX ++ T) E RX3 cX3_deliver 4 none { frames := 1, cells := a0, slots := b0, locals := 21 } kc ks none M' G)  : ∀ (x1 : Int32) (x2 : Int32) (t0 : Int32) (M : Mm), j_L_deliver_52_37  x1 x2 t0 M = some M' → G 37 [(0, .ref (adr E 52)), (1, .int x1), (2, .int x2)] [.int t0] M := by
  intro x1 x2 t0 M hf
  unfold j_L_deliver_52_37 at hf
  refine rx_istore_n (lv2 := [(3, .int t0), (0, .ref (adr E 52)), (1, .int x1), (2, .int x2)]) hG dX3_deliver_37 (Nat.le_of_ble_eq_true rfl) rfl ?_
  refine rx_iload_n hG dX3_deliver_38 0 rfl ?_
  refine rx_if_le hG 103 dX3_deliver_39 rfl (fun c1 => ?_) (fun c1 => ?_)
  · have hf := ifT hf c1
    cases hf
    exact rx_vret hG dX3_deliver_103
  · have hf := ifF hf c1
    refine rx_aload_n hG dX3_deliver_42 1 rfl ?_
    refine gfX_L_39_52 l E T hG dX3_deliver_43 ?_
    refine rx_iload_n hG dX3_deliver_46 2 rfl ?_
    refine rx_dup2 hG dX3_deliver_47 rfl rfl ?_
    obtain ⟨v2, hv2, hf⟩ := bindE hf
    refine rx_iald hG (skX62 T) hv2 dX3_deliver_48 ?_
    refine rx_iload_n hG dX3_deliver_49 0 rfl ?_
    refine rx_isub hG dX3_deliver_50 ?_
    obtain ⟨M3, hM3, hf⟩ := bindE hf
    refine rx_iast hG (skX62 T) hM3 dX3_deliver_51 ?_
    refine rx_aload_n hG dX3_deliver_52 1 rfl ?_
    refine gfX_L_9_52 l E T hG dX3_deliver_53 ?_
    refine rx_iload_n hG dX3_deliver_56 3 rfl ?_
    refine rx_dup2 hG dX3_deliver_57 rfl rfl ?_
    obtain ⟨v4, hv4, hf⟩ := bindE hf
    refine rx_iald hG (skX53 T) hv4 dX3_deliver_58 ?_
    refine rx_iload_n hG dX3_deliver_59 0 rfl ?_
    refine rx_isub hG dX3_deliver_60 ?_
    obtain ⟨M5, hM5, hf⟩ := bindE hf
    refine rx_iast hG (skX53 T) hM5 dX3_deliver_61 ?_
    refine rx_aload_n hG dX3_deliver_62 1 rfl ?_
    refine gfX_L_15_52 l E T hG dX3_deliver_63 ?_
    refine rx_iload_n hG dX3_deliver_66 3 rfl ?_
    refine rx_dup2 hG dX3_deliver_67 rfl rfl ?_
    obtain ⟨v6, hv6, hf⟩ := bindE hf
    refine rx_iald hG (skX54 T) hv6 dX3_deliver_68 ?_
    refine rx_iload_n hG dX3_deliver_69 0 rfl ?_
    refine rx_isub hG dX3_deliver_70 ?_
    obtain ⟨M7, hM7, hf⟩ := bindE hf
    refine rx_iast hG (skX54 T) hM7 dX3_deliver_71 ?_
    refine rx_aload_n hG dX3_deliver_72 1 rfl ?_
    refine rx_dup hG dX3_deliver_73 rfl ?_
    refine gfX_L_77_52 l E T hG dX3_deliver_74 ?_
    refine rx_iload_n hG dX3_deliver_77 0 rfl ?_
    refine rx_iadd hG dX3_deliver_78 ?_
    obtain ⟨M8, hM8, hf⟩ := bindE hf
    refine pfX_L_77_52 l E T hG hM8 dX3_deliver_79 ?_
    refine rx_aload_n hG dX3_deliver_82 1 rfl ?_
    refine gfX_L_45_52 l E T hG dX3_deliver_83 ?_
    refine rx_iload_n hG dX3_deliver_86 2 rfl ?_
    obtain ⟨v9, hv9, hf⟩ := bindE hf
    refine rx_iald hG (skX64 T) hv9 dX3_deliver_87 ?_
    refine rx_bipush hG (-2) dX3_deliver_88 bp_m2 ?_
    refine rx_icmp_ne hG 103 dX3_deliver_90 rfl (fun c10 => ?_) (fun c10 => ?_)
    · have hf := ifF hf c10
      cases hf
      exact rx_vret hG dX3_deliver_103
    · have hf := ifT hf c10
      refine rx_aload_n hG dX3_deliver_93 1 rfl ?_
      refine gfX_L_45_52 l E T hG dX3_deliver_94 ?_
      refine rx_iload_n hG dX3_deliver_97 2 rfl ?_
      refine rx_aload_n hG dX3_deliver_98 1 rfl ?_
      refine gfX_L_73_52 l E T hG dX3_deliver_99 ?_
      obtain ⟨M11, hM11, hf⟩ := bindE hf
      refine rx_iast hG (skX64 T) hM11 dX3_deliver_102 ?_
      cases hf
      exact rx_vret hG dX3_deliver_103
set_option maxHeartbeats 4000000 in
set_option maxRecDepth 100000 in
theorem c_L_deliver_52 (l : Launch) (E : En) (T : List Sk) (p0 : Int32) {M M' : Mm} (h : f_L_deliver_52 p0 M = some M') : Ct l (SKX ++ T) E yX3_deliver cX3_deliver 4 none 1 21 [.ref (adr E 52), .int p0] M none M' := by
  refine ct_of (by decide) (Nat.le_of_ble_eq_true rfl) ?_
  intro G hG
  show G 0 [(0, .ref (adr E 52)), (1, .int p0)] [] M
  have hf := h
  unfold f_L_deliver_52 at hf
  refine rx_aload_n hG dX3_deliver_0 0 rfl ?_
  refine gfX_L_48_52 l E T hG dX3_deliver_1 ?_
  refine gfX_L_102_2 l E T hG dX3_deliver_4 ?_
  refine rx_iconst hG 1 dX3_deliver_7 ic_1 ?_
  refine rx_isub hG dX3_deliver_8 ?_
  refine rx_iload_n hG dX3_deliver_9 1 rfl ?_
  obtain ⟨v1, hv1, hf⟩ := bindE hf
  refine rx_cNi hG (c_P_cell l E (SKX ++ T) ((M.1 2 1) - 1) p0 hv1) kw_L_151 ⟨Nat.le_of_ble_eq_true rfl, Nat.le_of_ble_eq_true rfl⟩ rfl (Nat.le_of_ble_eq_true rfl) dX3_deliver_10 ?_
  refine rx_istore_n (lv2 := [(2, .int v1), (0, .ref (adr E 52)), (1, .int p0)]) hG dX3_deliver_13 (Nat.le_of_ble_eq_true rfl) rfl ?_
  refine rx_iload_n hG dX3_deliver_14 0 rfl ?_
  refine rx_if_lt hG 36 dX3_deliver_15 rfl (fun c2 => ?_) (fun c2 => ?_)
  · have hf := ifT hf c2
    refine rx_iconst hG 0 dX3_deliver_36 ic_0 ?_
    refine rx_sub hG [1, 2, 0] (lv' := [(0, .ref (adr E 52)), (1, .int p0), (2, .int v1)]) rfl ?_
    exact Lj_L_deliver_52_37 l E T hG  p0 v1 0 M hf
  · have hf := ifF hf c2
    refine rx_aload_n hG dX3_deliver_18 1 rfl ?_
    refine gfX_L_39_52 l E T hG dX3_deliver_19 ?_
    refine rx_iload_n hG dX3_deliver_22 2 rfl ?_
    obtain ⟨v3, hv3, hf⟩ := bindE hf
    refine rx_iald hG (skX62 T) hv3 dX3_deliver_23 ?_
    refine rx_aload_n hG dX3_deliver_24 1 rfl ?_
    refine gfX_L_9_52 l E T hG dX3_deliver_25 ?_
    refine rx_iload_n hG dX3_deliver_28 0 rfl ?_
    obtain ⟨v4, hv4, hf⟩ := bindE hf
    refine rx_iald hG (skX53 T) hv4 dX3_deliver_29 ?_
    refine rx_min hG kw_L_113 ⟨Nat.le_of_ble_eq_true rfl, Nat.le_of_ble_eq_true rfl⟩ dX3_deliver_30 ?_
    refine rx_goto hG 37 dX3_deliver_33 rfl ?_
    refine rx_sub hG [1, 2, 0] (lv' := [(0, .ref (adr E 52)), (1, .int p0), (2, .int v1)]) rfl ?_
    exact Lj_L_deliver_52_37 l E T hG  p0 v1 (mn v3 v4) M hf
set_option maxHeartbeats 4000000 in
set_option maxRecDepth 100000 in
theorem c_L_takeOrder_52 (l : Launch) (E : En) (T : List Sk) (p0 : Int32) {M M' : Mm} (h : f_L_takeOrder_52 p0 M = some M') : Ct l (SKX ++ T) E yX3_takeOrder cX3_takeOrder 4 none 1 21 [.ref (adr E 52), .int p0] M none M' := by
  refine ct_of (by decide) (Nat.le_of_ble_eq_true rfl) ?_
  intro G hG
  show G 0 [(0, .ref (adr E 52)), (1, .int p0)] [] M
  have hf := h
  unfold f_L_takeOrder_52 at hf
  refine rx_aload_n hG dX3_takeOrder_0 0 rfl ?_
  refine gfX_L_73_52 l E T hG dX3_takeOrder_1 ?_
  refine rx_aload_n hG dX3_takeOrder_4 0 rfl ?_
  refine gfX_L_48_52 l E T hG dX3_takeOrder_5 ?_
  refine gfX_L_122_2 l E T hG dX3_takeOrder_8 ?_
  refine rx_iload_n hG dX3_takeOrder_11 1 rfl ?_
  obtain ⟨v1, hv1, hf⟩ := bindE hf
  refine rx_iald hG (skX8 T) hv1 dX3_takeOrder_12 ?_
  refine rx_isub hG dX3_takeOrder_13 ?_
  refine rx_istore_n (lv2 := [(2, .int ((M.1 52 14) - v1)), (0, .ref (adr E 52)), (1, .int p0)]) hG dX3_takeOrder_14 (Nat.le_of_ble_eq_true rfl) rfl ?_
  refine rx_iload_n hG dX3_takeOrder_15 0 rfl ?_
  refine rx_if_lt hG 65 dX3_takeOrder_16 rfl (fun c2 => ?_) (fun c2 => ?_)
  · have hf := ifT hf c2
    cases hf
    exact rx_vret hG dX3_takeOrder_65
  · have hf := ifF hf c2
    refine rx_iload_n hG dX3_takeOrder_19 0 rfl ?_
    refine rx_aload_n hG dX3_takeOrder_20 1 rfl ?_
    refine gfX_L_48_52 l E T hG dX3_takeOrder_21 ?_
    refine gfX_L_125_2 l E T hG dX3_takeOrder_24 ?_
    refine rx_iload_n hG dX3_takeOrder_27 2 rfl ?_
    obtain ⟨v3, hv3, hf⟩ := bindE hf
    refine rx_iald hG (skX7 T) hv3 dX3_takeOrder_28 ?_
    obtain ⟨v4, hv4, hf⟩ := bindE hf
    refine rx_cNi hG (c_P_remainder l E (SKX ++ T) ((M.1 52 14) - v1) v3 hv4) kw_L_128 ⟨Nat.le_of_ble_eq_true rfl, Nat.le_of_ble_eq_true rfl⟩ rfl (Nat.le_of_ble_eq_true rfl) dX3_takeOrder_29 ?_
    refine rx_if_ne hG 65 dX3_takeOrder_32 rfl (fun c5 => ?_) (fun c5 => ?_)
    · have hf := ifF hf c5
      cases hf
      exact rx_vret hG dX3_takeOrder_65
    · have hf := ifT hf c5
      refine rx_aload_n hG dX3_takeOrder_35 1 rfl ?_
      refine gfX_L_48_52 l E T hG dX3_takeOrder_36 ?_
      refine gfX_L_160_2 l E T hG dX3_takeOrder_39 ?_
      refine rx_iload_n hG dX3_takeOrder_42 2 rfl ?_
      obtain ⟨v6, hv6, hf⟩ := bindE hf
      refine rx_iald hG (skX6 T) hv6 dX3_takeOrder_43 ?_
      refine rx_istore_n (lv2 := [(3, .int v6), (2, .int ((M.1 52 14) - v1)), (0, .ref (adr E 52)), (1, .int p0)]) hG dX3_takeOrder_44 (Nat.le_of_ble_eq_true rfl) rfl ?_
      refine rx_aload_n hG dX3_takeOrder_45 2 rfl ?_
      refine gfX_L_36_52 l E T hG dX3_takeOrder_46 ?_
      refine rx_iload_n hG dX3_takeOrder_49 0 rfl ?_
      refine rx_dup2 hG dX3_takeOrder_50 rfl rfl ?_
      obtain ⟨v7, hv7, hf⟩ := bindE hf
      refine rx_iald hG (skX61 T) hv7 dX3_takeOrder_51 ?_
      refine rx_iconst hG 1 dX3_takeOrder_52 ic_1 ?_
      refine rx_iadd hG dX3_takeOrder_53 ?_
      obtain ⟨M8, hM8, hf⟩ := bindE hf
      refine rx_iast hG (skX61 T) hM8 dX3_takeOrder_54 ?_
      refine rx_aload_n hG dX3_takeOrder_55 2 rfl ?_
      refine gfX_L_39_52 l E T hG dX3_takeOrder_56 ?_
      refine rx_iload_n hG dX3_takeOrder_59 0 rfl ?_
      refine rx_dup2 hG dX3_takeOrder_60 rfl rfl ?_
      obtain ⟨v9, hv9, hf⟩ := bindE hf
      refine rx_iald hG (skX62 T) hv9 dX3_takeOrder_61 ?_
      refine rx_iconst hG 1 dX3_takeOrder_62 ic_1 ?_
      refine rx_iadd hG dX3_takeOrder_63 ?_
      obtain ⟨M10, hM10, hf⟩ := bindE hf
      refine rx_iast hG (skX62 T) hM10 dX3_takeOrder_64 ?_
      cases hf
      exact rx_vret hG dX3_takeOrder_65
set_option maxHeartbeats 4000000 in
set_option maxRecDepth 100000 in
theorem Lj_L_endAt_52_69 (l : Launch) (E : En) (T : List Sk) {a0 b0 kc ks : Nat} {M' : Mm} {G : Nat → List (Nat × Value) → List Value → Mm → Prop} (hG : RX l (SKX ++ T) E RX3 cX3_endAt 2 none { frames := 1, cells := a0, slots := b0, locals := 21 } kc ks none M' G)  : ∀ (x1 : Int32) (M : Mm), j_L_endAt_52_69  x1 M = some M' → G 69 [(0, .ref (adr E 52)), (1, .int x1)] [] M := by
  intro x1 M hf
  unfold j_L_endAt_52_69 at hf
  refine rx_aload_n hG dX3_endAt_69 0 rfl ?_
  refine gfX_L_27_52 l E T hG dX3_endAt_70 ?_
  refine rx_iload_n hG dX3_endAt_73 1 rfl ?_
  refine rx_dup2 hG dX3_endAt_74 rfl rfl ?_
  obtain ⟨v1, hv1, hf⟩ := bindE hf
  refine rx_iald hG (skX58 T) hv1 dX3_endAt_75 ?_
  refine rx_iconst hG 1 dX3_endAt_76 ic_1 ?_
  refine rx_iadd hG dX3_endAt_77 ?_
  obtain ⟨M2, hM2, hf⟩ := bindE hf
  refine rx_iast hG (skX58 T) hM2 dX3_endAt_78 ?_
  refine rx_aload_n hG dX3_endAt_79 0 rfl ?_
  refine gfX_L_18_52 l E T hG dX3_endAt_80 ?_
  refine rx_iload_n hG dX3_endAt_83 1 rfl ?_
  refine rx_iconst hG 0 dX3_endAt_84 ic_0 ?_
  obtain ⟨M3, hM3, hf⟩ := bindE hf
  refine rx_iast hG (skX55 T) hM3 dX3_endAt_85 ?_
  refine rx_aload_n hG dX3_endAt_86 0 rfl ?_
  refine gfX_L_48_52 l E T hG dX3_endAt_87 ?_
  refine gfX_L_154_2 l E T hG dX3_endAt_90 ?_
  refine rx_iload_n hG dX3_endAt_93 1 rfl ?_
  obtain ⟨v4, hv4, hf⟩ := bindE hf
  refine rx_iald hG (skX5 T) hv4 dX3_endAt_94 ?_
  refine rx_if_le hG 146 dX3_endAt_95 rfl (fun c5 => ?_) (fun c5 => ?_)
  · have hf := ifT hf c5
    cases hf
    exact rx_vret hG dX3_endAt_146
  · have hf := ifF hf c5
    refine rx_aload_n hG dX3_endAt_98 0 rfl ?_
    refine gfX_L_27_52 l E T hG dX3_endAt_99 ?_
    refine rx_iload_n hG dX3_endAt_102 1 rfl ?_
    obtain ⟨v6, hv6, hf⟩ := bindE hf
    refine rx_iald hG (skX58 T) hv6 dX3_endAt_103 ?_
    refine rx_aload_n hG dX3_endAt_104 0 rfl ?_
    refine gfX_L_48_52 l E T hG dX3_endAt_105 ?_
    refine gfX_L_154_2 l E T hG dX3_endAt_108 ?_
    refine rx_iload_n hG dX3_endAt_111 1 rfl ?_
    obtain ⟨v7, hv7, hf⟩ := bindE hf
    refine rx_iald hG (skX5 T) hv7 dX3_endAt_112 ?_
    obtain ⟨v8, hv8, hf⟩ := bindE hf
    refine rx_cNi hG (c_P_remainder l E (SKX ++ T) v6 v7 hv8) kw_L_128 ⟨Nat.le_of_ble_eq_true rfl, Nat.le_of_ble_eq_true rfl⟩ rfl (Nat.le_of_ble_eq_true rfl) dX3_endAt_113 ?_
    refine rx_if_ne hG 146 dX3_endAt_116 rfl (fun c9 => ?_) (fun c9 => ?_)
    · have hf := ifF hf c9
      cases hf
      exact rx_vret hG dX3_endAt_146
    · have hf := ifT hf c9
      refine rx_aload_n hG dX3_endAt_119 0 rfl ?_
      refine gfX_L_18_52 l E T hG dX3_endAt_120 ?_
      refine rx_iload_n hG dX3_endAt_123 1 rfl ?_
      refine rx_iconst hG 2 dX3_endAt_124 ic_2 ?_
      obtain ⟨M10, hM10, hf⟩ := bindE hf
      refine rx_iast hG (skX55 T) hM10 dX3_endAt_125 ?_
      refine rx_aload_n hG dX3_endAt_126 0 rfl ?_
      refine gfX_L_24_52 l E T hG dX3_endAt_127 ?_
      refine rx_iload_n hG dX3_endAt_130 1 rfl ?_
      refine rx_aload_n hG dX3_endAt_131 0 rfl ?_
      refine gfX_L_73_52 l E T hG dX3_endAt_132 ?_
      refine rx_aload_n hG dX3_endAt_135 0 rfl ?_
      refine gfX_L_48_52 l E T hG dX3_endAt_136 ?_
      refine gfX_L_157_2 l E T hG dX3_endAt_139 ?_
      refine rx_iload_n hG dX3_endAt_142 1 rfl ?_
      obtain ⟨v11, hv11, hf⟩ := bindE hf
      refine rx_iald hG (skX4 T) hv11 dX3_endAt_143 ?_
      refine rx_iadd hG dX3_endAt_144 ?_
      obtain ⟨M12, hM12, hf⟩ := bindE hf
      refine rx_iast hG (skX57 T) hM12 dX3_endAt_145 ?_
      cases hf
      exact rx_vret hG dX3_endAt_146
set_option maxHeartbeats 4000000 in
set_option maxRecDepth 100000 in
theorem c_L_endAt_52 (l : Launch) (E : En) (T : List Sk) (p0 : Int32) {M M' : Mm} (h : f_L_endAt_52 p0 M = some M') : Ct l (SKX ++ T) E yX3_endAt cX3_endAt 2 none 1 21 [.ref (adr E 52), .int p0] M none M' := by
  refine ct_of (by decide) (Nat.le_of_ble_eq_true rfl) ?_
  intro G hG
  show G 0 [(0, .ref (adr E 52)), (1, .int p0)] [] M
  have hf := h
  unfold f_L_endAt_52 at hf
  refine rx_aload_n hG dX3_endAt_0 0 rfl ?_
  refine gfX_L_18_52 l E T hG dX3_endAt_1 ?_
  refine rx_iload_n hG dX3_endAt_4 1 rfl ?_
  obtain ⟨v1, hv1, hf⟩ := bindE hf
  refine rx_iald hG (skX55 T) hv1 dX3_endAt_5 ?_
  refine rx_if_eq hG 22 dX3_endAt_6 rfl (fun c2 => ?_) (fun c2 => ?_)
  · have hf := ifT hf c2
    cases hf
    exact rx_vret hG dX3_endAt_22
  · have hf := ifF hf c2
    refine rx_aload_n hG dX3_endAt_9 0 rfl ?_
    refine gfX_L_24_52 l E T hG dX3_endAt_10 ?_
    refine rx_iload_n hG dX3_endAt_13 1 rfl ?_
    obtain ⟨v3, hv3, hf⟩ := bindE hf
    refine rx_iald hG (skX57 T) hv3 dX3_endAt_14 ?_
    refine rx_aload_n hG dX3_endAt_15 0 rfl ?_
    refine gfX_L_73_52 l E T hG dX3_endAt_16 ?_
    refine rx_icmp_eq hG 23 dX3_endAt_19 rfl (fun c4 => ?_) (fun c4 => ?_)
    · have hf := ifT hf c4
      refine rx_aload_n hG dX3_endAt_23 0 rfl ?_
      refine gfX_L_18_52 l E T hG dX3_endAt_24 ?_
      refine rx_iload_n hG dX3_endAt_27 1 rfl ?_
      obtain ⟨v5, hv5, hf⟩ := bindE hf
      refine rx_iald hG (skX55 T) hv5 dX3_endAt_28 ?_
      refine rx_iconst hG 2 dX3_endAt_29 ic_2 ?_
      refine rx_icmp_ne hG 41 dX3_endAt_30 rfl (fun c6 => ?_) (fun c6 => ?_)
      · have hf := ifF hf c6
        refine rx_aload_n hG dX3_endAt_41 0 rfl ?_
        refine gfX_L_21_52 l E T hG dX3_endAt_42 ?_
        refine rx_iload_n hG dX3_endAt_45 1 rfl ?_
        obtain ⟨v7, hv7, hf⟩ := bindE hf
        refine rx_iald hG (skX56 T) hv7 dX3_endAt_46 ?_
        refine rx_if_lt hG 69 dX3_endAt_47 rfl (fun c8 => ?_) (fun c8 => ?_)
        · have hf := ifT hf c8
          exact Lj_L_endAt_52_69 l E T hG  p0 M hf
        · have hf := ifF hf c8
          refine rx_aload_n hG dX3_endAt_50 0 rfl ?_
          refine gfX_L_9_52 l E T hG dX3_endAt_51 ?_
          refine rx_iload_n hG dX3_endAt_54 1 rfl ?_
          refine rx_aload_n hG dX3_endAt_55 0 rfl ?_
          refine gfX_L_21_52 l E T hG dX3_endAt_56 ?_
          refine rx_iload_n hG dX3_endAt_59 1 rfl ?_
          obtain ⟨v9, hv9, hf⟩ := bindE hf
          refine rx_iald hG (skX56 T) hv9 dX3_endAt_60 ?_
          obtain ⟨v10, hv10, hf⟩ := bindE hf
          refine rx_cNi hG (c_P_cell l E (SKX ++ T) p0 v9 hv10) kw_L_151 ⟨Nat.le_of_ble_eq_true rfl, Nat.le_of_ble_eq_true rfl⟩ rfl (Nat.le_of_ble_eq_true rfl) dX3_endAt_61 ?_
          refine rx_dup2 hG dX3_endAt_64 rfl rfl ?_
          obtain ⟨v11, hv11, hf⟩ := bindE hf
          refine rx_iald hG (skX53 T) hv11 dX3_endAt_65 ?_
          refine rx_iconst hG 1 dX3_endAt_66 ic_1 ?_
          refine rx_iadd hG dX3_endAt_67 ?_
          obtain ⟨M12, hM12, hf⟩ := bindE hf
          refine rx_iast hG (skX53 T) hM12 dX3_endAt_68 ?_
          exact Lj_L_endAt_52_69 l E T hG  p0 M12 hf
      · have hf := ifT hf c6
        refine rx_aload_n hG dX3_endAt_33 0 rfl ?_
        refine gfX_L_18_52 l E T hG dX3_endAt_34 ?_
        refine rx_iload_n hG dX3_endAt_37 1 rfl ?_
        refine rx_iconst hG 0 dX3_endAt_38 ic_0 ?_
        obtain ⟨M13, hM13, hf⟩ := bindE hf
        refine rx_iast hG (skX55 T) hM13 dX3_endAt_39 ?_
        cases hf
        exact rx_vret hG dX3_endAt_40
    · have hf := ifF hf c4
      cases hf
      exact rx_vret hG dX3_endAt_22
set_option maxHeartbeats 4000000 in
set_option maxRecDepth 100000 in
theorem Lj_L_change_52_116 (l : Launch) (E : En) (T : List Sk) {a0 b0 kc ks : Nat} {M' : Mm} {G : Nat → List (Nat × Value) → List Value → Mm → Prop} (hG : RX l (SKX ++ T) E RX3 cX3_change 3 none { frames := 2, cells := a0, slots := b0, locals := 51 } kc ks none M' G) (rc82 : Int32 → Mm → Option Mm) (hrc82 : ∀ (x1 : Int32) (M : Mm), rc82 x1 M = some M' → G 82 [(0, .ref (adr E 52)), (1, .int x1)] [] M) : ∀ (x1 : Int32) (M : Mm), j_L_change_52_116 rc82 x1 M = some M' → G 116 [(0, .ref (adr E 52)), (1, .int x1)] [] M := by
  intro x1 M hf
  unfold j_L_change_52_116 at hf
  refine rx_iinc (lv2 := [(1, .int (x1 + (-1))), (0, .ref (adr E 52))]) hG (-1) dX3_change_116 ic_m1 1 rfl (Nat.le_of_ble_eq_true rfl) rfl ?_
  refine rx_goto hG 82 dX3_change_119 rfl ?_
  refine rx_sub hG [1, 0] (lv' := [(0, .ref (adr E 52)), (1, .int (x1 + (-1)))]) rfl ?_
  exact hrc82 (x1 + (-1)) M hf
set_option maxHeartbeats 4000000 in
set_option maxRecDepth 100000 in
theorem Lj_L_change_52_105 (l : Launch) (E : En) (T : List Sk) {a0 b0 kc ks : Nat} {M' : Mm} {G : Nat → List (Nat × Value) → List Value → Mm → Prop} (hG : RX l (SKX ++ T) E RX3 cX3_change 3 none { frames := 2, cells := a0, slots := b0, locals := 51 } kc ks none M' G) (rc82 : Int32 → Mm → Option Mm) (hrc82 : ∀ (x1 : Int32) (M : Mm), rc82 x1 M = some M' → G 82 [(0, .ref (adr E 52)), (1, .int x1)] [] M) : ∀ (x1 : Int32) (t0 : Int32) (M : Mm), j_L_change_52_105 rc82 x1 t0 M = some M' → G 105 [(0, .ref (adr E 52)), (1, .int x1)] [.int t0] M := by
  intro x1 t0 M hf
  unfold j_L_change_52_105 at hf
  refine rx_istore_n (lv2 := [(2, .int t0), (0, .ref (adr E 52)), (1, .int x1)]) hG dX3_change_105 (Nat.le_of_ble_eq_true rfl) rfl ?_
  refine rx_iload_n hG dX3_change_106 0 rfl ?_
  refine rx_if_lt hG 116 dX3_change_107 rfl (fun c1 => ?_) (fun c1 => ?_)
  · have hf := ifT hf c1
    refine rx_sub hG [1, 2] (lv' := [(0, .ref (adr E 52)), (1, .int x1)]) rfl ?_
    exact Lj_L_change_52_116 l E T hG rc82 hrc82 x1 M hf
  · have hf := ifF hf c1
    refine rx_aload_n hG dX3_change_110 1 rfl ?_
    refine rx_iload_n hG dX3_change_111 2 rfl ?_
    refine rx_iload_n hG dX3_change_112 0 rfl ?_
    obtain ⟨M2, hM2, hf⟩ := bindE hf
    refine rx_cVv hG (c_L_beginAt_52 l E T x1 t0 hM2) (skX52 T) rfl rfl kw_L_147 ⟨Nat.le_of_ble_eq_true rfl, Nat.le_of_ble_eq_true rfl⟩ rfl (Nat.le_of_ble_eq_true rfl) dX3_change_113 ?_
    refine rx_sub hG [1, 2] (lv' := [(0, .ref (adr E 52)), (1, .int x1)]) rfl ?_
    exact Lj_L_change_52_116 l E T hG rc82 hrc82 x1 M2 hf
set_option maxHeartbeats 4000000 in
set_option maxRecDepth 100000 in
theorem Lblp_L_change_52_82 (l : Launch) (E : En) (T : List Sk) {a0 b0 kc ks : Nat} {M' : Mm} {G : Nat → List (Nat × Value) → List Value → Mm → Prop} (hG : RX l (SKX ++ T) E RX3 cX3_change 3 none { frames := 2, cells := a0, slots := b0, locals := 51 } kc ks none M' G) (rc82 : Int32 → Mm → Option Mm) (hrc82 : ∀ (x1 : Int32) (M : Mm), rc82 x1 M = some M' → G 82 [(0, .ref (adr E 52)), (1, .int x1)] [] M) : ∀ (x1 : Int32) (M : Mm), blp_L_change_52_82 rc82 x1 M = some M' → G 82 [(0, .ref (adr E 52)), (1, .int x1)] [] M := by
  intro x1 M hf
  unfold blp_L_change_52_82 at hf
  refine rx_iload_n hG dX3_change_82 1 rfl ?_
  refine rx_if_lt hG 122 dX3_change_83 rfl (fun c1 => ?_) (fun c1 => ?_)
  · have hf := ifT hf c1
    cases hf
    exact rx_vret hG dX3_change_122
  · have hf := ifF hf c1
    refine rx_aload_n hG dX3_change_86 0 rfl ?_
    refine gfX_L_18_52 l E T hG dX3_change_87 ?_
    refine rx_iload_n hG dX3_change_90 1 rfl ?_
    obtain ⟨v2, hv2, hf⟩ := bindE hf
    refine rx_iald hG (skX55 T) hv2 dX3_change_91 ?_
    refine rx_if_ne hG 103 dX3_change_92 rfl (fun c3 => ?_) (fun c3 => ?_)
    · have hf := ifF hf c3
      refine rx_bipush hG (-2) dX3_change_103 bp_m2 ?_
      exact Lj_L_change_52_105 l E T hG rc82 hrc82 x1 (-2) M hf
    · have hf := ifT hf c3
      refine rx_aload_n hG dX3_change_95 0 rfl ?_
      refine rx_iload_n hG dX3_change_96 1 rfl ?_
      obtain ⟨v4, hv4, hf⟩ := bindE hf
      refine rx_cVi hG (c_L_chosen_52 l E T x1 hv4) (skX52 T) rfl rfl kw_L_144 ⟨Nat.le_of_ble_eq_true rfl, Nat.le_of_ble_eq_true rfl⟩ rfl (Nat.le_of_ble_eq_true rfl) dX3_change_97 ?_
      refine rx_goto hG 105 dX3_change_100 rfl ?_
      exact Lj_L_change_52_105 l E T hG rc82 hrc82 x1 v4 M hf
theorem Llp_L_change_52_82 (l : Launch) (E : En) (T : List Sk) {a0 b0 kc ks : Nat} {M' : Mm} {G : Nat → List (Nat × Value) → List Value → Mm → Prop} (hG : RX l (SKX ++ T) E RX3 cX3_change 3 none { frames := 2, cells := a0, slots := b0, locals := 51 } kc ks none M' G)  : ∀ (n : Nat) (x1 : Int32) (M : Mm), lp_L_change_52_82  n x1 M = some M' → G 82 [(0, .ref (adr E 52)), (1, .int x1)] [] M := by
  intro n
  induction n with
  | zero => intro x1 M hf; cases hf
  | succ n ih => intro x1 M hf; exact Lblp_L_change_52_82 l E T hG  (lp_L_change_52_82  n) ih x1 M hf
set_option maxHeartbeats 4000000 in
set_option maxRecDepth 100000 in
theorem Lj_L_change_52_72 (l : Launch) (E : En) (T : List Sk) {a0 b0 kc ks : Nat} {M' : Mm} {G : Nat → List (Nat × Value) → List Value → Mm → Prop} (hG : RX l (SKX ++ T) E RX3 cX3_change 3 none { frames := 2, cells := a0, slots := b0, locals := 51 } kc ks none M' G)  : ∀  (M : Mm), j_L_change_52_72  M = some M' → G 72 [(0, .ref (adr E 52))] [] M := by
  intro M hf
  unfold j_L_change_52_72 at hf
  refine rx_aload_n hG dX3_change_72 0 rfl ?_
  refine gfX_L_48_52 l E T hG dX3_change_73 ?_
  refine gfX_L_102_2 l E T hG dX3_change_76 ?_
  refine rx_iconst hG 1 dX3_change_79 ic_1 ?_
  refine rx_isub hG dX3_change_80 ?_
  refine rx_istore_n (lv2 := [(1, .int ((M.1 2 1) - 1)), (0, .ref (adr E 52))]) hG dX3_change_81 (Nat.le_of_ble_eq_true rfl) rfl ?_
  refine rx_sub hG [1, 0] (lv' := [(0, .ref (adr E 52)), (1, .int ((M.1 2 1) - 1))]) rfl ?_
  exact Llp_L_change_52_82 l E T hG  FW ((M.1 2 1) - 1) M hf
set_option maxHeartbeats 4000000 in
set_option maxRecDepth 100000 in
theorem Lblp_L_change_52_50 (l : Launch) (E : En) (T : List Sk) {a0 b0 kc ks : Nat} {M' : Mm} {G : Nat → List (Nat × Value) → List Value → Mm → Prop} (hG : RX l (SKX ++ T) E RX3 cX3_change 3 none { frames := 2, cells := a0, slots := b0, locals := 51 } kc ks none M' G) (rc50 : Int32 → Mm → Option Mm) (hrc50 : ∀ (x1 : Int32) (M : Mm), rc50 x1 M = some M' → G 50 [(0, .ref (adr E 52)), (1, .int x1)] [] M) : ∀ (x1 : Int32) (M : Mm), blp_L_change_52_50 rc50 x1 M = some M' → G 50 [(0, .ref (adr E 52)), (1, .int x1)] [] M := by
  intro x1 M hf
  unfold blp_L_change_52_50 at hf
  refine rx_iload_n hG dX3_change_50 1 rfl ?_
  refine rx_aload_n hG dX3_change_51 0 rfl ?_
  refine gfX_L_48_52 l E T hG dX3_change_52 ?_
  refine gfX_L_138_2 l E T hG dX3_change_55 ?_
  refine rx_icmp_ge hG 72 dX3_change_58 rfl (fun c1 => ?_) (fun c1 => ?_)
  · have hf := ifT hf c1
    refine rx_sub hG [0] (lv' := [(0, .ref (adr E 52))]) rfl ?_
    exact Lj_L_change_52_72 l E T hG  M hf
  · have hf := ifF hf c1
    refine rx_aload_n hG dX3_change_61 0 rfl ?_
    refine rx_iload_n hG dX3_change_62 1 rfl ?_
    obtain ⟨M2, hM2, hf⟩ := bindE hf
    refine rx_cVv hG (c_L_deliver_52 l E T x1 hM2) (skX52 T) rfl rfl kw_L_141 ⟨Nat.le_of_ble_eq_true rfl, Nat.le_of_ble_eq_true rfl⟩ rfl (Nat.le_of_ble_eq_true rfl) dX3_change_63 ?_
    refine rx_iinc (lv2 := [(1, .int (x1 + 1)), (0, .ref (adr E 52))]) hG 1 dX3_change_66 ic_1 1 rfl (Nat.le_of_ble_eq_true rfl) rfl ?_
    refine rx_goto hG 50 dX3_change_69 rfl ?_
    refine rx_sub hG [1, 0] (lv' := [(0, .ref (adr E 52)), (1, .int (x1 + 1))]) rfl ?_
    exact hrc50 (x1 + 1) M2 hf
theorem Llp_L_change_52_50 (l : Launch) (E : En) (T : List Sk) {a0 b0 kc ks : Nat} {M' : Mm} {G : Nat → List (Nat × Value) → List Value → Mm → Prop} (hG : RX l (SKX ++ T) E RX3 cX3_change 3 none { frames := 2, cells := a0, slots := b0, locals := 51 } kc ks none M' G)  : ∀ (n : Nat) (x1 : Int32) (M : Mm), lp_L_change_52_50  n x1 M = some M' → G 50 [(0, .ref (adr E 52)), (1, .int x1)] [] M := by
  intro n
  induction n with
  | zero => intro x1 M hf; cases hf
  | succ n ih => intro x1 M hf; exact Lblp_L_change_52_50 l E T hG  (lp_L_change_52_50  n) ih x1 M hf
set_option maxHeartbeats 4000000 in
set_option maxRecDepth 100000 in
theorem Lj_L_change_52_48 (l : Launch) (E : En) (T : List Sk) {a0 b0 kc ks : Nat} {M' : Mm} {G : Nat → List (Nat × Value) → List Value → Mm → Prop} (hG : RX l (SKX ++ T) E RX3 cX3_change 3 none { frames := 2, cells := a0, slots := b0, locals := 51 } kc ks none M' G)  : ∀  (M : Mm), j_L_change_52_48  M = some M' → G 48 [(0, .ref (adr E 52))] [] M := by
  intro M hf
  unfold j_L_change_52_48 at hf
  refine rx_iconst hG 0 dX3_change_48 ic_0 ?_
  refine rx_istore_n (lv2 := [(1, .int 0), (0, .ref (adr E 52))]) hG dX3_change_49 (Nat.le_of_ble_eq_true rfl) rfl ?_
  refine rx_sub hG [1, 0] (lv' := [(0, .ref (adr E 52)), (1, .int 0)]) rfl ?_
  exact Llp_L_change_52_50 l E T hG  FW 0 M hf
set_option maxHeartbeats 4000000 in
set_option maxRecDepth 100000 in
theorem Lblp_L_change_52_26 (l : Launch) (E : En) (T : List Sk) {a0 b0 kc ks : Nat} {M' : Mm} {G : Nat → List (Nat × Value) → List Value → Mm → Prop} (hG : RX l (SKX ++ T) E RX3 cX3_change 3 none { frames := 2, cells := a0, slots := b0, locals := 51 } kc ks none M' G) (rc26 : Int32 → Mm → Option Mm) (hrc26 : ∀ (x1 : Int32) (M : Mm), rc26 x1 M = some M' → G 26 [(0, .ref (adr E 52)), (1, .int x1)] [] M) : ∀ (x1 : Int32) (M : Mm), blp_L_change_52_26 rc26 x1 M = some M' → G 26 [(0, .ref (adr E 52)), (1, .int x1)] [] M := by
  intro x1 M hf
  unfold blp_L_change_52_26 at hf
  refine rx_iload_n hG dX3_change_26 1 rfl ?_
  refine rx_aload_n hG dX3_change_27 0 rfl ?_
  refine gfX_L_48_52 l E T hG dX3_change_28 ?_
  refine gfX_L_107_2 l E T hG dX3_change_31 ?_
  refine rx_icmp_ge hG 48 dX3_change_34 rfl (fun c1 => ?_) (fun c1 => ?_)
  · have hf := ifT hf c1
    refine rx_sub hG [0] (lv' := [(0, .ref (adr E 52))]) rfl ?_
    exact Lj_L_change_52_48 l E T hG  M hf
  · have hf := ifF hf c1
    refine rx_aload_n hG dX3_change_37 0 rfl ?_
    refine rx_iload_n hG dX3_change_38 1 rfl ?_
    obtain ⟨M2, hM2, hf⟩ := bindE hf
    refine rx_cVv hG (c_L_takeOrder_52 l E T x1 hM2) (skX52 T) rfl rfl kw_L_135 ⟨Nat.le_of_ble_eq_true rfl, Nat.le_of_ble_eq_true rfl⟩ rfl (Nat.le_of_ble_eq_true rfl) dX3_change_39 ?_
    refine rx_iinc (lv2 := [(1, .int (x1 + 1)), (0, .ref (adr E 52))]) hG 1 dX3_change_42 ic_1 1 rfl (Nat.le_of_ble_eq_true rfl) rfl ?_
    refine rx_goto hG 26 dX3_change_45 rfl ?_
    refine rx_sub hG [1, 0] (lv' := [(0, .ref (adr E 52)), (1, .int (x1 + 1))]) rfl ?_
    exact hrc26 (x1 + 1) M2 hf
theorem Llp_L_change_52_26 (l : Launch) (E : En) (T : List Sk) {a0 b0 kc ks : Nat} {M' : Mm} {G : Nat → List (Nat × Value) → List Value → Mm → Prop} (hG : RX l (SKX ++ T) E RX3 cX3_change 3 none { frames := 2, cells := a0, slots := b0, locals := 51 } kc ks none M' G)  : ∀ (n : Nat) (x1 : Int32) (M : Mm), lp_L_change_52_26  n x1 M = some M' → G 26 [(0, .ref (adr E 52)), (1, .int x1)] [] M := by
  intro n
  induction n with
  | zero => intro x1 M hf; cases hf
  | succ n ih => intro x1 M hf; exact Lblp_L_change_52_26 l E T hG  (lp_L_change_52_26  n) ih x1 M hf
set_option maxHeartbeats 4000000 in
set_option maxRecDepth 100000 in
theorem Lj_L_change_52_24 (l : Launch) (E : En) (T : List Sk) {a0 b0 kc ks : Nat} {M' : Mm} {G : Nat → List (Nat × Value) → List Value → Mm → Prop} (hG : RX l (SKX ++ T) E RX3 cX3_change 3 none { frames := 2, cells := a0, slots := b0, locals := 51 } kc ks none M' G)  : ∀  (M : Mm), j_L_change_52_24  M = some M' → G 24 [(0, .ref (adr E 52))] [] M := by
  intro M hf
  unfold j_L_change_52_24 at hf
  refine rx_iconst hG 0 dX3_change_24 ic_0 ?_
  refine rx_istore_n (lv2 := [(1, .int 0), (0, .ref (adr E 52))]) hG dX3_change_25 (Nat.le_of_ble_eq_true rfl) rfl ?_
  refine rx_sub hG [1, 0] (lv' := [(0, .ref (adr E 52)), (1, .int 0)]) rfl ?_
  exact Llp_L_change_52_26 l E T hG  FW 0 M hf
set_option maxHeartbeats 4000000 in
set_option maxRecDepth 100000 in
theorem Lblp_L_change_52_2 (l : Launch) (E : En) (T : List Sk) {a0 b0 kc ks : Nat} {M' : Mm} {G : Nat → List (Nat × Value) → List Value → Mm → Prop} (hG : RX l (SKX ++ T) E RX3 cX3_change 3 none { frames := 2, cells := a0, slots := b0, locals := 51 } kc ks none M' G) (rc2 : Int32 → Mm → Option Mm) (hrc2 : ∀ (x1 : Int32) (M : Mm), rc2 x1 M = some M' → G 2 [(0, .ref (adr E 52)), (1, .int x1)] [] M) : ∀ (x1 : Int32) (M : Mm), blp_L_change_52_2 rc2 x1 M = some M' → G 2 [(0, .ref (adr E 52)), (1, .int x1)] [] M := by
  intro x1 M hf
  unfold blp_L_change_52_2 at hf
  refine rx_iload_n hG dX3_change_2 1 rfl ?_
  refine rx_aload_n hG dX3_change_3 0 rfl ?_
  refine gfX_L_48_52 l E T hG dX3_change_4 ?_
  refine gfX_L_102_2 l E T hG dX3_change_7 ?_
  refine rx_icmp_ge hG 24 dX3_change_10 rfl (fun c1 => ?_) (fun c1 => ?_)
  · have hf := ifT hf c1
    refine rx_sub hG [0] (lv' := [(0, .ref (adr E 52))]) rfl ?_
    exact Lj_L_change_52_24 l E T hG  M hf
  · have hf := ifF hf c1
    refine rx_aload_n hG dX3_change_13 0 rfl ?_
    refine rx_iload_n hG dX3_change_14 1 rfl ?_
    obtain ⟨M2, hM2, hf⟩ := bindE hf
    refine rx_cVv hG (c_L_endAt_52 l E T x1 hM2) (skX52 T) rfl rfl kw_L_131 ⟨Nat.le_of_ble_eq_true rfl, Nat.le_of_ble_eq_true rfl⟩ rfl (Nat.le_of_ble_eq_true rfl) dX3_change_15 ?_
    refine rx_iinc (lv2 := [(1, .int (x1 + 1)), (0, .ref (adr E 52))]) hG 1 dX3_change_18 ic_1 1 rfl (Nat.le_of_ble_eq_true rfl) rfl ?_
    refine rx_goto hG 2 dX3_change_21 rfl ?_
    refine rx_sub hG [1, 0] (lv' := [(0, .ref (adr E 52)), (1, .int (x1 + 1))]) rfl ?_
    exact hrc2 (x1 + 1) M2 hf
theorem Llp_L_change_52_2 (l : Launch) (E : En) (T : List Sk) {a0 b0 kc ks : Nat} {M' : Mm} {G : Nat → List (Nat × Value) → List Value → Mm → Prop} (hG : RX l (SKX ++ T) E RX3 cX3_change 3 none { frames := 2, cells := a0, slots := b0, locals := 51 } kc ks none M' G)  : ∀ (n : Nat) (x1 : Int32) (M : Mm), lp_L_change_52_2  n x1 M = some M' → G 2 [(0, .ref (adr E 52)), (1, .int x1)] [] M := by
  intro n
  induction n with
  | zero => intro x1 M hf; cases hf
  | succ n ih => intro x1 M hf; exact Lblp_L_change_52_2 l E T hG  (lp_L_change_52_2  n) ih x1 M hf
set_option maxHeartbeats 4000000 in
set_option maxRecDepth 100000 in
theorem c_L_change_52 (l : Launch) (E : En) (T : List Sk)  {M M' : Mm} (h : f_L_change_52 M = some M') : Ct l (SKX ++ T) E yX3_change cX3_change 3 none 2 51 [.ref (adr E 52)] M none M' := by
  refine ct_of (by decide) (Nat.le_of_ble_eq_true rfl) ?_
  intro G hG
  show G 0 [(0, .ref (adr E 52))] [] M
  have hf := h
  unfold f_L_change_52 at hf
  refine rx_iconst hG 0 dX3_change_0 ic_0 ?_
  refine rx_istore_n (lv2 := [(1, .int 0), (0, .ref (adr E 52))]) hG dX3_change_1 (Nat.le_of_ble_eq_true rfl) rfl ?_
  refine rx_sub hG [1, 0] (lv' := [(0, .ref (adr E 52)), (1, .int 0)]) rfl ?_
  exact Llp_L_change_52_2 l E T hG  FW 0 M hf
set_option maxHeartbeats 4000000 in
set_option maxRecDepth 100000 in
theorem c_L_nextOrder_52 (l : Launch) (E : En) (T : List Sk) (p0 : Int32) {M : Mm} {r : Int32} (h : f_L_nextOrder_52 p0 M = some r) : Ct l (SKX ++ T) E yX3_nextOrder cX3_nextOrder 4 (some .int) 1 21 [.ref (adr E 52), .int p0] M (some (.int r)) M := by
  refine ct_of (by decide) (Nat.le_of_ble_eq_true rfl) ?_
  intro G hG
  show G 0 [(0, .ref (adr E 52)), (1, .int p0)] [] M
  have hf := h
  unfold f_L_nextOrder_52 at hf
  refine rx_aload_n hG dX3_nextOrder_0 0 rfl ?_
  refine gfX_L_48_52 l E T hG dX3_nextOrder_1 ?_
  refine gfX_L_122_2 l E T hG dX3_nextOrder_4 ?_
  refine rx_iload_n hG dX3_nextOrder_7 1 rfl ?_
  obtain ⟨v1, hv1, hf⟩ := bindE hf
  refine rx_iald hG (skX8 T) hv1 dX3_nextOrder_8 ?_
  refine rx_istore_n (lv2 := [(2, .int v1), (0, .ref (adr E 52)), (1, .int p0)]) hG dX3_nextOrder_9 (Nat.le_of_ble_eq_true rfl) rfl ?_
  refine rx_aload_n hG dX3_nextOrder_10 1 rfl ?_
  refine gfX_L_73_52 l E T hG dX3_nextOrder_11 ?_
  refine rx_iload_n hG dX3_nextOrder_14 0 rfl ?_
  refine rx_icmp_ge hG 20 dX3_nextOrder_15 rfl (fun c2 => ?_) (fun c2 => ?_)
  · have hf := ifT hf c2
    refine rx_aload_n hG dX3_nextOrder_20 1 rfl ?_
    refine gfX_L_48_52 l E T hG dX3_nextOrder_21 ?_
    refine gfX_L_125_2 l E T hG dX3_nextOrder_24 ?_
    refine rx_iload_n hG dX3_nextOrder_27 2 rfl ?_
    obtain ⟨v3, hv3, hf⟩ := bindE hf
    refine rx_iald hG (skX7 T) hv3 dX3_nextOrder_28 ?_
    refine rx_istore_n (lv2 := [(3, .int v3), (2, .int v1), (0, .ref (adr E 52)), (1, .int p0)]) hG dX3_nextOrder_29 (Nat.le_of_ble_eq_true rfl) rfl ?_
    refine rx_aload_n hG dX3_nextOrder_30 2 rfl ?_
    refine gfX_L_73_52 l E T hG dX3_nextOrder_31 ?_
    refine rx_iload_n hG dX3_nextOrder_34 0 rfl ?_
    refine rx_iadd hG dX3_nextOrder_35 ?_
    refine rx_aload_n hG dX3_nextOrder_36 2 rfl ?_
    refine gfX_L_73_52 l E T hG dX3_nextOrder_37 ?_
    refine rx_iload_n hG dX3_nextOrder_40 1 rfl ?_
    refine rx_isub hG dX3_nextOrder_41 ?_
    refine rx_iload_n hG dX3_nextOrder_42 0 rfl ?_
    obtain ⟨v4, hv4, hf⟩ := bindE hf
    refine rx_cNi hG (c_P_remainder l E (SKX ++ T) ((M.1 52 14) - v1) v3 hv4) kw_L_128 ⟨Nat.le_of_ble_eq_true rfl, Nat.le_of_ble_eq_true rfl⟩ rfl (Nat.le_of_ble_eq_true rfl) dX3_nextOrder_43 ?_
    refine rx_isub hG dX3_nextOrder_46 ?_
    cases hf
    exact rx_iret hG dX3_nextOrder_47
  · have hf := ifF hf c2
    refine rx_iload_n hG dX3_nextOrder_18 0 rfl ?_
    cases hf
    exact rx_iret hG dX3_nextOrder_19
set_option maxHeartbeats 4000000 in
set_option maxRecDepth 100000 in
theorem Lblp_L_nextChange_52_49 (l : Launch) (E : En) (T : List Sk) {a0 b0 kc ks : Nat} {r : Int32} {M : Mm} {G : Nat → List (Nat × Value) → List Value → Mm → Prop} (hG : RX l (SKX ++ T) E RX3 cX3_nextChange 4 (some .int) { frames := 2, cells := a0, slots := b0, locals := 44 } kc ks (some (.int r)) M G) (rc49 : Int32 → Int32 → Mm → Option Int32) (hrc49 : ∀ (x2 : Int32) (x3 : Int32), rc49 x2 x3 M = some r → G 49 [(0, .ref (adr E 52)), (2, .int x2), (3, .int x3)] [] M) : ∀ (x2 : Int32) (x3 : Int32), blp_L_nextChange_52_49 rc49 x2 x3 M = some r → G 49 [(0, .ref (adr E 52)), (2, .int x2), (3, .int x3)] [] M := by
  intro x2 x3 hf
  unfold blp_L_nextChange_52_49 at hf
  refine rx_iload_n hG dX3_nextChange_49 2 rfl ?_
  refine rx_aload_n hG dX3_nextChange_50 0 rfl ?_
  refine gfX_L_48_52 l E T hG dX3_nextChange_51 ?_
  refine gfX_L_107_2 l E T hG dX3_nextChange_54 ?_
  refine rx_icmp_ge hG 76 dX3_nextChange_57 rfl (fun c1 => ?_) (fun c1 => ?_)
  · have hf := ifT hf c1
    refine rx_iload_n hG dX3_nextChange_76 1 rfl ?_
    refine rx_aload_n hG dX3_nextChange_77 0 rfl ?_
    refine gfX_L_73_52 l E T hG dX3_nextChange_78 ?_
    refine rx_iconst hG 1 dX3_nextChange_81 ic_1 ?_
    refine rx_iadd hG dX3_nextChange_82 ?_
    refine rx_max hG kw_L_119 ⟨Nat.le_of_ble_eq_true rfl, Nat.le_of_ble_eq_true rfl⟩ dX3_nextChange_83 ?_
    cases hf
    exact rx_iret hG dX3_nextChange_86
  · have hf := ifF hf c1
    refine rx_iload_n hG dX3_nextChange_60 1 rfl ?_
    refine rx_aload_n hG dX3_nextChange_61 0 rfl ?_
    refine rx_iload_n hG dX3_nextChange_62 2 rfl ?_
    obtain ⟨v2, hv2, hf⟩ := bindE hf
    refine rx_cVi hG (c_L_nextOrder_52 l E T x3 hv2) (skX52 T) rfl rfl kw_L_110 ⟨Nat.le_of_ble_eq_true rfl, Nat.le_of_ble_eq_true rfl⟩ rfl (Nat.le_of_ble_eq_true rfl) dX3_nextChange_63 ?_
    refine rx_min hG kw_L_113 ⟨Nat.le_of_ble_eq_true rfl, Nat.le_of_ble_eq_true rfl⟩ dX3_nextChange_66 ?_
    refine rx_istore_n (lv2 := [(2, .int (mn x2 v2)), (0, .ref (adr E 52)), (3, .int x3)]) hG dX3_nextChange_69 (Nat.le_of_ble_eq_true rfl) rfl ?_
    refine rx_iinc (lv2 := [(3, .int (x3 + 1)), (2, .int (mn x2 v2)), (0, .ref (adr E 52))]) hG 1 dX3_nextChange_70 ic_1 2 rfl (Nat.le_of_ble_eq_true rfl) rfl ?_
    refine rx_goto hG 49 dX3_nextChange_73 rfl ?_
    refine rx_sub hG [2, 1, 0] (lv' := [(0, .ref (adr E 52)), (2, .int (mn x2 v2)), (3, .int (x3 + 1))]) rfl ?_
    exact hrc49 (mn x2 v2) (x3 + 1) hf
theorem Llp_L_nextChange_52_49 (l : Launch) (E : En) (T : List Sk) {a0 b0 kc ks : Nat} {r : Int32} {M : Mm} {G : Nat → List (Nat × Value) → List Value → Mm → Prop} (hG : RX l (SKX ++ T) E RX3 cX3_nextChange 4 (some .int) { frames := 2, cells := a0, slots := b0, locals := 44 } kc ks (some (.int r)) M G)  : ∀ (n : Nat) (x2 : Int32) (x3 : Int32), lp_L_nextChange_52_49  n x2 x3 M = some r → G 49 [(0, .ref (adr E 52)), (2, .int x2), (3, .int x3)] [] M := by
  intro n
  induction n with
  | zero => intro x2 x3 hf; cases hf
  | succ n ih => intro x2 x3 hf; exact Lblp_L_nextChange_52_49 l E T hG  (lp_L_nextChange_52_49  n) ih x2 x3 hf
set_option maxHeartbeats 4000000 in
set_option maxRecDepth 100000 in
theorem Lj_L_nextChange_52_47 (l : Launch) (E : En) (T : List Sk) {a0 b0 kc ks : Nat} {r : Int32} {M : Mm} {G : Nat → List (Nat × Value) → List Value → Mm → Prop} (hG : RX l (SKX ++ T) E RX3 cX3_nextChange 4 (some .int) { frames := 2, cells := a0, slots := b0, locals := 44 } kc ks (some (.int r)) M G)  : ∀ (x2 : Int32), j_L_nextChange_52_47  x2 M = some r → G 47 [(0, .ref (adr E 52)), (2, .int x2)] [] M := by
  intro x2 hf
  unfold j_L_nextChange_52_47 at hf
  refine rx_iconst hG 0 dX3_nextChange_47 ic_0 ?_
  refine rx_istore_n (lv2 := [(3, .int 0), (0, .ref (adr E 52)), (2, .int x2)]) hG dX3_nextChange_48 (Nat.le_of_ble_eq_true rfl) rfl ?_
  refine rx_sub hG [1, 2, 0] (lv' := [(0, .ref (adr E 52)), (2, .int x2), (3, .int 0)]) rfl ?_
  exact Llp_L_nextChange_52_49 l E T hG  FW x2 0 hf
set_option maxHeartbeats 4000000 in
set_option maxRecDepth 100000 in
theorem Lj_L_nextChange_52_41 (l : Launch) (E : En) (T : List Sk) {a0 b0 kc ks : Nat} {r : Int32} {M : Mm} {G : Nat → List (Nat × Value) → List Value → Mm → Prop} (hG : RX l (SKX ++ T) E RX3 cX3_nextChange 4 (some .int) { frames := 2, cells := a0, slots := b0, locals := 44 } kc ks (some (.int r)) M G) (rc4 : Int32 → Int32 → Mm → Option Int32) (hrc4 : ∀ (x2 : Int32) (x3 : Int32), rc4 x2 x3 M = some r → G 4 [(0, .ref (adr E 52)), (2, .int x2), (3, .int x3)] [] M) : ∀ (x2 : Int32) (x3 : Int32), j_L_nextChange_52_41 rc4 x2 x3 M = some r → G 41 [(0, .ref (adr E 52)), (2, .int x2), (3, .int x3)] [] M := by
  intro x2 x3 hf
  unfold j_L_nextChange_52_41 at hf
  refine rx_iinc (lv2 := [(3, .int (x3 + 1)), (0, .ref (adr E 52)), (2, .int x2)]) hG 1 dX3_nextChange_41 ic_1 2 rfl (Nat.le_of_ble_eq_true rfl) rfl ?_
  refine rx_goto hG 4 dX3_nextChange_44 rfl ?_
  refine rx_sub hG [1, 2, 0] (lv' := [(0, .ref (adr E 52)), (2, .int x2), (3, .int (x3 + 1))]) rfl ?_
  exact hrc4 x2 (x3 + 1) hf
set_option maxHeartbeats 4000000 in
set_option maxRecDepth 100000 in
theorem Lblp_L_nextChange_52_4 (l : Launch) (E : En) (T : List Sk) {a0 b0 kc ks : Nat} {r : Int32} {M : Mm} {G : Nat → List (Nat × Value) → List Value → Mm → Prop} (hG : RX l (SKX ++ T) E RX3 cX3_nextChange 4 (some .int) { frames := 2, cells := a0, slots := b0, locals := 44 } kc ks (some (.int r)) M G) (rc4 : Int32 → Int32 → Mm → Option Int32) (hrc4 : ∀ (x2 : Int32) (x3 : Int32), rc4 x2 x3 M = some r → G 4 [(0, .ref (adr E 52)), (2, .int x2), (3, .int x3)] [] M) : ∀ (x2 : Int32) (x3 : Int32), blp_L_nextChange_52_4 rc4 x2 x3 M = some r → G 4 [(0, .ref (adr E 52)), (2, .int x2), (3, .int x3)] [] M := by
  intro x2 x3 hf
  unfold blp_L_nextChange_52_4 at hf
  refine rx_iload_n hG dX3_nextChange_4 2 rfl ?_
  refine rx_aload_n hG dX3_nextChange_5 0 rfl ?_
  refine gfX_L_48_52 l E T hG dX3_nextChange_6 ?_
  refine gfX_L_102_2 l E T hG dX3_nextChange_9 ?_
  refine rx_icmp_ge hG 47 dX3_nextChange_12 rfl (fun c1 => ?_) (fun c1 => ?_)
  · have hf := ifT hf c1
    refine rx_sub hG [0, 1] (lv' := [(0, .ref (adr E 52)), (2, .int x2)]) rfl ?_
    exact Lj_L_nextChange_52_47 l E T hG  x2 hf
  · have hf := ifF hf c1
    refine rx_aload_n hG dX3_nextChange_15 0 rfl ?_
    refine gfX_L_18_52 l E T hG dX3_nextChange_16 ?_
    refine rx_iload_n hG dX3_nextChange_19 2 rfl ?_
    obtain ⟨v2, hv2, hf⟩ := bindE hf
    refine rx_iald hG (skX55 T) hv2 dX3_nextChange_20 ?_
    refine rx_if_eq hG 41 dX3_nextChange_21 rfl (fun c3 => ?_) (fun c3 => ?_)
    · have hf := ifT hf c3
      exact Lj_L_nextChange_52_41 l E T hG rc4 hrc4 x2 x3 hf
    · have hf := ifF hf c3
      refine rx_aload_n hG dX3_nextChange_24 0 rfl ?_
      refine gfX_L_24_52 l E T hG dX3_nextChange_25 ?_
      refine rx_iload_n hG dX3_nextChange_28 2 rfl ?_
      obtain ⟨v4, hv4, hf⟩ := bindE hf
      refine rx_iald hG (skX57 T) hv4 dX3_nextChange_29 ?_
      refine rx_iload_n hG dX3_nextChange_30 1 rfl ?_
      refine rx_icmp_ge hG 41 dX3_nextChange_31 rfl (fun c5 => ?_) (fun c5 => ?_)
      · have hf := ifT hf c5
        exact Lj_L_nextChange_52_41 l E T hG rc4 hrc4 x2 x3 hf
      · have hf := ifF hf c5
        refine rx_aload_n hG dX3_nextChange_34 0 rfl ?_
        refine gfX_L_24_52 l E T hG dX3_nextChange_35 ?_
        refine rx_iload_n hG dX3_nextChange_38 2 rfl ?_
        obtain ⟨v6, hv6, hf⟩ := bindE hf
        refine rx_iald hG (skX57 T) hv6 dX3_nextChange_39 ?_
        refine rx_istore_n (lv2 := [(2, .int v6), (0, .ref (adr E 52)), (3, .int x3)]) hG dX3_nextChange_40 (Nat.le_of_ble_eq_true rfl) rfl ?_
        refine rx_sub hG [1, 0, 2] (lv' := [(0, .ref (adr E 52)), (2, .int v6), (3, .int x3)]) rfl ?_
        exact Lj_L_nextChange_52_41 l E T hG rc4 hrc4 v6 x3 hf
theorem Llp_L_nextChange_52_4 (l : Launch) (E : En) (T : List Sk) {a0 b0 kc ks : Nat} {r : Int32} {M : Mm} {G : Nat → List (Nat × Value) → List Value → Mm → Prop} (hG : RX l (SKX ++ T) E RX3 cX3_nextChange 4 (some .int) { frames := 2, cells := a0, slots := b0, locals := 44 } kc ks (some (.int r)) M G)  : ∀ (n : Nat) (x2 : Int32) (x3 : Int32), lp_L_nextChange_52_4  n x2 x3 M = some r → G 4 [(0, .ref (adr E 52)), (2, .int x2), (3, .int x3)] [] M := by
  intro n
  induction n with
  | zero => intro x2 x3 hf; cases hf
  | succ n ih => intro x2 x3 hf; exact Lblp_L_nextChange_52_4 l E T hG  (lp_L_nextChange_52_4  n) ih x2 x3 hf
set_option maxHeartbeats 4000000 in
set_option maxRecDepth 100000 in
theorem c_L_nextChange_52 (l : Launch) (E : En) (T : List Sk) (p0 : Int32) {M : Mm} {r : Int32} (h : f_L_nextChange_52 p0 M = some r) : Ct l (SKX ++ T) E yX3_nextChange cX3_nextChange 4 (some .int) 2 44 [.ref (adr E 52), .int p0] M (some (.int r)) M := by
  refine ct_of (by decide) (Nat.le_of_ble_eq_true rfl) ?_
  intro G hG
  show G 0 [(0, .ref (adr E 52)), (1, .int p0)] [] M
  have hf := h
  unfold f_L_nextChange_52 at hf
  refine rx_iload_n hG dX3_nextChange_0 1 rfl ?_
  refine rx_istore_n (lv2 := [(2, .int p0), (0, .ref (adr E 52)), (1, .int p0)]) hG dX3_nextChange_1 (Nat.le_of_ble_eq_true rfl) rfl ?_
  refine rx_iconst hG 0 dX3_nextChange_2 ic_0 ?_
  refine rx_istore_n (lv2 := [(3, .int 0), (2, .int p0), (0, .ref (adr E 52)), (1, .int p0)]) hG dX3_nextChange_3 (Nat.le_of_ble_eq_true rfl) rfl ?_
  refine rx_sub hG [2, 1, 0] (lv' := [(0, .ref (adr E 52)), (2, .int p0), (3, .int 0)]) rfl ?_
  exact Llp_L_nextChange_52_4 l E T hG  FW p0 0 hf
set_option maxHeartbeats 4000000 in
set_option maxRecDepth 100000 in
theorem Lblp_L_hurryTo_52_2 (l : Launch) (E : En) (T : List Sk) {a0 b0 kc ks : Nat} {M' : Mm} {G : Nat → List (Nat × Value) → List Value → Mm → Prop} (hG : RX l (SKX ++ T) E RX3 cX3_hurryTo 3 none { frames := 3, cells := a0, slots := b0, locals := 73 } kc ks none M' G) (rc2 : Int32 → Int32 → Mm → Option Mm) (hrc2 : ∀ (x1 : Int32) (x2 : Int32) (M : Mm), rc2 x1 x2 M = some M' → G 2 [(0, .ref (adr E 52)), (1, .int x1), (2, .int x2)] [] M) : ∀ (x1 : Int32) (x2 : Int32) (M : Mm), blp_L_hurryTo_52_2 rc2 x1 x2 M = some M' → G 2 [(0, .ref (adr E 52)), (1, .int x1), (2, .int x2)] [] M := by
  intro x1 x2 M hf
  unfold blp_L_hurryTo_52_2 at hf
  refine rx_iload_n hG dX3_hurryTo_2 2 rfl ?_
  refine rx_iload_n hG dX3_hurryTo_3 1 rfl ?_
  refine rx_icmp_ge hG 34 dX3_hurryTo_4 rfl (fun c1 => ?_) (fun c1 => ?_)
  · have hf := ifT hf c1
    cases hf
    exact rx_vret hG dX3_hurryTo_34
  · have hf := ifF hf c1
    refine rx_aload_n hG dX3_hurryTo_7 0 rfl ?_
    refine gfX_L_73_52 l E T hG dX3_hurryTo_8 ?_
    refine rx_iload_n hG dX3_hurryTo_11 1 rfl ?_
    refine rx_icmp_ge hG 34 dX3_hurryTo_12 rfl (fun c2 => ?_) (fun c2 => ?_)
    · have hf := ifT hf c2
      cases hf
      exact rx_vret hG dX3_hurryTo_34
    · have hf := ifF hf c2
      refine rx_aload_n hG dX3_hurryTo_15 0 rfl ?_
      obtain ⟨M3, hM3, hf⟩ := bindE hf
      refine rx_cVv hG (c_L_change_52 l E T  hM3) (skX52 T) rfl rfl kw_L_92 ⟨Nat.le_of_ble_eq_true rfl, Nat.le_of_ble_eq_true rfl⟩ rfl (Nat.le_of_ble_eq_true rfl) dX3_hurryTo_16 ?_
      refine rx_aload_n hG dX3_hurryTo_19 0 rfl ?_
      refine rx_aload_n hG dX3_hurryTo_20 0 rfl ?_
      refine rx_iload_n hG dX3_hurryTo_21 1 rfl ?_
      obtain ⟨v4, hv4, hf⟩ := bindE hf
      refine rx_cVi hG (c_L_nextChange_52 l E T x1 hv4) (skX52 T) rfl rfl kw_L_98 ⟨Nat.le_of_ble_eq_true rfl, Nat.le_of_ble_eq_true rfl⟩ rfl (Nat.le_of_ble_eq_true rfl) dX3_hurryTo_22 ?_
      obtain ⟨M5, hM5, hf⟩ := bindE hf
      refine pfX_L_73_52 l E T hG hM5 dX3_hurryTo_25 ?_
      refine rx_iinc (lv2 := [(2, .int (x2 + 1)), (0, .ref (adr E 52)), (1, .int x1)]) hG 1 dX3_hurryTo_28 ic_1 2 rfl (Nat.le_of_ble_eq_true rfl) rfl ?_
      refine rx_goto hG 2 dX3_hurryTo_31 rfl ?_
      refine rx_sub hG [1, 2, 0] (lv' := [(0, .ref (adr E 52)), (1, .int x1), (2, .int (x2 + 1))]) rfl ?_
      exact hrc2 x1 (x2 + 1) M5 hf
theorem Llp_L_hurryTo_52_2 (l : Launch) (E : En) (T : List Sk) {a0 b0 kc ks : Nat} {M' : Mm} {G : Nat → List (Nat × Value) → List Value → Mm → Prop} (hG : RX l (SKX ++ T) E RX3 cX3_hurryTo 3 none { frames := 3, cells := a0, slots := b0, locals := 73 } kc ks none M' G)  : ∀ (n : Nat) (x1 : Int32) (x2 : Int32) (M : Mm), lp_L_hurryTo_52_2  n x1 x2 M = some M' → G 2 [(0, .ref (adr E 52)), (1, .int x1), (2, .int x2)] [] M := by
  intro n
  induction n with
  | zero => intro x1 x2 M hf; cases hf
  | succ n ih => intro x1 x2 M hf; exact Lblp_L_hurryTo_52_2 l E T hG  (lp_L_hurryTo_52_2  n) ih x1 x2 M hf
set_option maxHeartbeats 4000000 in
set_option maxRecDepth 100000 in
theorem c_L_hurryTo_52 (l : Launch) (E : En) (T : List Sk) (p0 : Int32) {M M' : Mm} (h : f_L_hurryTo_52 p0 M = some M') : Ct l (SKX ++ T) E yX3_hurryTo cX3_hurryTo 3 none 3 73 [.ref (adr E 52), .int p0] M none M' := by
  refine ct_of (by decide) (Nat.le_of_ble_eq_true rfl) ?_
  intro G hG
  show G 0 [(0, .ref (adr E 52)), (1, .int p0)] [] M
  have hf := h
  unfold f_L_hurryTo_52 at hf
  refine rx_iconst hG 0 dX3_hurryTo_0 ic_0 ?_
  refine rx_istore_n (lv2 := [(2, .int 0), (0, .ref (adr E 52)), (1, .int p0)]) hG dX3_hurryTo_1 (Nat.le_of_ble_eq_true rfl) rfl ?_
  refine rx_sub hG [1, 2, 0] (lv' := [(0, .ref (adr E 52)), (1, .int p0), (2, .int 0)]) rfl ?_
  exact Llp_L_hurryTo_52_2 l E T hG  FW p0 0 M hf
set_option maxHeartbeats 4000000 in
set_option maxRecDepth 100000 in
theorem c_Q_tried_48 (l : Launch) (E : En) (T : List Sk) (p0 : Int32) {M M' : Mm} {r : Int32} (h : f_Q_tried_48 p0 M = some (r, M')) : Ct l (SKX ++ T) E yX4_tried cX4_tried 2 (some .int) 4 95 [.ref (adr E 48), .int p0] M (some (.int r)) M' := by
  refine ct_of (by decide) (Nat.le_of_ble_eq_true rfl) ?_
  intro G hG
  show G 0 [(0, .ref (adr E 48)), (1, .int p0)] [] M
  have hf := h
  unfold f_Q_tried_48 at hf
  refine rx_aload_n hG dX4_tried_0 0 rfl ?_
  refine gfX_Q_30_48 l E T hG dX4_tried_1 ?_
  refine rx_iconst hG 0 dX4_tried_4 ic_0 ?_
  obtain ⟨M1, hM1, hf⟩ := bindE hf
  refine rx_cVv hG (c_L_start_52 l E T 0 hM1) (skX52 T) rfl rfl kw_Q_34 ⟨Nat.le_of_ble_eq_true rfl, Nat.le_of_ble_eq_true rfl⟩ rfl (Nat.le_of_ble_eq_true rfl) dX4_tried_5 ?_
  refine rx_aload_n hG dX4_tried_8 0 rfl ?_
  refine gfX_Q_30_48 l E T hG dX4_tried_9 ?_
  refine rx_iload_n hG dX4_tried_12 1 rfl ?_
  obtain ⟨M2, hM2, hf⟩ := bindE hf
  refine rx_cVv hG (c_L_hurryTo_52 l E T p0 hM2) (skX52 T) rfl rfl kw_Q_38 ⟨Nat.le_of_ble_eq_true rfl, Nat.le_of_ble_eq_true rfl⟩ rfl (Nat.le_of_ble_eq_true rfl) dX4_tried_13 ?_
  refine rx_aload_n hG dX4_tried_16 0 rfl ?_
  refine gfX_Q_30_48 l E T hG dX4_tried_17 ?_
  refine gfX_Q_42_52 l E T hG dX4_tried_20 ?_
  cases hf
  exact rx_iret hG dX4_tried_23
set_option maxHeartbeats 4000000 in
set_option maxRecDepth 100000 in
theorem c_Q_asNow_48 (l : Launch) (E : En) (T : List Sk) (p0 : Int32) {M M' : Mm} {r : Int32} (h : f_Q_asNow_48 p0 M = some (r, M')) : Ct l (SKX ++ T) E yX4_asNow cX4_asNow 2 (some .int) 5 116 [.ref (adr E 48), .int p0] M (some (.int r)) M' := by
  refine ct_of (by decide) (Nat.le_of_ble_eq_true rfl) ?_
  intro G hG
  show G 0 [(0, .ref (adr E 48)), (1, .int p0)] [] M
  have hf := h
  unfold f_Q_asNow_48 at hf
  refine rx_aload_n hG dX4_asNow_0 0 rfl ?_
  refine gfX_Q_12_48 l E T hG dX4_asNow_1 ?_
  refine rx_aload_n hG dX4_asNow_4 0 rfl ?_
  refine gfX_Q_22_48 l E T hG dX4_asNow_5 ?_
  obtain ⟨M1, hM1, hf⟩ := bindE hf
  refine rx_cVv hG (c_V_copy_49_32 l E T  hM1) (skX49 T) rfl rfl kw_Q_46 ⟨Nat.le_of_ble_eq_true rfl, Nat.le_of_ble_eq_true rfl⟩ rfl (Nat.le_of_ble_eq_true rfl) dX4_asNow_8 ?_
  refine rx_aload_n hG dX4_asNow_11 0 rfl ?_
  refine rx_iload_n hG dX4_asNow_12 1 rfl ?_
  obtain ⟨q2, hq2, hf⟩ := bindE hf
  refine rx_cVi hG (c_Q_tried_48 l E T p0 hq2) (skX48 T) rfl rfl kw_Q_50 ⟨Nat.le_of_ble_eq_true rfl, Nat.le_of_ble_eq_true rfl⟩ rfl (Nat.le_of_ble_eq_true rfl) dX4_asNow_13 ?_
  cases hf
  exact rx_iret hG dX4_asNow_16
set_option maxHeartbeats 4000000 in
set_option maxRecDepth 100000 in
theorem c_P_yields_0 (l : Launch) (E : En) (T : List Sk) (p0 : Int32) {M M' : Mm} {r : Int32} (h : f_P_yields_0 p0 M = some (r, M')) : Ct l (SKX ++ T) E yX9_yields cX9_yields 2 (some .int) 6 137 [.ref (adr E 0), .int p0] M (some (.int r)) M' := by
  refine ct_of (by decide) (Nat.le_of_ble_eq_true rfl) ?_
  intro G hG
  show G 0 [(0, .ref (adr E 0)), (1, .int p0)] [] M
  have hf := h
  unfold f_P_yields_0 at hf
  refine rx_aload_n hG dX9_yields_0 0 rfl ?_
  refine rx_iload_n hG dX9_yields_1 1 rfl ?_
  obtain ⟨q1, hq1, hf⟩ := bindE hf
  refine rx_cVi hG (c_P_refusesPaper_0 l E T p0 hq1) (skX0 T) rfl rfl kw_P_249 ⟨Nat.le_of_ble_eq_true rfl, Nat.le_of_ble_eq_true rfl⟩ rfl (Nat.le_of_ble_eq_true rfl) dX9_yields_2 ?_
  refine rx_if_eq hG 12 dX9_yields_5 rfl (fun c2 => ?_) (fun c2 => ?_)
  · have hf := ifT hf c2
    refine rx_aload_n hG dX9_yields_12 0 rfl ?_
    refine rx_aload_n hG dX9_yields_13 0 rfl ?_
    refine gfX_P_48_0 l E T hG dX9_yields_14 ?_
    refine rx_iload_n hG dX9_yields_17 1 rfl ?_
    obtain ⟨q3, hq3, hf⟩ := bindE hf
    refine rx_cVi hG (c_Q_asNow_48 l E T p0 hq3) (skX48 T) rfl rfl kw_P_252 ⟨Nat.le_of_ble_eq_true rfl, Nat.le_of_ble_eq_true rfl⟩ rfl (Nat.le_of_ble_eq_true rfl) dX9_yields_18 ?_
    obtain ⟨q4, hq4, hf⟩ := bindE hf
    refine rx_cVi hG (c_P_granted_0 l E T q3.1 hq4) (skX0 T) rfl rfl kw_P_116 ⟨Nat.le_of_ble_eq_true rfl, Nat.le_of_ble_eq_true rfl⟩ rfl (Nat.le_of_ble_eq_true rfl) dX9_yields_21 ?_
    cases hf
    exact rx_iret hG dX9_yields_24
  · have hf := ifF hf c2
    refine rx_iconst hG (-1) dX9_yields_8 ic_m1 ?_
    refine rx_goto hG 24 dX9_yields_9 rfl ?_
    cases hf
    exact rx_iret hG dX9_yields_24
set_option maxHeartbeats 4000000 in
set_option maxRecDepth 100000 in
theorem c_Q_withCards_48 (l : Launch) (E : En) (T : List Sk) (p0 : Int32) (p1 : Int32) (p2 : Int32) {M M' : Mm} {r : Int32} (h : f_Q_withCards_48 p0 p1 p2 M = some (r, M')) : Ct l (SKX ++ T) E yX4_withCards cX4_withCards 4 (some .int) 5 116 [.ref (adr E 48), .int p0, .int p1, .int p2] M (some (.int r)) M' := by
  refine ct_of (by decide) (Nat.le_of_ble_eq_true rfl) ?_
  intro G hG
  show G 0 [(0, .ref (adr E 48)), (1, .int p0), (2, .int p1), (3, .int p2)] [] M
  have hf := h
  unfold f_Q_withCards_48 at hf
  refine rx_aload_n hG dX4_withCards_0 0 rfl ?_
  refine gfX_Q_12_48 l E T hG dX4_withCards_1 ?_
  refine rx_aload_n hG dX4_withCards_4 0 rfl ?_
  refine gfX_Q_22_48 l E T hG dX4_withCards_5 ?_
  obtain ⟨M1, hM1, hf⟩ := bindE hf
  refine rx_cVv hG (c_V_copy_49_32 l E T  hM1) (skX49 T) rfl rfl kw_Q_46 ⟨Nat.le_of_ble_eq_true rfl, Nat.le_of_ble_eq_true rfl⟩ rfl (Nat.le_of_ble_eq_true rfl) dX4_withCards_8 ?_
  refine rx_aload_n hG dX4_withCards_11 0 rfl ?_
  refine gfX_Q_12_48 l E T hG dX4_withCards_12 ?_
  refine gfX_Q_54_49 l E T hG dX4_withCards_15 ?_
  refine rx_iload_n hG dX4_withCards_18 1 rfl ?_
  refine rx_iload_n hG dX4_withCards_19 2 rfl ?_
  obtain ⟨M2, hM2, hf⟩ := bindE hf
  refine rx_iast hG (skX50 T) hM2 dX4_withCards_20 ?_
  refine rx_aload_n hG dX4_withCards_21 0 rfl ?_
  refine rx_iload_n hG dX4_withCards_22 3 rfl ?_
  obtain ⟨q3, hq3, hf⟩ := bindE hf
  refine rx_cVi hG (c_Q_tried_48 l E T p2 hq3) (skX48 T) rfl rfl kw_Q_50 ⟨Nat.le_of_ble_eq_true rfl, Nat.le_of_ble_eq_true rfl⟩ rfl (Nat.le_of_ble_eq_true rfl) dX4_withCards_23 ?_
  cases hf
  exact rx_iret hG dX4_withCards_26
set_option maxHeartbeats 4000000 in
set_option maxRecDepth 100000 in
theorem c_P_would_0 (l : Launch) (E : En) (T : List Sk) (p0 : Int32) (p1 : Int32) (p2 : Int32) (p3 : Int32) {M M' : Mm} {r : Int32} (h : f_P_would_0 p0 p1 p2 p3 M = some (r, M')) : Ct l (SKX ++ T) E yX9_would cX9_would 5 (some .int) 6 139 [.ref (adr E 0), .int p0, .int p1, .int p2, .int p3] M (some (.int r)) M' := by
  refine ct_of (by decide) (Nat.le_of_ble_eq_true rfl) ?_
  intro G hG
  show G 0 [(0, .ref (adr E 0)), (1, .int p0), (2, .int p1), (3, .int p2), (4, .int p3)] [] M
  have hf := h
  unfold f_P_would_0 at hf
  refine rx_aload_n hG dX9_would_0 0 rfl ?_
  refine rx_iload_n hG dX9_would_1 1 rfl ?_
  obtain ⟨v1, hv1, hf⟩ := bindE hf
  refine rx_cVi hG (c_P_isBench_0 l E T p0 hv1) (skX0 T) rfl rfl kw_P_150 ⟨Nat.le_of_ble_eq_true rfl, Nat.le_of_ble_eq_true rfl⟩ rfl (Nat.le_of_ble_eq_true rfl) dX9_would_2 ?_
  refine rx_if_eq hG 16 dX9_would_5 rfl (fun c2 => ?_) (fun c2 => ?_)
  · have hf := ifT hf c2
    refine rx_aload_n hG dX9_would_16 0 rfl ?_
    refine rx_iconst hG 1 dX9_would_17 ic_1 ?_
    obtain ⟨q3, hq3, hf⟩ := bindE hf
    refine rx_cVi hG (c_P_refused_0 l E T 1 hq3) (skX0 T) rfl rfl kw_P_79 ⟨Nat.le_of_ble_eq_true rfl, Nat.le_of_ble_eq_true rfl⟩ rfl (Nat.le_of_ble_eq_true rfl) dX9_would_18 ?_
    cases hf
    exact rx_iret hG dX9_would_21
  · have hf := ifF hf c2
    refine rx_aload_n hG dX9_would_8 0 rfl ?_
    refine rx_iload_n hG dX9_would_9 2 rfl ?_
    obtain ⟨v4, hv4, hf⟩ := bindE hf
    refine rx_cVi hG (c_P_isKind_0 l E T p1 hv4) (skX0 T) rfl rfl kw_P_167 ⟨Nat.le_of_ble_eq_true rfl, Nat.le_of_ble_eq_true rfl⟩ rfl (Nat.le_of_ble_eq_true rfl) dX9_would_10 ?_
    refine rx_if_ne hG 22 dX9_would_13 rfl (fun c5 => ?_) (fun c5 => ?_)
    · have hf := ifF hf c5
      refine rx_iload_n hG dX9_would_22 3 rfl ?_
      refine rx_bipush hG 9 dX9_would_23 bp_9 ?_
      obtain ⟨v6, hv6, hf⟩ := bindE hf
      refine rx_cSi hG (c_P_within l E (SKX ++ T) p2 9 hv6) kw_P_128 ⟨Nat.le_of_ble_eq_true rfl, Nat.le_of_ble_eq_true rfl⟩ rfl (Nat.le_of_ble_eq_true rfl) dX9_would_25 ?_
      refine rx_if_ne hG 37 dX9_would_28 rfl (fun c7 => ?_) (fun c7 => ?_)
      · have hf := ifF hf c7
        refine rx_aload_n hG dX9_would_37 0 rfl ?_
        refine rx_iload hG dX9_would_38 4 rfl ?_
        obtain ⟨q8, hq8, hf⟩ := bindE hf
        refine rx_cVi hG (c_P_refusesPaper_0 l E T p3 hq8) (skX0 T) rfl rfl kw_P_249 ⟨Nat.le_of_ble_eq_true rfl, Nat.le_of_ble_eq_true rfl⟩ rfl (Nat.le_of_ble_eq_true rfl) dX9_would_40 ?_
        refine rx_if_eq hG 50 dX9_would_43 rfl (fun c9 => ?_) (fun c9 => ?_)
        · have hf := ifT hf c9
          refine rx_aload_n hG dX9_would_50 0 rfl ?_
          refine rx_aload_n hG dX9_would_51 0 rfl ?_
          refine gfX_P_48_0 l E T hG dX9_would_52 ?_
          refine rx_iload_n hG dX9_would_55 1 rfl ?_
          refine rx_iload_n hG dX9_would_56 2 rfl ?_
          obtain ⟨v10, hv10, hf⟩ := bindE hf
          refine rx_cSi hG (c_P_cell l E (SKX ++ T) p0 p1 hv10) kw_P_173 ⟨Nat.le_of_ble_eq_true rfl, Nat.le_of_ble_eq_true rfl⟩ rfl (Nat.le_of_ble_eq_true rfl) dX9_would_57 ?_
          refine rx_iload_n hG dX9_would_60 3 rfl ?_
          refine rx_iload hG dX9_would_61 4 rfl ?_
          obtain ⟨q11, hq11, hf⟩ := bindE hf
          refine rx_cVi hG (c_Q_withCards_48 l E T v10 p2 p3 hq11) (skX48 T) rfl rfl kw_P_255 ⟨Nat.le_of_ble_eq_true rfl, Nat.le_of_ble_eq_true rfl⟩ rfl (Nat.le_of_ble_eq_true rfl) dX9_would_63 ?_
          obtain ⟨q12, hq12, hf⟩ := bindE hf
          refine rx_cVi hG (c_P_granted_0 l E T q11.1 hq12) (skX0 T) rfl rfl kw_P_116 ⟨Nat.le_of_ble_eq_true rfl, Nat.le_of_ble_eq_true rfl⟩ rfl (Nat.le_of_ble_eq_true rfl) dX9_would_66 ?_
          cases hf
          exact rx_iret hG dX9_would_69
        · have hf := ifF hf c9
          refine rx_iconst hG (-1) dX9_would_46 ic_m1 ?_
          refine rx_goto hG 69 dX9_would_47 rfl ?_
          cases hf
          exact rx_iret hG dX9_would_69
      · have hf := ifT hf c7
        refine rx_aload_n hG dX9_would_31 0 rfl ?_
        refine rx_iconst hG 2 dX9_would_32 ic_2 ?_
        obtain ⟨q13, hq13, hf⟩ := bindE hf
        refine rx_cVi hG (c_P_refused_0 l E T 2 hq13) (skX0 T) rfl rfl kw_P_79 ⟨Nat.le_of_ble_eq_true rfl, Nat.le_of_ble_eq_true rfl⟩ rfl (Nat.le_of_ble_eq_true rfl) dX9_would_33 ?_
        cases hf
        exact rx_iret hG dX9_would_36
    · have hf := ifT hf c5
      refine rx_aload_n hG dX9_would_16 0 rfl ?_
      refine rx_iconst hG 1 dX9_would_17 ic_1 ?_
      obtain ⟨q14, hq14, hf⟩ := bindE hf
      refine rx_cVi hG (c_P_refused_0 l E T 1 hq14) (skX0 T) rfl rfl kw_P_79 ⟨Nat.le_of_ble_eq_true rfl, Nat.le_of_ble_eq_true rfl⟩ rfl (Nat.le_of_ble_eq_true rfl) dX9_would_18 ?_
      cases hf
      exact rx_iret hG dX9_would_21
set_option maxHeartbeats 4000000 in
set_option maxRecDepth 100000 in
theorem Lj_Q_fewestFor_48_77 (l : Launch) (E : En) (T : List Sk) {a0 b0 kc ks : Nat} {r : Int32} {M' : Mm} {G : Nat → List (Nat × Value) → List Value → Mm → Prop} (hG : RX l (SKX ++ T) E RX4 cX4_fewestFor 6 (some .int) { frames := 5, cells := a0, slots := b0, locals := 116 } kc ks (some (.int r)) M' G) (rc13 : Int32 → Int32 → Int32 → Mm → Option (Int32 × Mm)) (hrc13 : ∀ (x1 : Int32) (x2 : Int32) (x3 : Int32) (M : Mm), rc13 x1 x2 x3 M = some (r, M') → G 13 [(0, .ref (adr E 48)), (1, .int x1), (2, .int x2), (3, .int x3)] [] M) : ∀ (x1 : Int32) (x2 : Int32) (x3 : Int32) (M : Mm), j_Q_fewestFor_48_77 rc13 x1 x2 x3 M = some (r, M') → G 77 [(0, .ref (adr E 48)), (1, .int x1), (2, .int x2), (3, .int x3)] [] M := by
  intro x1 x2 x3 M hf
  unfold j_Q_fewestFor_48_77 at hf
  refine rx_aload_n hG dX4_fewestFor_77 0 rfl ?_
  refine rx_iload_n hG dX4_fewestFor_78 2 rfl ?_
  obtain ⟨q1, hq1, hf⟩ := bindE hf
  refine rx_cVi hG (c_Q_tried_48 l E T x2 hq1) (skX48 T) rfl rfl kw_Q_50 ⟨Nat.le_of_ble_eq_true rfl, Nat.le_of_ble_eq_true rfl⟩ rfl (Nat.le_of_ble_eq_true rfl) dX4_fewestFor_79 ?_
  refine rx_iload_n hG dX4_fewestFor_82 1 rfl ?_
  refine rx_icmp_lt hG 88 dX4_fewestFor_83 rfl (fun c2 => ?_) (fun c2 => ?_)
  · have hf := ifT hf c2
    refine rx_iinc (lv2 := [(3, .int (x3 + 1)), (0, .ref (adr E 48)), (1, .int x1), (2, .int x2)]) hG 1 dX4_fewestFor_88 ic_1 3 rfl (Nat.le_of_ble_eq_true rfl) rfl ?_
    refine rx_goto hG 13 dX4_fewestFor_91 rfl ?_
    refine rx_sub hG [1, 2, 3, 0] (lv' := [(0, .ref (adr E 48)), (1, .int x1), (2, .int x2), (3, .int (x3 + 1))]) rfl ?_
    exact hrc13 x1 x2 (x3 + 1) q1.2 hf
  · have hf := ifF hf c2
    refine rx_iload_n hG dX4_fewestFor_86 3 rfl ?_
    cases hf
    exact rx_iret hG dX4_fewestFor_87
set_option maxHeartbeats 4000000 in
set_option maxRecDepth 100000 in
theorem Lj_Q_fewestFor_48_71 (l : Launch) (E : En) (T : List Sk) {a0 b0 kc ks : Nat} {r : Int32} {M' : Mm} {G : Nat → List (Nat × Value) → List Value → Mm → Prop} (hG : RX l (SKX ++ T) E RX4 cX4_fewestFor 6 (some .int) { frames := 5, cells := a0, slots := b0, locals := 116 } kc ks (some (.int r)) M' G) (rc22 : Int32 → Int32 → Int32 → Int32 → Mm → Option (Int32 × Mm)) (hrc22 : ∀ (x1 : Int32) (x2 : Int32) (x3 : Int32) (x4 : Int32) (M : Mm), rc22 x1 x2 x3 x4 M = some (r, M') → G 22 [(0, .ref (adr E 48)), (1, .int x1), (2, .int x2), (3, .int x3), (4, .int x4)] [] M) : ∀ (x1 : Int32) (x2 : Int32) (x3 : Int32) (x4 : Int32) (M : Mm), j_Q_fewestFor_48_71 rc22 x1 x2 x3 x4 M = some (r, M') → G 71 [(0, .ref (adr E 48)), (1, .int x1), (2, .int x2), (3, .int x3), (4, .int x4)] [] M := by
  intro x1 x2 x3 x4 M hf
  unfold j_Q_fewestFor_48_71 at hf
  refine rx_iinc (lv2 := [(4, .int (x4 + 1)), (0, .ref (adr E 48)), (1, .int x1), (2, .int x2), (3, .int x3)]) hG 1 dX4_fewestFor_71 ic_1 4 rfl (Nat.le_of_ble_eq_true rfl) rfl ?_
  refine rx_goto hG 22 dX4_fewestFor_74 rfl ?_
  refine rx_sub hG [1, 2, 3, 4, 0] (lv' := [(0, .ref (adr E 48)), (1, .int x1), (2, .int x2), (3, .int x3), (4, .int (x4 + 1))]) rfl ?_
  exact hrc22 x1 x2 x3 (x4 + 1) M hf
set_option maxHeartbeats 4000000 in
set_option maxRecDepth 100000 in
theorem Lblp_Q_fewestFor_48_37 (l : Launch) (E : En) (T : List Sk) {a0 b0 kc ks : Nat} {r : Int32} {M' : Mm} {G : Nat → List (Nat × Value) → List Value → Mm → Prop} (hG : RX l (SKX ++ T) E RX4 cX4_fewestFor 6 (some .int) { frames := 5, cells := a0, slots := b0, locals := 116 } kc ks (some (.int r)) M' G) (rc22 : Int32 → Int32 → Int32 → Int32 → Mm → Option (Int32 × Mm)) (hrc22 : ∀ (x1 : Int32) (x2 : Int32) (x3 : Int32) (x4 : Int32) (M : Mm), rc22 x1 x2 x3 x4 M = some (r, M') → G 22 [(0, .ref (adr E 48)), (1, .int x1), (2, .int x2), (3, .int x3), (4, .int x4)] [] M) (rc37 : Int32 → Int32 → Int32 → Int32 → Int32 → Mm → Option (Int32 × Mm)) (hrc37 : ∀ (x1 : Int32) (x2 : Int32) (x3 : Int32) (x4 : Int32) (x5 : Int32) (M : Mm), rc37 x1 x2 x3 x4 x5 M = some (r, M') → G 37 [(0, .ref (adr E 48)), (1, .int x1), (2, .int x2), (3, .int x3), (4, .int x4), (5, .int x5)] [] M) : ∀ (x1 : Int32) (x2 : Int32) (x3 : Int32) (x4 : Int32) (x5 : Int32) (M : Mm), blp_Q_fewestFor_48_37 rc22 rc37 x1 x2 x3 x4 x5 M = some (r, M') → G 37 [(0, .ref (adr E 48)), (1, .int x1), (2, .int x2), (3, .int x3), (4, .int x4), (5, .int x5)] [] M := by
  intro x1 x2 x3 x4 x5 M hf
  unfold blp_Q_fewestFor_48_37 at hf
  refine rx_iload hG dX4_fewestFor_37 5 rfl ?_
  refine rx_aload_n hG dX4_fewestFor_39 0 rfl ?_
  refine gfX_Q_18_48 l E T hG dX4_fewestFor_40 ?_
  refine gfX_Q_63_2 l E T hG dX4_fewestFor_43 ?_
  refine rx_icmp_ge hG 71 dX4_fewestFor_46 rfl (fun c1 => ?_) (fun c1 => ?_)
  · have hf := ifT hf c1
    refine rx_sub hG [0, 1, 2, 3, 4] (lv' := [(0, .ref (adr E 48)), (1, .int x1), (2, .int x2), (3, .int x3), (4, .int x4)]) rfl ?_
    exact Lj_Q_fewestFor_48_71 l E T hG rc22 hrc22 x1 x2 x3 x4 M hf
  · have hf := ifF hf c1
    refine rx_aload_n hG dX4_fewestFor_49 0 rfl ?_
    refine gfX_Q_12_48 l E T hG dX4_fewestFor_50 ?_
    refine gfX_Q_54_49 l E T hG dX4_fewestFor_53 ?_
    refine rx_iload hG dX4_fewestFor_56 4 rfl ?_
    refine rx_iload hG dX4_fewestFor_58 5 rfl ?_
    obtain ⟨v2, hv2, hf⟩ := bindE hf
    refine rx_cNi hG (c_P_cell l E (SKX ++ T) x4 x5 hv2) kw_Q_66 ⟨Nat.le_of_ble_eq_true rfl, Nat.le_of_ble_eq_true rfl⟩ rfl (Nat.le_of_ble_eq_true rfl) dX4_fewestFor_60 ?_
    refine rx_iload_n hG dX4_fewestFor_63 3 rfl ?_
    obtain ⟨M3, hM3, hf⟩ := bindE hf
    refine rx_iast hG (skX50 T) hM3 dX4_fewestFor_64 ?_
    refine rx_iinc (lv2 := [(5, .int (x5 + 1)), (0, .ref (adr E 48)), (1, .int x1), (2, .int x2), (3, .int x3), (4, .int x4)]) hG 1 dX4_fewestFor_65 ic_1 5 rfl (Nat.le_of_ble_eq_true rfl) rfl ?_
    refine rx_goto hG 37 dX4_fewestFor_68 rfl ?_
    refine rx_sub hG [1, 2, 3, 4, 5, 0] (lv' := [(0, .ref (adr E 48)), (1, .int x1), (2, .int x2), (3, .int x3), (4, .int x4), (5, .int (x5 + 1))]) rfl ?_
    exact hrc37 x1 x2 x3 x4 (x5 + 1) M3 hf
theorem Llp_Q_fewestFor_48_37 (l : Launch) (E : En) (T : List Sk) {a0 b0 kc ks : Nat} {r : Int32} {M' : Mm} {G : Nat → List (Nat × Value) → List Value → Mm → Prop} (hG : RX l (SKX ++ T) E RX4 cX4_fewestFor 6 (some .int) { frames := 5, cells := a0, slots := b0, locals := 116 } kc ks (some (.int r)) M' G) (rc22 : Int32 → Int32 → Int32 → Int32 → Mm → Option (Int32 × Mm)) (hrc22 : ∀ (x1 : Int32) (x2 : Int32) (x3 : Int32) (x4 : Int32) (M : Mm), rc22 x1 x2 x3 x4 M = some (r, M') → G 22 [(0, .ref (adr E 48)), (1, .int x1), (2, .int x2), (3, .int x3), (4, .int x4)] [] M) : ∀ (n : Nat) (x1 : Int32) (x2 : Int32) (x3 : Int32) (x4 : Int32) (x5 : Int32) (M : Mm), lp_Q_fewestFor_48_37 rc22 n x1 x2 x3 x4 x5 M = some (r, M') → G 37 [(0, .ref (adr E 48)), (1, .int x1), (2, .int x2), (3, .int x3), (4, .int x4), (5, .int x5)] [] M := by
  intro n
  induction n with
  | zero => intro x1 x2 x3 x4 x5 M hf; cases hf
  | succ n ih => intro x1 x2 x3 x4 x5 M hf; exact Lblp_Q_fewestFor_48_37 l E T hG rc22 hrc22 (lp_Q_fewestFor_48_37 rc22 n) ih x1 x2 x3 x4 x5 M hf
set_option maxHeartbeats 4000000 in
set_option maxRecDepth 100000 in
theorem Lblp_Q_fewestFor_48_22 (l : Launch) (E : En) (T : List Sk) {a0 b0 kc ks : Nat} {r : Int32} {M' : Mm} {G : Nat → List (Nat × Value) → List Value → Mm → Prop} (hG : RX l (SKX ++ T) E RX4 cX4_fewestFor 6 (some .int) { frames := 5, cells := a0, slots := b0, locals := 116 } kc ks (some (.int r)) M' G) (rc13 : Int32 → Int32 → Int32 → Mm → Option (Int32 × Mm)) (hrc13 : ∀ (x1 : Int32) (x2 : Int32) (x3 : Int32) (M : Mm), rc13 x1 x2 x3 M = some (r, M') → G 13 [(0, .ref (adr E 48)), (1, .int x1), (2, .int x2), (3, .int x3)] [] M) (rc22 : Int32 → Int32 → Int32 → Int32 → Mm → Option (Int32 × Mm)) (hrc22 : ∀ (x1 : Int32) (x2 : Int32) (x3 : Int32) (x4 : Int32) (M : Mm), rc22 x1 x2 x3 x4 M = some (r, M') → G 22 [(0, .ref (adr E 48)), (1, .int x1), (2, .int x2), (3, .int x3), (4, .int x4)] [] M) : ∀ (x1 : Int32) (x2 : Int32) (x3 : Int32) (x4 : Int32) (M : Mm), blp_Q_fewestFor_48_22 rc13 rc22 x1 x2 x3 x4 M = some (r, M') → G 22 [(0, .ref (adr E 48)), (1, .int x1), (2, .int x2), (3, .int x3), (4, .int x4)] [] M := by
  intro x1 x2 x3 x4 M hf
  unfold blp_Q_fewestFor_48_22 at hf
  refine rx_iload hG dX4_fewestFor_22 4 rfl ?_
  refine rx_aload_n hG dX4_fewestFor_24 0 rfl ?_
  refine gfX_Q_18_48 l E T hG dX4_fewestFor_25 ?_
  refine gfX_Q_58_2 l E T hG dX4_fewestFor_28 ?_
  refine rx_icmp_ge hG 77 dX4_fewestFor_31 rfl (fun c1 => ?_) (fun c1 => ?_)
  · have hf := ifT hf c1
    refine rx_sub hG [0, 1, 2, 3] (lv' := [(0, .ref (adr E 48)), (1, .int x1), (2, .int x2), (3, .int x3)]) rfl ?_
    exact Lj_Q_fewestFor_48_77 l E T hG rc13 hrc13 x1 x2 x3 M hf
  · have hf := ifF hf c1
    refine rx_iconst hG 0 dX4_fewestFor_34 ic_0 ?_
    refine rx_istore (lv2 := [(5, .int 0), (0, .ref (adr E 48)), (1, .int x1), (2, .int x2), (3, .int x3), (4, .int x4)]) hG dX4_fewestFor_35 (Nat.le_of_ble_eq_true rfl) rfl ?_
    refine rx_sub hG [1, 2, 3, 4, 5, 0] (lv' := [(0, .ref (adr E 48)), (1, .int x1), (2, .int x2), (3, .int x3), (4, .int x4), (5, .int 0)]) rfl ?_
    exact Llp_Q_fewestFor_48_37 l E T hG rc22 hrc22 FW x1 x2 x3 x4 0 M hf
theorem Llp_Q_fewestFor_48_22 (l : Launch) (E : En) (T : List Sk) {a0 b0 kc ks : Nat} {r : Int32} {M' : Mm} {G : Nat → List (Nat × Value) → List Value → Mm → Prop} (hG : RX l (SKX ++ T) E RX4 cX4_fewestFor 6 (some .int) { frames := 5, cells := a0, slots := b0, locals := 116 } kc ks (some (.int r)) M' G) (rc13 : Int32 → Int32 → Int32 → Mm → Option (Int32 × Mm)) (hrc13 : ∀ (x1 : Int32) (x2 : Int32) (x3 : Int32) (M : Mm), rc13 x1 x2 x3 M = some (r, M') → G 13 [(0, .ref (adr E 48)), (1, .int x1), (2, .int x2), (3, .int x3)] [] M) : ∀ (n : Nat) (x1 : Int32) (x2 : Int32) (x3 : Int32) (x4 : Int32) (M : Mm), lp_Q_fewestFor_48_22 rc13 n x1 x2 x3 x4 M = some (r, M') → G 22 [(0, .ref (adr E 48)), (1, .int x1), (2, .int x2), (3, .int x3), (4, .int x4)] [] M := by
  intro n
  induction n with
  | zero => intro x1 x2 x3 x4 M hf; cases hf
  | succ n ih => intro x1 x2 x3 x4 M hf; exact Lblp_Q_fewestFor_48_22 l E T hG rc13 hrc13 (lp_Q_fewestFor_48_22 rc13 n) ih x1 x2 x3 x4 M hf
set_option maxHeartbeats 4000000 in
set_option maxRecDepth 100000 in
theorem Lblp_Q_fewestFor_48_13 (l : Launch) (E : En) (T : List Sk) {a0 b0 kc ks : Nat} {r : Int32} {M' : Mm} {G : Nat → List (Nat × Value) → List Value → Mm → Prop} (hG : RX l (SKX ++ T) E RX4 cX4_fewestFor 6 (some .int) { frames := 5, cells := a0, slots := b0, locals := 116 } kc ks (some (.int r)) M' G) (rc13 : Int32 → Int32 → Int32 → Mm → Option (Int32 × Mm)) (hrc13 : ∀ (x1 : Int32) (x2 : Int32) (x3 : Int32) (M : Mm), rc13 x1 x2 x3 M = some (r, M') → G 13 [(0, .ref (adr E 48)), (1, .int x1), (2, .int x2), (3, .int x3)] [] M) : ∀ (x1 : Int32) (x2 : Int32) (x3 : Int32) (M : Mm), blp_Q_fewestFor_48_13 rc13 x1 x2 x3 M = some (r, M') → G 13 [(0, .ref (adr E 48)), (1, .int x1), (2, .int x2), (3, .int x3)] [] M := by
  intro x1 x2 x3 M hf
  unfold blp_Q_fewestFor_48_13 at hf
  refine rx_iload_n hG dX4_fewestFor_13 3 rfl ?_
  refine rx_bipush hG 9 dX4_fewestFor_14 bp_9 ?_
  refine rx_icmp_gt hG 94 dX4_fewestFor_16 rfl (fun c1 => ?_) (fun c1 => ?_)
  · have hf := ifT hf c1
    refine rx_bipush hG (-2) dX4_fewestFor_94 bp_m2 ?_
    cases hf
    exact rx_iret hG dX4_fewestFor_96
  · have hf := ifF hf c1
    refine rx_iconst hG 0 dX4_fewestFor_19 ic_0 ?_
    refine rx_istore (lv2 := [(4, .int 0), (0, .ref (adr E 48)), (1, .int x1), (2, .int x2), (3, .int x3)]) hG dX4_fewestFor_20 (Nat.le_of_ble_eq_true rfl) rfl ?_
    refine rx_sub hG [1, 2, 3, 4, 0] (lv' := [(0, .ref (adr E 48)), (1, .int x1), (2, .int x2), (3, .int x3), (4, .int 0)]) rfl ?_
    exact Llp_Q_fewestFor_48_22 l E T hG rc13 hrc13 FW x1 x2 x3 0 M hf
theorem Llp_Q_fewestFor_48_13 (l : Launch) (E : En) (T : List Sk) {a0 b0 kc ks : Nat} {r : Int32} {M' : Mm} {G : Nat → List (Nat × Value) → List Value → Mm → Prop} (hG : RX l (SKX ++ T) E RX4 cX4_fewestFor 6 (some .int) { frames := 5, cells := a0, slots := b0, locals := 116 } kc ks (some (.int r)) M' G)  : ∀ (n : Nat) (x1 : Int32) (x2 : Int32) (x3 : Int32) (M : Mm), lp_Q_fewestFor_48_13  n x1 x2 x3 M = some (r, M') → G 13 [(0, .ref (adr E 48)), (1, .int x1), (2, .int x2), (3, .int x3)] [] M := by
  intro n
  induction n with
  | zero => intro x1 x2 x3 M hf; cases hf
  | succ n ih => intro x1 x2 x3 M hf; exact Lblp_Q_fewestFor_48_13 l E T hG  (lp_Q_fewestFor_48_13  n) ih x1 x2 x3 M hf
set_option maxHeartbeats 4000000 in
set_option maxRecDepth 100000 in
theorem c_Q_fewestFor_48 (l : Launch) (E : En) (T : List Sk) (p0 : Int32) (p1 : Int32) {M M' : Mm} {r : Int32} (h : f_Q_fewestFor_48 p0 p1 M = some (r, M')) : Ct l (SKX ++ T) E yX4_fewestFor cX4_fewestFor 6 (some .int) 5 116 [.ref (adr E 48), .int p0, .int p1] M (some (.int r)) M' := by
  refine ct_of (by decide) (Nat.le_of_ble_eq_true rfl) ?_
  intro G hG
  show G 0 [(0, .ref (adr E 48)), (1, .int p0), (2, .int p1)] [] M
  have hf := h
  unfold f_Q_fewestFor_48 at hf
  refine rx_aload_n hG dX4_fewestFor_0 0 rfl ?_
  refine gfX_Q_12_48 l E T hG dX4_fewestFor_1 ?_
  refine rx_aload_n hG dX4_fewestFor_4 0 rfl ?_
  refine gfX_Q_22_48 l E T hG dX4_fewestFor_5 ?_
  obtain ⟨M1, hM1, hf⟩ := bindE hf
  refine rx_cVv hG (c_V_copy_49_32 l E T  hM1) (skX49 T) rfl rfl kw_Q_46 ⟨Nat.le_of_ble_eq_true rfl, Nat.le_of_ble_eq_true rfl⟩ rfl (Nat.le_of_ble_eq_true rfl) dX4_fewestFor_8 ?_
  refine rx_iconst hG 1 dX4_fewestFor_11 ic_1 ?_
  refine rx_istore_n (lv2 := [(3, .int 1), (0, .ref (adr E 48)), (1, .int p0), (2, .int p1)]) hG dX4_fewestFor_12 (Nat.le_of_ble_eq_true rfl) rfl ?_
  refine rx_sub hG [1, 2, 3, 0] (lv' := [(0, .ref (adr E 48)), (1, .int p0), (2, .int p1), (3, .int 1)]) rfl ?_
  exact Llp_Q_fewestFor_48_13 l E T hG  FW p0 p1 1 M1 hf
set_option maxHeartbeats 4000000 in
set_option maxRecDepth 100000 in
theorem c_P_fewest_0 (l : Launch) (E : En) (T : List Sk) (p0 : Int32) (p1 : Int32) {M M' : Mm} {r : Int32} (h : f_P_fewest_0 p0 p1 M = some (r, M')) : Ct l (SKX ++ T) E yX9_fewest cX9_fewest 3 (some .int) 6 141 [.ref (adr E 0), .int p0, .int p1] M (some (.int r)) M' := by
  refine ct_of (by decide) (Nat.le_of_ble_eq_true rfl) ?_
  intro G hG
  show G 0 [(0, .ref (adr E 0)), (1, .int p0), (2, .int p1)] [] M
  have hf := h
  unfold f_P_fewest_0 at hf
  refine rx_aload_n hG dX9_fewest_0 0 rfl ?_
  refine rx_iload_n hG dX9_fewest_1 2 rfl ?_
  obtain ⟨q1, hq1, hf⟩ := bindE hf
  refine rx_cVi hG (c_P_refusesPaper_0 l E T p1 hq1) (skX0 T) rfl rfl kw_P_249 ⟨Nat.le_of_ble_eq_true rfl, Nat.le_of_ble_eq_true rfl⟩ rfl (Nat.le_of_ble_eq_true rfl) dX9_fewest_2 ?_
  refine rx_if_eq hG 10 dX9_fewest_5 rfl (fun c2 => ?_) (fun c2 => ?_)
  · have hf := ifT hf c2
    refine rx_iload_n hG dX9_fewest_10 1 rfl ?_
    refine rx_sipush hG 9999 dX9_fewest_11 sp_9999 ?_
    obtain ⟨v3, hv3, hf⟩ := bindE hf
    refine rx_cSi hG (c_P_within l E (SKX ++ T) p0 9999 hv3) kw_P_128 ⟨Nat.le_of_ble_eq_true rfl, Nat.le_of_ble_eq_true rfl⟩ rfl (Nat.le_of_ble_eq_true rfl) dX9_fewest_14 ?_
    refine rx_if_eq hG 36 dX9_fewest_17 rfl (fun c4 => ?_) (fun c4 => ?_)
    · have hf := ifT hf c4
      refine rx_aload_n hG dX9_fewest_36 0 rfl ?_
      refine rx_iconst hG 2 dX9_fewest_37 ic_2 ?_
      obtain ⟨q5, hq5, hf⟩ := bindE hf
      refine rx_cVi hG (c_P_refused_0 l E T 2 hq5) (skX0 T) rfl rfl kw_P_79 ⟨Nat.le_of_ble_eq_true rfl, Nat.le_of_ble_eq_true rfl⟩ rfl (Nat.le_of_ble_eq_true rfl) dX9_fewest_38 ?_
      cases hf
      exact rx_iret hG dX9_fewest_41
    · have hf := ifF hf c4
      refine rx_aload_n hG dX9_fewest_20 0 rfl ?_
      refine rx_aload_n hG dX9_fewest_21 0 rfl ?_
      refine gfX_P_48_0 l E T hG dX9_fewest_22 ?_
      refine rx_iload_n hG dX9_fewest_25 1 rfl ?_
      refine rx_iload_n hG dX9_fewest_26 2 rfl ?_
      obtain ⟨q6, hq6, hf⟩ := bindE hf
      refine rx_cVi hG (c_Q_fewestFor_48 l E T p0 p1 hq6) (skX48 T) rfl rfl kw_P_259 ⟨Nat.le_of_ble_eq_true rfl, Nat.le_of_ble_eq_true rfl⟩ rfl (Nat.le_of_ble_eq_true rfl) dX9_fewest_27 ?_
      obtain ⟨q7, hq7, hf⟩ := bindE hf
      refine rx_cVi hG (c_P_granted_0 l E T q6.1 hq7) (skX0 T) rfl rfl kw_P_116 ⟨Nat.le_of_ble_eq_true rfl, Nat.le_of_ble_eq_true rfl⟩ rfl (Nat.le_of_ble_eq_true rfl) dX9_fewest_30 ?_
      refine rx_goto hG 41 dX9_fewest_33 rfl ?_
      cases hf
      exact rx_iret hG dX9_fewest_41
  · have hf := ifF hf c2
    refine rx_iconst hG (-1) dX9_fewest_8 ic_m1 ?_
    cases hf
    exact rx_iret hG dX9_fewest_9
set_option maxHeartbeats 4000000 in
set_option maxRecDepth 100000 in
theorem Lj_Q_takeOut_48_103 (l : Launch) (E : En) (T : List Sk) {a0 b0 kc ks : Nat} {M' : Mm} {G : Nat → List (Nat × Value) → List Value → Mm → Prop} (hG : RX l (SKX ++ T) E RX4 cX4_takeOut 7 none { frames := 6, cells := a0, slots := b0, locals := 137 } kc ks none M' G) (rc11 : Int32 → Int32 → Int32 → Int32 → Mm → Option Mm) (hrc11 : ∀ (x1 : Int32) (x2 : Int32) (x3 : Int32) (x4 : Int32) (M : Mm), rc11 x1 x2 x3 x4 M = some M' → G 11 [(0, .ref (adr E 48)), (1, .int x1), (2, .int x2), (3, .int x3), (4, .int x4)] [] M) : ∀ (x1 : Int32) (x2 : Int32) (x3 : Int32) (x4 : Int32) (M : Mm), j_Q_takeOut_48_103 rc11 x1 x2 x3 x4 M = some M' → G 103 [(0, .ref (adr E 48)), (1, .int x1), (2, .int x2), (3, .int x3), (4, .int x4)] [] M := by
  intro x1 x2 x3 x4 M hf
  unfold j_Q_takeOut_48_103 at hf
  refine rx_iinc (lv2 := [(4, .int (x4 + 1)), (0, .ref (adr E 48)), (1, .int x1), (2, .int x2), (3, .int x3)]) hG 1 dX4_takeOut_103 ic_1 4 rfl (Nat.le_of_ble_eq_true rfl) rfl ?_
  refine rx_goto hG 11 dX4_takeOut_106 rfl ?_
  refine rx_sub hG [1, 2, 3, 4, 0] (lv' := [(0, .ref (adr E 48)), (1, .int x1), (2, .int x2), (3, .int x3), (4, .int (x4 + 1))]) rfl ?_
  exact hrc11 x1 x2 x3 (x4 + 1) M hf
set_option maxHeartbeats 4000000 in
set_option maxRecDepth 100000 in
theorem Lj_Q_takeOut_48_97 (l : Launch) (E : En) (T : List Sk) {a0 b0 kc ks : Nat} {M' : Mm} {G : Nat → List (Nat × Value) → List Value → Mm → Prop} (hG : RX l (SKX ++ T) E RX4 cX4_takeOut 7 none { frames := 6, cells := a0, slots := b0, locals := 137 } kc ks none M' G) (rc28 : Int32 → Int32 → Int32 → Int32 → Int32 → Mm → Option Mm) (hrc28 : ∀ (x1 : Int32) (x2 : Int32) (x3 : Int32) (x4 : Int32) (x5 : Int32) (M : Mm), rc28 x1 x2 x3 x4 x5 M = some M' → G 28 [(0, .ref (adr E 48)), (1, .int x1), (2, .int x2), (3, .int x3), (4, .int x4), (5, .int x5)] [] M) : ∀ (x1 : Int32) (x2 : Int32) (x3 : Int32) (x4 : Int32) (x5 : Int32) (M : Mm), j_Q_takeOut_48_97 rc28 x1 x2 x3 x4 x5 M = some M' → G 97 [(0, .ref (adr E 48)), (1, .int x1), (2, .int x2), (3, .int x3), (4, .int x4), (5, .int x5)] [] M := by
  intro x1 x2 x3 x4 x5 M hf
  unfold j_Q_takeOut_48_97 at hf
  refine rx_iinc (lv2 := [(5, .int (x5 + 1)), (0, .ref (adr E 48)), (1, .int x1), (2, .int x2), (3, .int x3), (4, .int x4)]) hG 1 dX4_takeOut_97 ic_1 5 rfl (Nat.le_of_ble_eq_true rfl) rfl ?_
  refine rx_goto hG 28 dX4_takeOut_100 rfl ?_
  refine rx_sub hG [1, 2, 3, 4, 5, 0] (lv' := [(0, .ref (adr E 48)), (1, .int x1), (2, .int x2), (3, .int x3), (4, .int x4), (5, .int (x5 + 1))]) rfl ?_
  exact hrc28 x1 x2 x3 x4 (x5 + 1) M hf
set_option maxHeartbeats 4000000 in
set_option maxRecDepth 100000 in
theorem Lblp_Q_takeOut_48_28 (l : Launch) (E : En) (T : List Sk) {a0 b0 kc ks : Nat} {M' : Mm} {G : Nat → List (Nat × Value) → List Value → Mm → Prop} (hG : RX l (SKX ++ T) E RX4 cX4_takeOut 7 none { frames := 6, cells := a0, slots := b0, locals := 137 } kc ks none M' G) (rc11 : Int32 → Int32 → Int32 → Int32 → Mm → Option Mm) (hrc11 : ∀ (x1 : Int32) (x2 : Int32) (x3 : Int32) (x4 : Int32) (M : Mm), rc11 x1 x2 x3 x4 M = some M' → G 11 [(0, .ref (adr E 48)), (1, .int x1), (2, .int x2), (3, .int x3), (4, .int x4)] [] M) (rc28 : Int32 → Int32 → Int32 → Int32 → Int32 → Mm → Option Mm) (hrc28 : ∀ (x1 : Int32) (x2 : Int32) (x3 : Int32) (x4 : Int32) (x5 : Int32) (M : Mm), rc28 x1 x2 x3 x4 x5 M = some M' → G 28 [(0, .ref (adr E 48)), (1, .int x1), (2, .int x2), (3, .int x3), (4, .int x4), (5, .int x5)] [] M) : ∀ (x1 : Int32) (x2 : Int32) (x3 : Int32) (x4 : Int32) (x5 : Int32) (M : Mm), blp_Q_takeOut_48_28 rc11 rc28 x1 x2 x3 x4 x5 M = some M' → G 28 [(0, .ref (adr E 48)), (1, .int x1), (2, .int x2), (3, .int x3), (4, .int x4), (5, .int x5)] [] M := by
  intro x1 x2 x3 x4 x5 M hf
  unfold blp_Q_takeOut_48_28 at hf
  refine rx_iload hG dX4_takeOut_28 5 rfl ?_
  refine rx_bipush hG 18 dX4_takeOut_30 bp_18 ?_
  refine rx_icmp_ge hG 103 dX4_takeOut_32 rfl (fun c1 => ?_) (fun c1 => ?_)
  · have hf := ifT hf c1
    refine rx_sub hG [0, 1, 2, 3, 4] (lv' := [(0, .ref (adr E 48)), (1, .int x1), (2, .int x2), (3, .int x3), (4, .int x4)]) rfl ?_
    exact Lj_Q_takeOut_48_103 l E T hG rc11 hrc11 x1 x2 x3 x4 M hf
  · have hf := ifF hf c1
    refine rx_aload_n hG dX4_takeOut_35 0 rfl ?_
    refine gfX_Q_12_48 l E T hG dX4_takeOut_36 ?_
    refine gfX_Q_54_49 l E T hG dX4_takeOut_39 ?_
    refine rx_iload hG dX4_takeOut_42 5 rfl ?_
    obtain ⟨v2, hv2, hf⟩ := bindE hf
    refine rx_iald hG (skX50 T) hv2 dX4_takeOut_44 ?_
    refine rx_if_le hG 97 dX4_takeOut_45 rfl (fun c3 => ?_) (fun c3 => ?_)
    · have hf := ifT hf c3
      exact Lj_Q_takeOut_48_97 l E T hG rc28 hrc28 x1 x2 x3 x4 x5 M hf
    · have hf := ifF hf c3
      refine rx_aload_n hG dX4_takeOut_48 0 rfl ?_
      refine gfX_Q_12_48 l E T hG dX4_takeOut_49 ?_
      refine gfX_Q_54_49 l E T hG dX4_takeOut_52 ?_
      refine rx_iload hG dX4_takeOut_55 5 rfl ?_
      refine rx_dup2 hG dX4_takeOut_57 rfl rfl ?_
      obtain ⟨v4, hv4, hf⟩ := bindE hf
      refine rx_iald hG (skX50 T) hv4 dX4_takeOut_58 ?_
      refine rx_iconst hG 1 dX4_takeOut_59 ic_1 ?_
      refine rx_isub hG dX4_takeOut_60 ?_
      obtain ⟨M5, hM5, hf⟩ := bindE hf
      refine rx_iast hG (skX50 T) hM5 dX4_takeOut_61 ?_
      refine rx_aload_n hG dX4_takeOut_62 0 rfl ?_
      refine rx_iload_n hG dX4_takeOut_63 1 rfl ?_
      obtain ⟨q6, hq6, hf⟩ := bindE hf
      refine rx_cVi hG (c_Q_tried_48 l E T x1 hq6) (skX48 T) rfl rfl kw_Q_50 ⟨Nat.le_of_ble_eq_true rfl, Nat.le_of_ble_eq_true rfl⟩ rfl (Nat.le_of_ble_eq_true rfl) dX4_takeOut_64 ?_
      refine rx_istore (lv2 := [(6, .int q6.1), (0, .ref (adr E 48)), (1, .int x1), (2, .int x2), (3, .int x3), (4, .int x4), (5, .int x5)]) hG dX4_takeOut_67 (Nat.le_of_ble_eq_true rfl) rfl ?_
      refine rx_iload hG dX4_takeOut_69 0 rfl ?_
      refine rx_iload_n hG dX4_takeOut_71 3 rfl ?_
      refine rx_icmp_ge hG 92 dX4_takeOut_72 rfl (fun c7 => ?_) (fun c7 => ?_)
      · have hf := ifT hf c7
        refine rx_iload hG dX4_takeOut_92 0 rfl ?_
        refine rx_istore_n (lv2 := [(2, .int q6.1), (6, .int q6.1), (0, .ref (adr E 48)), (1, .int x1), (3, .int x3), (4, .int x4), (5, .int x5)]) hG dX4_takeOut_94 (Nat.le_of_ble_eq_true rfl) rfl ?_
        refine rx_iconst hG 1 dX4_takeOut_95 ic_1 ?_
        refine rx_istore_n (lv2 := [(3, .int 1), (2, .int q6.1), (6, .int q6.1), (0, .ref (adr E 48)), (1, .int x1), (4, .int x4), (5, .int x5)]) hG dX4_takeOut_96 (Nat.le_of_ble_eq_true rfl) rfl ?_
        refine rx_sub hG [3, 4, 1, 0, 5, 6] (lv' := [(0, .ref (adr E 48)), (1, .int x1), (2, .int q6.1), (3, .int 1), (4, .int x4), (5, .int x5)]) rfl ?_
        exact Lj_Q_takeOut_48_97 l E T hG rc28 hrc28 x1 q6.1 1 x4 x5 q6.2 hf
      · have hf := ifF hf c7
        refine rx_aload_n hG dX4_takeOut_75 1 rfl ?_
        refine gfX_Q_12_48 l E T hG dX4_takeOut_76 ?_
        refine gfX_Q_54_49 l E T hG dX4_takeOut_79 ?_
        refine rx_iload hG dX4_takeOut_82 6 rfl ?_
        refine rx_dup2 hG dX4_takeOut_84 rfl rfl ?_
        obtain ⟨v8, hv8, hf⟩ := bindE hf
        refine rx_iald hG (skX50 T) hv8 dX4_takeOut_85 ?_
        refine rx_iconst hG 1 dX4_takeOut_86 ic_1 ?_
        refine rx_iadd hG dX4_takeOut_87 ?_
        obtain ⟨M9, hM9, hf⟩ := bindE hf
        refine rx_iast hG (skX50 T) hM9 dX4_takeOut_88 ?_
        refine rx_goto hG 97 dX4_takeOut_89 rfl ?_
        refine rx_sub hG [1, 2, 3, 4, 5, 6] (lv' := [(0, .ref (adr E 48)), (1, .int x1), (2, .int x2), (3, .int x3), (4, .int x4), (5, .int x5)]) rfl ?_
        exact Lj_Q_takeOut_48_97 l E T hG rc28 hrc28 x1 x2 x3 x4 x5 M9 hf
theorem Llp_Q_takeOut_48_28 (l : Launch) (E : En) (T : List Sk) {a0 b0 kc ks : Nat} {M' : Mm} {G : Nat → List (Nat × Value) → List Value → Mm → Prop} (hG : RX l (SKX ++ T) E RX4 cX4_takeOut 7 none { frames := 6, cells := a0, slots := b0, locals := 137 } kc ks none M' G) (rc11 : Int32 → Int32 → Int32 → Int32 → Mm → Option Mm) (hrc11 : ∀ (x1 : Int32) (x2 : Int32) (x3 : Int32) (x4 : Int32) (M : Mm), rc11 x1 x2 x3 x4 M = some M' → G 11 [(0, .ref (adr E 48)), (1, .int x1), (2, .int x2), (3, .int x3), (4, .int x4)] [] M) : ∀ (n : Nat) (x1 : Int32) (x2 : Int32) (x3 : Int32) (x4 : Int32) (x5 : Int32) (M : Mm), lp_Q_takeOut_48_28 rc11 n x1 x2 x3 x4 x5 M = some M' → G 28 [(0, .ref (adr E 48)), (1, .int x1), (2, .int x2), (3, .int x3), (4, .int x4), (5, .int x5)] [] M := by
  intro n
  induction n with
  | zero => intro x1 x2 x3 x4 x5 M hf; cases hf
  | succ n ih => intro x1 x2 x3 x4 x5 M hf; exact Lblp_Q_takeOut_48_28 l E T hG rc11 hrc11 (lp_Q_takeOut_48_28 rc11 n) ih x1 x2 x3 x4 x5 M hf
set_option maxHeartbeats 4000000 in
set_option maxRecDepth 100000 in
theorem Lblp_Q_takeOut_48_11 (l : Launch) (E : En) (T : List Sk) {a0 b0 kc ks : Nat} {M' : Mm} {G : Nat → List (Nat × Value) → List Value → Mm → Prop} (hG : RX l (SKX ++ T) E RX4 cX4_takeOut 7 none { frames := 6, cells := a0, slots := b0, locals := 137 } kc ks none M' G) (rc11 : Int32 → Int32 → Int32 → Int32 → Mm → Option Mm) (hrc11 : ∀ (x1 : Int32) (x2 : Int32) (x3 : Int32) (x4 : Int32) (M : Mm), rc11 x1 x2 x3 x4 M = some M' → G 11 [(0, .ref (adr E 48)), (1, .int x1), (2, .int x2), (3, .int x3), (4, .int x4)] [] M) : ∀ (x1 : Int32) (x2 : Int32) (x3 : Int32) (x4 : Int32) (M : Mm), blp_Q_takeOut_48_11 rc11 x1 x2 x3 x4 M = some M' → G 11 [(0, .ref (adr E 48)), (1, .int x1), (2, .int x2), (3, .int x3), (4, .int x4)] [] M := by
  intro x1 x2 x3 x4 M hf
  unfold blp_Q_takeOut_48_11 at hf
  refine rx_iload_n hG dX4_takeOut_11 3 rfl ?_
  refine rx_if_eq hG 109 dX4_takeOut_12 rfl (fun c1 => ?_) (fun c1 => ?_)
  · have hf := ifT hf c1
    cases hf
    exact rx_vret hG dX4_takeOut_109
  · have hf := ifF hf c1
    refine rx_iload hG dX4_takeOut_15 4 rfl ?_
    refine rx_sipush hG 162 dX4_takeOut_17 sp_162 ?_
    refine rx_icmp_gt hG 109 dX4_takeOut_20 rfl (fun c2 => ?_) (fun c2 => ?_)
    · have hf := ifT hf c2
      cases hf
      exact rx_vret hG dX4_takeOut_109
    · have hf := ifF hf c2
      refine rx_iconst hG 0 dX4_takeOut_23 ic_0 ?_
      refine rx_istore_n (lv2 := [(3, .int 0), (0, .ref (adr E 48)), (1, .int x1), (2, .int x2), (4, .int x4)]) hG dX4_takeOut_24 (Nat.le_of_ble_eq_true rfl) rfl ?_
      refine rx_iconst hG 0 dX4_takeOut_25 ic_0 ?_
      refine rx_istore (lv2 := [(5, .int 0), (3, .int 0), (0, .ref (adr E 48)), (1, .int x1), (2, .int x2), (4, .int x4)]) hG dX4_takeOut_26 (Nat.le_of_ble_eq_true rfl) rfl ?_
      refine rx_sub hG [2, 3, 4, 1, 5, 0] (lv' := [(0, .ref (adr E 48)), (1, .int x1), (2, .int x2), (3, .int 0), (4, .int x4), (5, .int 0)]) rfl ?_
      exact Llp_Q_takeOut_48_28 l E T hG rc11 hrc11 FW x1 x2 0 x4 0 M hf
theorem Llp_Q_takeOut_48_11 (l : Launch) (E : En) (T : List Sk) {a0 b0 kc ks : Nat} {M' : Mm} {G : Nat → List (Nat × Value) → List Value → Mm → Prop} (hG : RX l (SKX ++ T) E RX4 cX4_takeOut 7 none { frames := 6, cells := a0, slots := b0, locals := 137 } kc ks none M' G)  : ∀ (n : Nat) (x1 : Int32) (x2 : Int32) (x3 : Int32) (x4 : Int32) (M : Mm), lp_Q_takeOut_48_11  n x1 x2 x3 x4 M = some M' → G 11 [(0, .ref (adr E 48)), (1, .int x1), (2, .int x2), (3, .int x3), (4, .int x4)] [] M := by
  intro n
  induction n with
  | zero => intro x1 x2 x3 x4 M hf; cases hf
  | succ n ih => intro x1 x2 x3 x4 M hf; exact Lblp_Q_takeOut_48_11 l E T hG  (lp_Q_takeOut_48_11  n) ih x1 x2 x3 x4 M hf
set_option maxHeartbeats 4000000 in
set_option maxRecDepth 100000 in
theorem c_Q_takeOut_48 (l : Launch) (E : En) (T : List Sk) (p0 : Int32) {M M' : Mm} (h : f_Q_takeOut_48 p0 M = some M') : Ct l (SKX ++ T) E yX4_takeOut cX4_takeOut 7 none 6 137 [.ref (adr E 48), .int p0] M none M' := by
  refine ct_of (by decide) (Nat.le_of_ble_eq_true rfl) ?_
  intro G hG
  show G 0 [(0, .ref (adr E 48)), (1, .int p0)] [] M
  have hf := h
  unfold f_Q_takeOut_48 at hf
  refine rx_aload_n hG dX4_takeOut_0 0 rfl ?_
  refine rx_iload_n hG dX4_takeOut_1 1 rfl ?_
  obtain ⟨q1, hq1, hf⟩ := bindE hf
  refine rx_cVi hG (c_Q_asNow_48 l E T p0 hq1) (skX48 T) rfl rfl kw_Q_70 ⟨Nat.le_of_ble_eq_true rfl, Nat.le_of_ble_eq_true rfl⟩ rfl (Nat.le_of_ble_eq_true rfl) dX4_takeOut_2 ?_
  refine rx_istore_n (lv2 := [(2, .int q1.1), (0, .ref (adr E 48)), (1, .int p0)]) hG dX4_takeOut_5 (Nat.le_of_ble_eq_true rfl) rfl ?_
  refine rx_iconst hG 1 dX4_takeOut_6 ic_1 ?_
  refine rx_istore_n (lv2 := [(3, .int 1), (2, .int q1.1), (0, .ref (adr E 48)), (1, .int p0)]) hG dX4_takeOut_7 (Nat.le_of_ble_eq_true rfl) rfl ?_
  refine rx_iconst hG 0 dX4_takeOut_8 ic_0 ?_
  refine rx_istore (lv2 := [(4, .int 0), (3, .int 1), (2, .int q1.1), (0, .ref (adr E 48)), (1, .int p0)]) hG dX4_takeOut_9 (Nat.le_of_ble_eq_true rfl) rfl ?_
  refine rx_sub hG [3, 4, 2, 1, 0] (lv' := [(0, .ref (adr E 48)), (1, .int p0), (2, .int q1.1), (3, .int 1), (4, .int 0)]) rfl ?_
  exact Llp_Q_takeOut_48_11 l E T hG  FW p0 q1.1 1 0 q1.2 hf
set_option maxHeartbeats 4000000 in
set_option maxRecDepth 100000 in
theorem Lblp_V_allCards_49_4 (l : Launch) (E : En) (T : List Sk) {a0 b0 kc ks : Nat} {r : Int32} {M : Mm} {G : Nat → List (Nat × Value) → List Value → Mm → Prop} (hG : RX l (SKX ++ T) E RX2 cX2_allCards 3 (some .int) { frames := 0, cells := a0, slots := b0, locals := 0 } kc ks (some (.int r)) M G) (rc4 : Int32 → Int32 → Mm → Option Int32) (hrc4 : ∀ (x1 : Int32) (x2 : Int32), rc4 x1 x2 M = some r → G 4 [(0, .ref (adr E 49)), (1, .int x1), (2, .int x2)] [] M) : ∀ (x1 : Int32) (x2 : Int32), blp_V_allCards_49_4 rc4 x1 x2 M = some r → G 4 [(0, .ref (adr E 49)), (1, .int x1), (2, .int x2)] [] M := by
  intro x1 x2 hf
  unfold blp_V_allCards_49_4 at hf
  refine rx_iload_n hG dX2_allCards_4 2 rfl ?_
  refine rx_bipush hG 18 dX2_allCards_5 bp_18 ?_
  refine rx_icmp_ge hG 25 dX2_allCards_7 rfl (fun c1 => ?_) (fun c1 => ?_)
  · have hf := ifT hf c1
    refine rx_iload_n hG dX2_allCards_25 1 rfl ?_
    cases hf
    exact rx_iret hG dX2_allCards_26
  · have hf := ifF hf c1
    refine rx_iload_n hG dX2_allCards_10 1 rfl ?_
    refine rx_aload_n hG dX2_allCards_11 0 rfl ?_
    refine gfX_V_9_49 l E T hG dX2_allCards_12 ?_
    refine rx_iload_n hG dX2_allCards_15 2 rfl ?_
    obtain ⟨v2, hv2, hf⟩ := bindE hf
    refine rx_iald hG (skX50 T) hv2 dX2_allCards_16 ?_
    refine rx_iadd hG dX2_allCards_17 ?_
    refine rx_istore_n (lv2 := [(1, .int (x1 + v2)), (0, .ref (adr E 49)), (2, .int x2)]) hG dX2_allCards_18 (Nat.le_of_ble_eq_true rfl) rfl ?_
    refine rx_iinc (lv2 := [(2, .int (x2 + 1)), (1, .int (x1 + v2)), (0, .ref (adr E 49))]) hG 1 dX2_allCards_19 ic_1 2 rfl (Nat.le_of_ble_eq_true rfl) rfl ?_
    refine rx_goto hG 4 dX2_allCards_22 rfl ?_
    refine rx_sub hG [2, 1, 0] (lv' := [(0, .ref (adr E 49)), (1, .int (x1 + v2)), (2, .int (x2 + 1))]) rfl ?_
    exact hrc4 (x1 + v2) (x2 + 1) hf
theorem Llp_V_allCards_49_4 (l : Launch) (E : En) (T : List Sk) {a0 b0 kc ks : Nat} {r : Int32} {M : Mm} {G : Nat → List (Nat × Value) → List Value → Mm → Prop} (hG : RX l (SKX ++ T) E RX2 cX2_allCards 3 (some .int) { frames := 0, cells := a0, slots := b0, locals := 0 } kc ks (some (.int r)) M G)  : ∀ (n : Nat) (x1 : Int32) (x2 : Int32), lp_V_allCards_49_4  n x1 x2 M = some r → G 4 [(0, .ref (adr E 49)), (1, .int x1), (2, .int x2)] [] M := by
  intro n
  induction n with
  | zero => intro x1 x2 hf; cases hf
  | succ n ih => intro x1 x2 hf; exact Lblp_V_allCards_49_4 l E T hG  (lp_V_allCards_49_4  n) ih x1 x2 hf
set_option maxHeartbeats 4000000 in
set_option maxRecDepth 100000 in
theorem c_V_allCards_49 (l : Launch) (E : En) (T : List Sk)  {M : Mm} {r : Int32} (h : f_V_allCards_49 M = some r) : Ct l (SKX ++ T) E yX2_allCards cX2_allCards 3 (some .int) 0 0 [.ref (adr E 49)] M (some (.int r)) M := by
  refine ct_of (by decide) (Nat.le_of_ble_eq_true rfl) ?_
  intro G hG
  show G 0 [(0, .ref (adr E 49))] [] M
  have hf := h
  unfold f_V_allCards_49 at hf
  refine rx_iconst hG 0 dX2_allCards_0 ic_0 ?_
  refine rx_istore_n (lv2 := [(1, .int 0), (0, .ref (adr E 49))]) hG dX2_allCards_1 (Nat.le_of_ble_eq_true rfl) rfl ?_
  refine rx_iconst hG 0 dX2_allCards_2 ic_0 ?_
  refine rx_istore_n (lv2 := [(2, .int 0), (1, .int 0), (0, .ref (adr E 49))]) hG dX2_allCards_3 (Nat.le_of_ble_eq_true rfl) rfl ?_
  refine rx_sub hG [2, 1, 0] (lv' := [(0, .ref (adr E 49)), (1, .int 0), (2, .int 0)]) rfl ?_
  exact Llp_V_allCards_49_4 l E T hG  FW 0 0 hf
set_option maxHeartbeats 4000000 in
set_option maxRecDepth 100000 in
theorem c_P_thin_0 (l : Launch) (E : En) (T : List Sk) (p0 : Int32) {M M' : Mm} {r : Int32} (h : f_P_thin_0 p0 M = some (r, M')) : Ct l (SKX ++ T) E yX9_thin cX9_thin 2 (some .int) 7 163 [.ref (adr E 0), .int p0] M (some (.int r)) M' := by
  refine ct_of (by decide) (Nat.le_of_ble_eq_true rfl) ?_
  intro G hG
  show G 0 [(0, .ref (adr E 0)), (1, .int p0)] [] M
  have hf := h
  unfold f_P_thin_0 at hf
  refine rx_aload_n hG dX9_thin_0 0 rfl ?_
  refine rx_iload_n hG dX9_thin_1 1 rfl ?_
  obtain ⟨q1, hq1, hf⟩ := bindE hf
  refine rx_cVi hG (c_P_refusesPaper_0 l E T p0 hq1) (skX0 T) rfl rfl kw_P_249 ⟨Nat.le_of_ble_eq_true rfl, Nat.le_of_ble_eq_true rfl⟩ rfl (Nat.le_of_ble_eq_true rfl) dX9_thin_2 ?_
  refine rx_if_eq hG 10 dX9_thin_5 rfl (fun c2 => ?_) (fun c2 => ?_)
  · have hf := ifT hf c2
    refine rx_aload_n hG dX9_thin_10 0 rfl ?_
    refine gfX_P_48_0 l E T hG dX9_thin_11 ?_
    refine rx_iload_n hG dX9_thin_14 1 rfl ?_
    obtain ⟨M3, hM3, hf⟩ := bindE hf
    refine rx_cVv hG (c_Q_takeOut_48 l E T p0 hM3) (skX48 T) rfl rfl kw_P_262 ⟨Nat.le_of_ble_eq_true rfl, Nat.le_of_ble_eq_true rfl⟩ rfl (Nat.le_of_ble_eq_true rfl) dX9_thin_15 ?_
    refine rx_aload_n hG dX9_thin_18 0 rfl ?_
    refine rx_aload_n hG dX9_thin_19 0 rfl ?_
    refine gfX_P_48_0 l E T hG dX9_thin_20 ?_
    refine gfX_P_265_48 l E T hG dX9_thin_23 ?_
    obtain ⟨v4, hv4, hf⟩ := bindE hf
    refine rx_cVi hG (c_V_allCards_49 l E T  hv4) (skX49 T) rfl rfl kw_P_144 ⟨Nat.le_of_ble_eq_true rfl, Nat.le_of_ble_eq_true rfl⟩ rfl (Nat.le_of_ble_eq_true rfl) dX9_thin_26 ?_
    obtain ⟨q5, hq5, hf⟩ := bindE hf
    refine rx_cVi hG (c_P_granted_0 l E T v4 hq5) (skX0 T) rfl rfl kw_P_116 ⟨Nat.le_of_ble_eq_true rfl, Nat.le_of_ble_eq_true rfl⟩ rfl (Nat.le_of_ble_eq_true rfl) dX9_thin_29 ?_
    cases hf
    exact rx_iret hG dX9_thin_32
  · have hf := ifF hf c2
    refine rx_iconst hG (-1) dX9_thin_8 ic_m1 ?_
    cases hf
    exact rx_iret hG dX9_thin_9
set_option maxHeartbeats 4000000 in
set_option maxRecDepth 100000 in
theorem c_P_thinAt_0 (l : Launch) (E : En) (T : List Sk) (p0 : Int32) (p1 : Int32) (p2 : Int32) {M M' : Mm} {r : Int32} (h : f_P_thinAt_0 p0 p1 p2 M = some (r, M')) : Ct l (SKX ++ T) E yX9_thinAt cX9_thinAt 4 (some .int) 7 163 [.ref (adr E 0), .int p0, .int p1, .int p2] M (some (.int r)) M' := by
  refine ct_of (by decide) (Nat.le_of_ble_eq_true rfl) ?_
  intro G hG
  show G 0 [(0, .ref (adr E 0)), (1, .int p0), (2, .int p1), (3, .int p2)] [] M
  have hf := h
  unfold f_P_thinAt_0 at hf
  refine rx_aload_n hG dX9_thinAt_0 0 rfl ?_
  refine rx_iload_n hG dX9_thinAt_1 1 rfl ?_
  obtain ⟨v1, hv1, hf⟩ := bindE hf
  refine rx_cVi hG (c_P_isBench_0 l E T p0 hv1) (skX0 T) rfl rfl kw_P_150 ⟨Nat.le_of_ble_eq_true rfl, Nat.le_of_ble_eq_true rfl⟩ rfl (Nat.le_of_ble_eq_true rfl) dX9_thinAt_2 ?_
  refine rx_if_eq hG 16 dX9_thinAt_5 rfl (fun c2 => ?_) (fun c2 => ?_)
  · have hf := ifT hf c2
    refine rx_aload_n hG dX9_thinAt_16 0 rfl ?_
    refine rx_iconst hG 1 dX9_thinAt_17 ic_1 ?_
    obtain ⟨q3, hq3, hf⟩ := bindE hf
    refine rx_cVi hG (c_P_refused_0 l E T 1 hq3) (skX0 T) rfl rfl kw_P_79 ⟨Nat.le_of_ble_eq_true rfl, Nat.le_of_ble_eq_true rfl⟩ rfl (Nat.le_of_ble_eq_true rfl) dX9_thinAt_18 ?_
    cases hf
    exact rx_iret hG dX9_thinAt_21
  · have hf := ifF hf c2
    refine rx_aload_n hG dX9_thinAt_8 0 rfl ?_
    refine rx_iload_n hG dX9_thinAt_9 2 rfl ?_
    obtain ⟨v4, hv4, hf⟩ := bindE hf
    refine rx_cVi hG (c_P_isKind_0 l E T p1 hv4) (skX0 T) rfl rfl kw_P_167 ⟨Nat.le_of_ble_eq_true rfl, Nat.le_of_ble_eq_true rfl⟩ rfl (Nat.le_of_ble_eq_true rfl) dX9_thinAt_10 ?_
    refine rx_if_ne hG 22 dX9_thinAt_13 rfl (fun c5 => ?_) (fun c5 => ?_)
    · have hf := ifF hf c5
      refine rx_aload_n hG dX9_thinAt_22 0 rfl ?_
      refine rx_iload_n hG dX9_thinAt_23 3 rfl ?_
      obtain ⟨q6, hq6, hf⟩ := bindE hf
      refine rx_cVi hG (c_P_refusesPaper_0 l E T p2 hq6) (skX0 T) rfl rfl kw_P_249 ⟨Nat.le_of_ble_eq_true rfl, Nat.le_of_ble_eq_true rfl⟩ rfl (Nat.le_of_ble_eq_true rfl) dX9_thinAt_24 ?_
      refine rx_if_eq hG 32 dX9_thinAt_27 rfl (fun c7 => ?_) (fun c7 => ?_)
      · have hf := ifT hf c7
        refine rx_aload_n hG dX9_thinAt_32 0 rfl ?_
        refine gfX_P_48_0 l E T hG dX9_thinAt_33 ?_
        refine rx_iload_n hG dX9_thinAt_36 3 rfl ?_
        obtain ⟨M8, hM8, hf⟩ := bindE hf
        refine rx_cVv hG (c_Q_takeOut_48 l E T p2 hM8) (skX48 T) rfl rfl kw_P_262 ⟨Nat.le_of_ble_eq_true rfl, Nat.le_of_ble_eq_true rfl⟩ rfl (Nat.le_of_ble_eq_true rfl) dX9_thinAt_37 ?_
        refine rx_aload_n hG dX9_thinAt_40 0 rfl ?_
        refine rx_aload_n hG dX9_thinAt_41 0 rfl ?_
        refine gfX_P_48_0 l E T hG dX9_thinAt_42 ?_
        refine gfX_P_265_48 l E T hG dX9_thinAt_45 ?_
        refine gfX_P_186_49 l E T hG dX9_thinAt_48 ?_
        refine rx_iload_n hG dX9_thinAt_51 1 rfl ?_
        refine rx_iload_n hG dX9_thinAt_52 2 rfl ?_
        obtain ⟨v9, hv9, hf⟩ := bindE hf
        refine rx_cSi hG (c_P_cell l E (SKX ++ T) p0 p1 hv9) kw_P_173 ⟨Nat.le_of_ble_eq_true rfl, Nat.le_of_ble_eq_true rfl⟩ rfl (Nat.le_of_ble_eq_true rfl) dX9_thinAt_53 ?_
        obtain ⟨v10, hv10, hf⟩ := bindE hf
        refine rx_iald hG (skX50 T) hv10 dX9_thinAt_56 ?_
        obtain ⟨q11, hq11, hf⟩ := bindE hf
        refine rx_cVi hG (c_P_granted_0 l E T v10 hq11) (skX0 T) rfl rfl kw_P_116 ⟨Nat.le_of_ble_eq_true rfl, Nat.le_of_ble_eq_true rfl⟩ rfl (Nat.le_of_ble_eq_true rfl) dX9_thinAt_57 ?_
        cases hf
        exact rx_iret hG dX9_thinAt_60
      · have hf := ifF hf c7
        refine rx_iconst hG (-1) dX9_thinAt_30 ic_m1 ?_
        cases hf
        exact rx_iret hG dX9_thinAt_31
    · have hf := ifT hf c5
      refine rx_aload_n hG dX9_thinAt_16 0 rfl ?_
      refine rx_iconst hG 1 dX9_thinAt_17 ic_1 ?_
      obtain ⟨q12, hq12, hf⟩ := bindE hf
      refine rx_cVi hG (c_P_refused_0 l E T 1 hq12) (skX0 T) rfl rfl kw_P_79 ⟨Nat.le_of_ble_eq_true rfl, Nat.le_of_ble_eq_true rfl⟩ rfl (Nat.le_of_ble_eq_true rfl) dX9_thinAt_18 ?_
      cases hf
      exact rx_iret hG dX9_thinAt_21
set_option maxHeartbeats 4000000 in
set_option maxRecDepth 100000 in
theorem Lj_Q_bestCardMore_48_102 (l : Launch) (E : En) (T : List Sk) {a0 b0 kc ks : Nat} {r : Int32} {M' : Mm} {G : Nat → List (Nat × Value) → List Value → Mm → Prop} (hG : RX l (SKX ++ T) E RX4 cX4_bestCardMore 9 (some .int) { frames := 6, cells := a0, slots := b0, locals := 139 } kc ks (some (.int r)) M' G) (rc12 : Int32 → Int32 → Int32 → Int32 → Mm → Option (Int32 × Mm)) (hrc12 : ∀ (x1 : Int32) (x2 : Int32) (x3 : Int32) (x4 : Int32) (M : Mm), rc12 x1 x2 x3 x4 M = some (r, M') → G 12 [(0, .ref (adr E 48)), (1, .int x1), (2, .int x2), (3, .int x3), (4, .int x4)] [] M) : ∀ (x1 : Int32) (x2 : Int32) (x3 : Int32) (x4 : Int32) (M : Mm), j_Q_bestCardMore_48_102 rc12 x1 x2 x3 x4 M = some (r, M') → G 102 [(0, .ref (adr E 48)), (1, .int x1), (2, .int x2), (3, .int x3), (4, .int x4)] [] M := by
  intro x1 x2 x3 x4 M hf
  unfold j_Q_bestCardMore_48_102 at hf
  refine rx_iinc (lv2 := [(4, .int (x4 + 1)), (0, .ref (adr E 48)), (1, .int x1), (2, .int x2), (3, .int x3)]) hG 1 dX4_bestCardMore_102 ic_1 4 rfl (Nat.le_of_ble_eq_true rfl) rfl ?_
  refine rx_goto hG 12 dX4_bestCardMore_105 rfl ?_
  refine rx_sub hG [1, 2, 3, 4, 0] (lv' := [(0, .ref (adr E 48)), (1, .int x1), (2, .int x2), (3, .int x3), (4, .int (x4 + 1))]) rfl ?_
  exact hrc12 x1 x2 x3 (x4 + 1) M hf
set_option maxHeartbeats 4000000 in
set_option maxRecDepth 100000 in
theorem Lj_Q_bestCardMore_48_96 (l : Launch) (E : En) (T : List Sk) {a0 b0 kc ks : Nat} {r : Int32} {M' : Mm} {G : Nat → List (Nat × Value) → List Value → Mm → Prop} (hG : RX l (SKX ++ T) E RX4 cX4_bestCardMore 9 (some .int) { frames := 6, cells := a0, slots := b0, locals := 139 } kc ks (some (.int r)) M' G) (rc27 : Int32 → Int32 → Int32 → Int32 → Int32 → Mm → Option (Int32 × Mm)) (hrc27 : ∀ (x1 : Int32) (x2 : Int32) (x3 : Int32) (x4 : Int32) (x5 : Int32) (M : Mm), rc27 x1 x2 x3 x4 x5 M = some (r, M') → G 27 [(0, .ref (adr E 48)), (1, .int x1), (2, .int x2), (3, .int x3), (4, .int x4), (5, .int x5)] [] M) : ∀ (x1 : Int32) (x2 : Int32) (x3 : Int32) (x4 : Int32) (x5 : Int32) (M : Mm), j_Q_bestCardMore_48_96 rc27 x1 x2 x3 x4 x5 M = some (r, M') → G 96 [(0, .ref (adr E 48)), (1, .int x1), (2, .int x2), (3, .int x3), (4, .int x4), (5, .int x5)] [] M := by
  intro x1 x2 x3 x4 x5 M hf
  unfold j_Q_bestCardMore_48_96 at hf
  refine rx_iinc (lv2 := [(5, .int (x5 + 1)), (0, .ref (adr E 48)), (1, .int x1), (2, .int x2), (3, .int x3), (4, .int x4)]) hG 1 dX4_bestCardMore_96 ic_1 5 rfl (Nat.le_of_ble_eq_true rfl) rfl ?_
  refine rx_goto hG 27 dX4_bestCardMore_99 rfl ?_
  refine rx_sub hG [1, 2, 3, 4, 5, 0] (lv' := [(0, .ref (adr E 48)), (1, .int x1), (2, .int x2), (3, .int x3), (4, .int x4), (5, .int (x5 + 1))]) rfl ?_
  exact hrc27 x1 x2 x3 x4 (x5 + 1) M hf
set_option maxHeartbeats 4000000 in
set_option maxRecDepth 100000 in
theorem Lj_Q_bestCardMore_48_82 (l : Launch) (E : En) (T : List Sk) {a0 b0 kc ks : Nat} {r : Int32} {M' : Mm} {G : Nat → List (Nat × Value) → List Value → Mm → Prop} (hG : RX l (SKX ++ T) E RX4 cX4_bestCardMore 9 (some .int) { frames := 6, cells := a0, slots := b0, locals := 139 } kc ks (some (.int r)) M' G) (rc27 : Int32 → Int32 → Int32 → Int32 → Int32 → Mm → Option (Int32 × Mm)) (hrc27 : ∀ (x1 : Int32) (x2 : Int32) (x3 : Int32) (x4 : Int32) (x5 : Int32) (M : Mm), rc27 x1 x2 x3 x4 x5 M = some (r, M') → G 27 [(0, .ref (adr E 48)), (1, .int x1), (2, .int x2), (3, .int x3), (4, .int x4), (5, .int x5)] [] M) : ∀ (x1 : Int32) (x2 : Int32) (x3 : Int32) (x4 : Int32) (x5 : Int32) (x6 : Int32) (t0 : Int32) (M : Mm), j_Q_bestCardMore_48_82 rc27 x1 x2 x3 x4 x5 x6 t0 M = some (r, M') → G 82 [(0, .ref (adr E 48)), (1, .int x1), (2, .int x2), (3, .int x3), (4, .int x4), (5, .int x5), (6, .int x6)] [.int t0] M := by
  intro x1 x2 x3 x4 x5 x6 t0 M hf
  unfold j_Q_bestCardMore_48_82 at hf
  refine rx_istore (lv2 := [(8, .int t0), (0, .ref (adr E 48)), (1, .int x1), (2, .int x2), (3, .int x3), (4, .int x4), (5, .int x5), (6, .int x6)]) hG dX4_bestCardMore_82 (Nat.le_of_ble_eq_true rfl) rfl ?_
  refine rx_iload hG dX4_bestCardMore_84 0 rfl ?_
  refine rx_iload_n hG dX4_bestCardMore_86 3 rfl ?_
  refine rx_icmp_le hG 96 dX4_bestCardMore_87 rfl (fun c1 => ?_) (fun c1 => ?_)
  · have hf := ifT hf c1
    refine rx_sub hG [1, 2, 3, 4, 5, 6] (lv' := [(0, .ref (adr E 48)), (1, .int x1), (2, .int x2), (3, .int x3), (4, .int x4), (5, .int x5)]) rfl ?_
    exact Lj_Q_bestCardMore_48_96 l E T hG rc27 hrc27 x1 x2 x3 x4 x5 M hf
  · have hf := ifF hf c1
    refine rx_iload hG dX4_bestCardMore_90 0 rfl ?_
    refine rx_istore_n (lv2 := [(2, .int t0), (8, .int t0), (0, .ref (adr E 48)), (1, .int x1), (3, .int x3), (4, .int x4), (5, .int x5), (6, .int x6)]) hG dX4_bestCardMore_92 (Nat.le_of_ble_eq_true rfl) rfl ?_
    refine rx_iload hG dX4_bestCardMore_93 7 rfl ?_
    refine rx_istore_n (lv2 := [(3, .int x6), (2, .int t0), (8, .int t0), (0, .ref (adr E 48)), (1, .int x1), (4, .int x4), (5, .int x5), (6, .int x6)]) hG dX4_bestCardMore_95 (Nat.le_of_ble_eq_true rfl) rfl ?_
    refine rx_sub hG [3, 4, 1, 0, 5, 6] (lv' := [(0, .ref (adr E 48)), (1, .int x1), (2, .int t0), (3, .int x6), (4, .int x4), (5, .int x5)]) rfl ?_
    exact Lj_Q_bestCardMore_48_96 l E T hG rc27 hrc27 x1 t0 x6 x4 x5 M hf
set_option maxHeartbeats 4000000 in
set_option maxRecDepth 100000 in
theorem Lblp_Q_bestCardMore_48_27 (l : Launch) (E : En) (T : List Sk) {a0 b0 kc ks : Nat} {r : Int32} {M' : Mm} {G : Nat → List (Nat × Value) → List Value → Mm → Prop} (hG : RX l (SKX ++ T) E RX4 cX4_bestCardMore 9 (some .int) { frames := 6, cells := a0, slots := b0, locals := 139 } kc ks (some (.int r)) M' G) (rc12 : Int32 → Int32 → Int32 → Int32 → Mm → Option (Int32 × Mm)) (hrc12 : ∀ (x1 : Int32) (x2 : Int32) (x3 : Int32) (x4 : Int32) (M : Mm), rc12 x1 x2 x3 x4 M = some (r, M') → G 12 [(0, .ref (adr E 48)), (1, .int x1), (2, .int x2), (3, .int x3), (4, .int x4)] [] M) (rc27 : Int32 → Int32 → Int32 → Int32 → Int32 → Mm → Option (Int32 × Mm)) (hrc27 : ∀ (x1 : Int32) (x2 : Int32) (x3 : Int32) (x4 : Int32) (x5 : Int32) (M : Mm), rc27 x1 x2 x3 x4 x5 M = some (r, M') → G 27 [(0, .ref (adr E 48)), (1, .int x1), (2, .int x2), (3, .int x3), (4, .int x4), (5, .int x5)] [] M) : ∀ (x1 : Int32) (x2 : Int32) (x3 : Int32) (x4 : Int32) (x5 : Int32) (M : Mm), blp_Q_bestCardMore_48_27 rc12 rc27 x1 x2 x3 x4 x5 M = some (r, M') → G 27 [(0, .ref (adr E 48)), (1, .int x1), (2, .int x2), (3, .int x3), (4, .int x4), (5, .int x5)] [] M := by
  intro x1 x2 x3 x4 x5 M hf
  unfold blp_Q_bestCardMore_48_27 at hf
  refine rx_iload hG dX4_bestCardMore_27 5 rfl ?_
  refine rx_aload_n hG dX4_bestCardMore_29 0 rfl ?_
  refine gfX_Q_18_48 l E T hG dX4_bestCardMore_30 ?_
  refine gfX_Q_63_2 l E T hG dX4_bestCardMore_33 ?_
  refine rx_icmp_ge hG 102 dX4_bestCardMore_36 rfl (fun c1 => ?_) (fun c1 => ?_)
  · have hf := ifT hf c1
    refine rx_sub hG [0, 1, 2, 3, 4] (lv' := [(0, .ref (adr E 48)), (1, .int x1), (2, .int x2), (3, .int x3), (4, .int x4)]) rfl ?_
    exact Lj_Q_bestCardMore_48_102 l E T hG rc12 hrc12 x1 x2 x3 x4 M hf
  · have hf := ifF hf c1
    refine rx_iload hG dX4_bestCardMore_39 4 rfl ?_
    refine rx_iload hG dX4_bestCardMore_41 5 rfl ?_
    obtain ⟨v2, hv2, hf⟩ := bindE hf
    refine rx_cNi hG (c_P_cell l E (SKX ++ T) x4 x5 hv2) kw_Q_66 ⟨Nat.le_of_ble_eq_true rfl, Nat.le_of_ble_eq_true rfl⟩ rfl (Nat.le_of_ble_eq_true rfl) dX4_bestCardMore_43 ?_
    refine rx_istore (lv2 := [(6, .int v2), (0, .ref (adr E 48)), (1, .int x1), (2, .int x2), (3, .int x3), (4, .int x4), (5, .int x5)]) hG dX4_bestCardMore_46 (Nat.le_of_ble_eq_true rfl) rfl ?_
    refine rx_aload_n hG dX4_bestCardMore_48 1 rfl ?_
    refine gfX_Q_22_48 l E T hG dX4_bestCardMore_49 ?_
    refine gfX_Q_54_32 l E T hG dX4_bestCardMore_52 ?_
    refine rx_iload hG dX4_bestCardMore_55 0 rfl ?_
    obtain ⟨v3, hv3, hf⟩ := bindE hf
    refine rx_iald hG (skX33 T) hv3 dX4_bestCardMore_57 ?_
    refine rx_istore (lv2 := [(7, .int v3), (6, .int v2), (0, .ref (adr E 48)), (1, .int x1), (2, .int x2), (3, .int x3), (4, .int x4), (5, .int x5)]) hG dX4_bestCardMore_58 (Nat.le_of_ble_eq_true rfl) rfl ?_
    refine rx_iload hG dX4_bestCardMore_60 0 rfl ?_
    refine rx_bipush hG 9 dX4_bestCardMore_62 bp_9 ?_
    refine rx_icmp_ge hG 81 dX4_bestCardMore_64 rfl (fun c4 => ?_) (fun c4 => ?_)
    · have hf := ifT hf c4
      refine rx_iconst hG 0 dX4_bestCardMore_81 ic_0 ?_
      refine rx_sub hG [2, 3, 4, 5, 6, 7, 1] (lv' := [(0, .ref (adr E 48)), (1, .int x1), (2, .int x2), (3, .int x3), (4, .int x4), (5, .int x5), (6, .int v2)]) rfl ?_
      exact Lj_Q_bestCardMore_48_82 l E T hG rc27 hrc27 x1 x2 x3 x4 x5 v2 0 M hf
    · have hf := ifF hf c4
      refine rx_aload_n hG dX4_bestCardMore_67 2 rfl ?_
      refine rx_iload hG dX4_bestCardMore_68 1 rfl ?_
      refine rx_iload hG dX4_bestCardMore_70 0 rfl ?_
      refine rx_iconst hG 1 dX4_bestCardMore_72 ic_1 ?_
      refine rx_iadd hG dX4_bestCardMore_73 ?_
      refine rx_iload_n hG dX4_bestCardMore_74 3 rfl ?_
      obtain ⟨q5, hq5, hf⟩ := bindE hf
      refine rx_cVi hG (c_Q_withCards_48 l E T v2 (v3 + 1) x1 hq5) (skX48 T) rfl rfl kw_Q_73 ⟨Nat.le_of_ble_eq_true rfl, Nat.le_of_ble_eq_true rfl⟩ rfl (Nat.le_of_ble_eq_true rfl) dX4_bestCardMore_75 ?_
      refine rx_goto hG 82 dX4_bestCardMore_78 rfl ?_
      refine rx_sub hG [2, 3, 4, 5, 6, 7, 1] (lv' := [(0, .ref (adr E 48)), (1, .int x1), (2, .int x2), (3, .int x3), (4, .int x4), (5, .int x5), (6, .int v2)]) rfl ?_
      exact Lj_Q_bestCardMore_48_82 l E T hG rc27 hrc27 x1 x2 x3 x4 x5 v2 q5.1 q5.2 hf
theorem Llp_Q_bestCardMore_48_27 (l : Launch) (E : En) (T : List Sk) {a0 b0 kc ks : Nat} {r : Int32} {M' : Mm} {G : Nat → List (Nat × Value) → List Value → Mm → Prop} (hG : RX l (SKX ++ T) E RX4 cX4_bestCardMore 9 (some .int) { frames := 6, cells := a0, slots := b0, locals := 139 } kc ks (some (.int r)) M' G) (rc12 : Int32 → Int32 → Int32 → Int32 → Mm → Option (Int32 × Mm)) (hrc12 : ∀ (x1 : Int32) (x2 : Int32) (x3 : Int32) (x4 : Int32) (M : Mm), rc12 x1 x2 x3 x4 M = some (r, M') → G 12 [(0, .ref (adr E 48)), (1, .int x1), (2, .int x2), (3, .int x3), (4, .int x4)] [] M) : ∀ (n : Nat) (x1 : Int32) (x2 : Int32) (x3 : Int32) (x4 : Int32) (x5 : Int32) (M : Mm), lp_Q_bestCardMore_48_27 rc12 n x1 x2 x3 x4 x5 M = some (r, M') → G 27 [(0, .ref (adr E 48)), (1, .int x1), (2, .int x2), (3, .int x3), (4, .int x4), (5, .int x5)] [] M := by
  intro n
  induction n with
  | zero => intro x1 x2 x3 x4 x5 M hf; cases hf
  | succ n ih => intro x1 x2 x3 x4 x5 M hf; exact Lblp_Q_bestCardMore_48_27 l E T hG rc12 hrc12 (lp_Q_bestCardMore_48_27 rc12 n) ih x1 x2 x3 x4 x5 M hf
set_option maxHeartbeats 4000000 in
set_option maxRecDepth 100000 in
theorem Lblp_Q_bestCardMore_48_12 (l : Launch) (E : En) (T : List Sk) {a0 b0 kc ks : Nat} {r : Int32} {M' : Mm} {G : Nat → List (Nat × Value) → List Value → Mm → Prop} (hG : RX l (SKX ++ T) E RX4 cX4_bestCardMore 9 (some .int) { frames := 6, cells := a0, slots := b0, locals := 139 } kc ks (some (.int r)) M' G) (rc12 : Int32 → Int32 → Int32 → Int32 → Mm → Option (Int32 × Mm)) (hrc12 : ∀ (x1 : Int32) (x2 : Int32) (x3 : Int32) (x4 : Int32) (M : Mm), rc12 x1 x2 x3 x4 M = some (r, M') → G 12 [(0, .ref (adr E 48)), (1, .int x1), (2, .int x2), (3, .int x3), (4, .int x4)] [] M) : ∀ (x1 : Int32) (x2 : Int32) (x3 : Int32) (x4 : Int32) (M : Mm), blp_Q_bestCardMore_48_12 rc12 x1 x2 x3 x4 M = some (r, M') → G 12 [(0, .ref (adr E 48)), (1, .int x1), (2, .int x2), (3, .int x3), (4, .int x4)] [] M := by
  intro x1 x2 x3 x4 M hf
  unfold blp_Q_bestCardMore_48_12 at hf
  refine rx_iload hG dX4_bestCardMore_12 4 rfl ?_
  refine rx_aload_n hG dX4_bestCardMore_14 0 rfl ?_
  refine gfX_Q_18_48 l E T hG dX4_bestCardMore_15 ?_
  refine gfX_Q_58_2 l E T hG dX4_bestCardMore_18 ?_
  refine rx_icmp_ge hG 108 dX4_bestCardMore_21 rfl (fun c1 => ?_) (fun c1 => ?_)
  · have hf := ifT hf c1
    refine rx_iload_n hG dX4_bestCardMore_108 3 rfl ?_
    cases hf
    exact rx_iret hG dX4_bestCardMore_109
  · have hf := ifF hf c1
    refine rx_iconst hG 0 dX4_bestCardMore_24 ic_0 ?_
    refine rx_istore (lv2 := [(5, .int 0), (0, .ref (adr E 48)), (1, .int x1), (2, .int x2), (3, .int x3), (4, .int x4)]) hG dX4_bestCardMore_25 (Nat.le_of_ble_eq_true rfl) rfl ?_
    refine rx_sub hG [1, 2, 3, 4, 5, 0] (lv' := [(0, .ref (adr E 48)), (1, .int x1), (2, .int x2), (3, .int x3), (4, .int x4), (5, .int 0)]) rfl ?_
    exact Llp_Q_bestCardMore_48_27 l E T hG rc12 hrc12 FW x1 x2 x3 x4 0 M hf
theorem Llp_Q_bestCardMore_48_12 (l : Launch) (E : En) (T : List Sk) {a0 b0 kc ks : Nat} {r : Int32} {M' : Mm} {G : Nat → List (Nat × Value) → List Value → Mm → Prop} (hG : RX l (SKX ++ T) E RX4 cX4_bestCardMore 9 (some .int) { frames := 6, cells := a0, slots := b0, locals := 139 } kc ks (some (.int r)) M' G)  : ∀ (n : Nat) (x1 : Int32) (x2 : Int32) (x3 : Int32) (x4 : Int32) (M : Mm), lp_Q_bestCardMore_48_12  n x1 x2 x3 x4 M = some (r, M') → G 12 [(0, .ref (adr E 48)), (1, .int x1), (2, .int x2), (3, .int x3), (4, .int x4)] [] M := by
  intro n
  induction n with
  | zero => intro x1 x2 x3 x4 M hf; cases hf
  | succ n ih => intro x1 x2 x3 x4 M hf; exact Lblp_Q_bestCardMore_48_12 l E T hG  (lp_Q_bestCardMore_48_12  n) ih x1 x2 x3 x4 M hf
set_option maxHeartbeats 4000000 in
set_option maxRecDepth 100000 in
theorem c_Q_bestCardMore_48 (l : Launch) (E : En) (T : List Sk) (p0 : Int32) {M M' : Mm} {r : Int32} (h : f_Q_bestCardMore_48 p0 M = some (r, M')) : Ct l (SKX ++ T) E yX4_bestCardMore cX4_bestCardMore 9 (some .int) 6 139 [.ref (adr E 48), .int p0] M (some (.int r)) M' := by
  refine ct_of (by decide) (Nat.le_of_ble_eq_true rfl) ?_
  intro G hG
  show G 0 [(0, .ref (adr E 48)), (1, .int p0)] [] M
  have hf := h
  unfold f_Q_bestCardMore_48 at hf
  refine rx_aload_n hG dX4_bestCardMore_0 0 rfl ?_
  refine rx_iload_n hG dX4_bestCardMore_1 1 rfl ?_
  obtain ⟨q1, hq1, hf⟩ := bindE hf
  refine rx_cVi hG (c_Q_asNow_48 l E T p0 hq1) (skX48 T) rfl rfl kw_Q_70 ⟨Nat.le_of_ble_eq_true rfl, Nat.le_of_ble_eq_true rfl⟩ rfl (Nat.le_of_ble_eq_true rfl) dX4_bestCardMore_2 ?_
  refine rx_istore_n (lv2 := [(2, .int q1.1), (0, .ref (adr E 48)), (1, .int p0)]) hG dX4_bestCardMore_5 (Nat.le_of_ble_eq_true rfl) rfl ?_
  refine rx_bipush hG (-2) dX4_bestCardMore_6 bp_m2 ?_
  refine rx_istore_n (lv2 := [(3, .int (-2)), (2, .int q1.1), (0, .ref (adr E 48)), (1, .int p0)]) hG dX4_bestCardMore_8 (Nat.le_of_ble_eq_true rfl) rfl ?_
  refine rx_iconst hG 0 dX4_bestCardMore_9 ic_0 ?_
  refine rx_istore (lv2 := [(4, .int 0), (3, .int (-2)), (2, .int q1.1), (0, .ref (adr E 48)), (1, .int p0)]) hG dX4_bestCardMore_10 (Nat.le_of_ble_eq_true rfl) rfl ?_
  refine rx_sub hG [3, 4, 2, 1, 0] (lv' := [(0, .ref (adr E 48)), (1, .int p0), (2, .int q1.1), (3, .int (-2)), (4, .int 0)]) rfl ?_
  exact Llp_Q_bestCardMore_48_12 l E T hG  FW p0 q1.1 (-2) 0 q1.2 hf
set_option maxHeartbeats 4000000 in
set_option maxRecDepth 100000 in
theorem c_P_helps_0 (l : Launch) (E : En) (T : List Sk) (p0 : Int32) {M M' : Mm} {r : Int32} (h : f_P_helps_0 p0 M = some (r, M')) : Ct l (SKX ++ T) E yX9_helps cX9_helps 2 (some .int) 7 167 [.ref (adr E 0), .int p0] M (some (.int r)) M' := by
  refine ct_of (by decide) (Nat.le_of_ble_eq_true rfl) ?_
  intro G hG
  show G 0 [(0, .ref (adr E 0)), (1, .int p0)] [] M
  have hf := h
  unfold f_P_helps_0 at hf
  refine rx_aload_n hG dX9_helps_0 0 rfl ?_
  refine rx_iload_n hG dX9_helps_1 1 rfl ?_
  obtain ⟨q1, hq1, hf⟩ := bindE hf
  refine rx_cVi hG (c_P_refusesPaper_0 l E T p0 hq1) (skX0 T) rfl rfl kw_P_249 ⟨Nat.le_of_ble_eq_true rfl, Nat.le_of_ble_eq_true rfl⟩ rfl (Nat.le_of_ble_eq_true rfl) dX9_helps_2 ?_
  refine rx_if_eq hG 12 dX9_helps_5 rfl (fun c2 => ?_) (fun c2 => ?_)
  · have hf := ifT hf c2
    refine rx_aload_n hG dX9_helps_12 0 rfl ?_
    refine rx_aload_n hG dX9_helps_13 0 rfl ?_
    refine gfX_P_48_0 l E T hG dX9_helps_14 ?_
    refine rx_iload_n hG dX9_helps_17 1 rfl ?_
    obtain ⟨q3, hq3, hf⟩ := bindE hf
    refine rx_cVi hG (c_Q_bestCardMore_48 l E T p0 hq3) (skX48 T) rfl rfl kw_P_268 ⟨Nat.le_of_ble_eq_true rfl, Nat.le_of_ble_eq_true rfl⟩ rfl (Nat.le_of_ble_eq_true rfl) dX9_helps_18 ?_
    obtain ⟨q4, hq4, hf⟩ := bindE hf
    refine rx_cVi hG (c_P_granted_0 l E T q3.1 hq4) (skX0 T) rfl rfl kw_P_116 ⟨Nat.le_of_ble_eq_true rfl, Nat.le_of_ble_eq_true rfl⟩ rfl (Nat.le_of_ble_eq_true rfl) dX9_helps_21 ?_
    cases hf
    exact rx_iret hG dX9_helps_24
  · have hf := ifF hf c2
    refine rx_iconst hG (-1) dX9_helps_8 ic_m1 ?_
    refine rx_goto hG 24 dX9_helps_9 rfl ?_
    cases hf
    exact rx_iret hG dX9_helps_24
set_option maxHeartbeats 4000000 in
set_option maxRecDepth 100000 in
theorem Lj_Q_bestSwiftBench_48_86 (l : Launch) (E : En) (T : List Sk) {a0 b0 kc ks : Nat} {r : Int32} {M' : Mm} {G : Nat → List (Nat × Value) → List Value → Mm → Prop} (hG : RX l (SKX ++ T) E RX4 cX4_bestSwiftBench 6 (some .int) { frames := 5, cells := a0, slots := b0, locals := 116 } kc ks (some (.int r)) M' G) (rc7 : Int32 → Int32 → Int32 → Int32 → Mm → Option (Int32 × Mm)) (hrc7 : ∀ (x1 : Int32) (x2 : Int32) (x3 : Int32) (x4 : Int32) (M : Mm), rc7 x1 x2 x3 x4 M = some (r, M') → G 7 [(0, .ref (adr E 48)), (1, .int x1), (2, .int x2), (3, .int x3), (4, .int x4)] [] M) : ∀ (x1 : Int32) (x2 : Int32) (x3 : Int32) (x4 : Int32) (M : Mm), j_Q_bestSwiftBench_48_86 rc7 x1 x2 x3 x4 M = some (r, M') → G 86 [(0, .ref (adr E 48)), (1, .int x1), (2, .int x2), (3, .int x3), (4, .int x4)] [] M := by
  intro x1 x2 x3 x4 M hf
  unfold j_Q_bestSwiftBench_48_86 at hf
  refine rx_iinc (lv2 := [(4, .int (x4 + 1)), (0, .ref (adr E 48)), (1, .int x1), (2, .int x2), (3, .int x3)]) hG 1 dX4_bestSwiftBench_86 ic_1 4 rfl (Nat.le_of_ble_eq_true rfl) rfl ?_
  refine rx_goto hG 7 dX4_bestSwiftBench_89 rfl ?_
  refine rx_sub hG [1, 2, 3, 4, 0] (lv' := [(0, .ref (adr E 48)), (1, .int x1), (2, .int x2), (3, .int x3), (4, .int (x4 + 1))]) rfl ?_
  exact hrc7 x1 x2 x3 (x4 + 1) M hf
set_option maxHeartbeats 4000000 in
set_option maxRecDepth 100000 in
theorem Lj_Q_bestSwiftBench_48_67 (l : Launch) (E : En) (T : List Sk) {a0 b0 kc ks : Nat} {r : Int32} {M' : Mm} {G : Nat → List (Nat × Value) → List Value → Mm → Prop} (hG : RX l (SKX ++ T) E RX4 cX4_bestSwiftBench 6 (some .int) { frames := 5, cells := a0, slots := b0, locals := 116 } kc ks (some (.int r)) M' G) (rc7 : Int32 → Int32 → Int32 → Int32 → Mm → Option (Int32 × Mm)) (hrc7 : ∀ (x1 : Int32) (x2 : Int32) (x3 : Int32) (x4 : Int32) (M : Mm), rc7 x1 x2 x3 x4 M = some (r, M') → G 7 [(0, .ref (adr E 48)), (1, .int x1), (2, .int x2), (3, .int x3), (4, .int x4)] [] M) : ∀ (x1 : Int32) (x2 : Int32) (x3 : Int32) (x4 : Int32) (M : Mm), j_Q_bestSwiftBench_48_67 rc7 x1 x2 x3 x4 M = some (r, M') → G 67 [(0, .ref (adr E 48)), (1, .int x1), (2, .int x2), (3, .int x3), (4, .int x4)] [] M := by
  intro x1 x2 x3 x4 M hf
  unfold j_Q_bestSwiftBench_48_67 at hf
  refine rx_aload_n hG dX4_bestSwiftBench_67 0 rfl ?_
  refine rx_iload_n hG dX4_bestSwiftBench_68 1 rfl ?_
  obtain ⟨q1, hq1, hf⟩ := bindE hf
  refine rx_cVi hG (c_Q_tried_48 l E T x1 hq1) (skX48 T) rfl rfl kw_Q_50 ⟨Nat.le_of_ble_eq_true rfl, Nat.le_of_ble_eq_true rfl⟩ rfl (Nat.le_of_ble_eq_true rfl) dX4_bestSwiftBench_69 ?_
  refine rx_istore (lv2 := [(5, .int q1.1), (0, .ref (adr E 48)), (1, .int x1), (2, .int x2), (3, .int x3), (4, .int x4)]) hG dX4_bestSwiftBench_72 (Nat.le_of_ble_eq_true rfl) rfl ?_
  refine rx_iload hG dX4_bestSwiftBench_74 0 rfl ?_
  refine rx_iload_n hG dX4_bestSwiftBench_76 3 rfl ?_
  refine rx_icmp_le hG 86 dX4_bestSwiftBench_77 rfl (fun c2 => ?_) (fun c2 => ?_)
  · have hf := ifT hf c2
    refine rx_sub hG [1, 2, 3, 4, 5] (lv' := [(0, .ref (adr E 48)), (1, .int x1), (2, .int x2), (3, .int x3), (4, .int x4)]) rfl ?_
    exact Lj_Q_bestSwiftBench_48_86 l E T hG rc7 hrc7 x1 x2 x3 x4 q1.2 hf
  · have hf := ifF hf c2
    refine rx_iload hG dX4_bestSwiftBench_80 0 rfl ?_
    refine rx_istore_n (lv2 := [(2, .int q1.1), (5, .int q1.1), (0, .ref (adr E 48)), (1, .int x1), (3, .int x3), (4, .int x4)]) hG dX4_bestSwiftBench_82 (Nat.le_of_ble_eq_true rfl) rfl ?_
    refine rx_iload hG dX4_bestSwiftBench_83 5 rfl ?_
    refine rx_istore_n (lv2 := [(3, .int x4), (2, .int q1.1), (5, .int q1.1), (0, .ref (adr E 48)), (1, .int x1), (4, .int x4)]) hG dX4_bestSwiftBench_85 (Nat.le_of_ble_eq_true rfl) rfl ?_
    refine rx_sub hG [3, 4, 1, 0, 5] (lv' := [(0, .ref (adr E 48)), (1, .int x1), (2, .int q1.1), (3, .int x4), (4, .int x4)]) rfl ?_
    exact Lj_Q_bestSwiftBench_48_86 l E T hG rc7 hrc7 x1 q1.1 x4 x4 q1.2 hf
set_option maxHeartbeats 4000000 in
set_option maxRecDepth 100000 in
theorem Lblp_Q_bestSwiftBench_48_33 (l : Launch) (E : En) (T : List Sk) {a0 b0 kc ks : Nat} {r : Int32} {M' : Mm} {G : Nat → List (Nat × Value) → List Value → Mm → Prop} (hG : RX l (SKX ++ T) E RX4 cX4_bestSwiftBench 6 (some .int) { frames := 5, cells := a0, slots := b0, locals := 116 } kc ks (some (.int r)) M' G) (rc7 : Int32 → Int32 → Int32 → Int32 → Mm → Option (Int32 × Mm)) (hrc7 : ∀ (x1 : Int32) (x2 : Int32) (x3 : Int32) (x4 : Int32) (M : Mm), rc7 x1 x2 x3 x4 M = some (r, M') → G 7 [(0, .ref (adr E 48)), (1, .int x1), (2, .int x2), (3, .int x3), (4, .int x4)] [] M) (rc33 : Int32 → Int32 → Int32 → Int32 → Int32 → Mm → Option (Int32 × Mm)) (hrc33 : ∀ (x1 : Int32) (x2 : Int32) (x3 : Int32) (x4 : Int32) (x5 : Int32) (M : Mm), rc33 x1 x2 x3 x4 x5 M = some (r, M') → G 33 [(0, .ref (adr E 48)), (1, .int x1), (2, .int x2), (3, .int x3), (4, .int x4), (5, .int x5)] [] M) : ∀ (x1 : Int32) (x2 : Int32) (x3 : Int32) (x4 : Int32) (x5 : Int32) (M : Mm), blp_Q_bestSwiftBench_48_33 rc7 rc33 x1 x2 x3 x4 x5 M = some (r, M') → G 33 [(0, .ref (adr E 48)), (1, .int x1), (2, .int x2), (3, .int x3), (4, .int x4), (5, .int x5)] [] M := by
  intro x1 x2 x3 x4 x5 M hf
  unfold blp_Q_bestSwiftBench_48_33 at hf
  refine rx_iload hG dX4_bestSwiftBench_33 5 rfl ?_
  refine rx_aload_n hG dX4_bestSwiftBench_35 0 rfl ?_
  refine gfX_Q_18_48 l E T hG dX4_bestSwiftBench_36 ?_
  refine gfX_Q_63_2 l E T hG dX4_bestSwiftBench_39 ?_
  refine rx_icmp_ge hG 67 dX4_bestSwiftBench_42 rfl (fun c1 => ?_) (fun c1 => ?_)
  · have hf := ifT hf c1
    refine rx_sub hG [0, 1, 2, 3, 4] (lv' := [(0, .ref (adr E 48)), (1, .int x1), (2, .int x2), (3, .int x3), (4, .int x4)]) rfl ?_
    exact Lj_Q_bestSwiftBench_48_67 l E T hG rc7 hrc7 x1 x2 x3 x4 M hf
  · have hf := ifF hf c1
    refine rx_aload_n hG dX4_bestSwiftBench_45 0 rfl ?_
    refine gfX_Q_12_48 l E T hG dX4_bestSwiftBench_46 ?_
    refine gfX_Q_77_49 l E T hG dX4_bestSwiftBench_49 ?_
    refine rx_iload hG dX4_bestSwiftBench_52 4 rfl ?_
    refine rx_iload hG dX4_bestSwiftBench_54 5 rfl ?_
    obtain ⟨v2, hv2, hf⟩ := bindE hf
    refine rx_cNi hG (c_P_cell l E (SKX ++ T) x4 x5 hv2) kw_Q_66 ⟨Nat.le_of_ble_eq_true rfl, Nat.le_of_ble_eq_true rfl⟩ rfl (Nat.le_of_ble_eq_true rfl) dX4_bestSwiftBench_56 ?_
    refine rx_iconst hG 1 dX4_bestSwiftBench_59 ic_1 ?_
    obtain ⟨M3, hM3, hf⟩ := bindE hf
    refine rx_iast hG (skX51 T) hM3 dX4_bestSwiftBench_60 ?_
    refine rx_iinc (lv2 := [(5, .int (x5 + 1)), (0, .ref (adr E 48)), (1, .int x1), (2, .int x2), (3, .int x3), (4, .int x4)]) hG 1 dX4_bestSwiftBench_61 ic_1 5 rfl (Nat.le_of_ble_eq_true rfl) rfl ?_
    refine rx_goto hG 33 dX4_bestSwiftBench_64 rfl ?_
    refine rx_sub hG [1, 2, 3, 4, 5, 0] (lv' := [(0, .ref (adr E 48)), (1, .int x1), (2, .int x2), (3, .int x3), (4, .int x4), (5, .int (x5 + 1))]) rfl ?_
    exact hrc33 x1 x2 x3 x4 (x5 + 1) M3 hf
theorem Llp_Q_bestSwiftBench_48_33 (l : Launch) (E : En) (T : List Sk) {a0 b0 kc ks : Nat} {r : Int32} {M' : Mm} {G : Nat → List (Nat × Value) → List Value → Mm → Prop} (hG : RX l (SKX ++ T) E RX4 cX4_bestSwiftBench 6 (some .int) { frames := 5, cells := a0, slots := b0, locals := 116 } kc ks (some (.int r)) M' G) (rc7 : Int32 → Int32 → Int32 → Int32 → Mm → Option (Int32 × Mm)) (hrc7 : ∀ (x1 : Int32) (x2 : Int32) (x3 : Int32) (x4 : Int32) (M : Mm), rc7 x1 x2 x3 x4 M = some (r, M') → G 7 [(0, .ref (adr E 48)), (1, .int x1), (2, .int x2), (3, .int x3), (4, .int x4)] [] M) : ∀ (n : Nat) (x1 : Int32) (x2 : Int32) (x3 : Int32) (x4 : Int32) (x5 : Int32) (M : Mm), lp_Q_bestSwiftBench_48_33 rc7 n x1 x2 x3 x4 x5 M = some (r, M') → G 33 [(0, .ref (adr E 48)), (1, .int x1), (2, .int x2), (3, .int x3), (4, .int x4), (5, .int x5)] [] M := by
  intro n
  induction n with
  | zero => intro x1 x2 x3 x4 x5 M hf; cases hf
  | succ n ih => intro x1 x2 x3 x4 x5 M hf; exact Lblp_Q_bestSwiftBench_48_33 l E T hG rc7 hrc7 (lp_Q_bestSwiftBench_48_33 rc7 n) ih x1 x2 x3 x4 x5 M hf
set_option maxHeartbeats 4000000 in
set_option maxRecDepth 100000 in
theorem Lblp_Q_bestSwiftBench_48_7 (l : Launch) (E : En) (T : List Sk) {a0 b0 kc ks : Nat} {r : Int32} {M' : Mm} {G : Nat → List (Nat × Value) → List Value → Mm → Prop} (hG : RX l (SKX ++ T) E RX4 cX4_bestSwiftBench 6 (some .int) { frames := 5, cells := a0, slots := b0, locals := 116 } kc ks (some (.int r)) M' G) (rc7 : Int32 → Int32 → Int32 → Int32 → Mm → Option (Int32 × Mm)) (hrc7 : ∀ (x1 : Int32) (x2 : Int32) (x3 : Int32) (x4 : Int32) (M : Mm), rc7 x1 x2 x3 x4 M = some (r, M') → G 7 [(0, .ref (adr E 48)), (1, .int x1), (2, .int x2), (3, .int x3), (4, .int x4)] [] M) : ∀ (x1 : Int32) (x2 : Int32) (x3 : Int32) (x4 : Int32) (M : Mm), blp_Q_bestSwiftBench_48_7 rc7 x1 x2 x3 x4 M = some (r, M') → G 7 [(0, .ref (adr E 48)), (1, .int x1), (2, .int x2), (3, .int x3), (4, .int x4)] [] M := by
  intro x1 x2 x3 x4 M hf
  unfold blp_Q_bestSwiftBench_48_7 at hf
  refine rx_iload hG dX4_bestSwiftBench_7 4 rfl ?_
  refine rx_aload_n hG dX4_bestSwiftBench_9 0 rfl ?_
  refine gfX_Q_18_48 l E T hG dX4_bestSwiftBench_10 ?_
  refine gfX_Q_58_2 l E T hG dX4_bestSwiftBench_13 ?_
  refine rx_icmp_ge hG 92 dX4_bestSwiftBench_16 rfl (fun c1 => ?_) (fun c1 => ?_)
  · have hf := ifT hf c1
    refine rx_iload_n hG dX4_bestSwiftBench_92 3 rfl ?_
    cases hf
    exact rx_iret hG dX4_bestSwiftBench_93
  · have hf := ifF hf c1
    refine rx_aload_n hG dX4_bestSwiftBench_19 0 rfl ?_
    refine gfX_Q_12_48 l E T hG dX4_bestSwiftBench_20 ?_
    refine rx_aload_n hG dX4_bestSwiftBench_23 0 rfl ?_
    refine gfX_Q_22_48 l E T hG dX4_bestSwiftBench_24 ?_
    obtain ⟨M2, hM2, hf⟩ := bindE hf
    refine rx_cVv hG (c_V_copy_49_32 l E T  hM2) (skX49 T) rfl rfl kw_Q_46 ⟨Nat.le_of_ble_eq_true rfl, Nat.le_of_ble_eq_true rfl⟩ rfl (Nat.le_of_ble_eq_true rfl) dX4_bestSwiftBench_27 ?_
    refine rx_iconst hG 0 dX4_bestSwiftBench_30 ic_0 ?_
    refine rx_istore (lv2 := [(5, .int 0), (0, .ref (adr E 48)), (1, .int x1), (2, .int x2), (3, .int x3), (4, .int x4)]) hG dX4_bestSwiftBench_31 (Nat.le_of_ble_eq_true rfl) rfl ?_
    refine rx_sub hG [1, 2, 3, 4, 5, 0] (lv' := [(0, .ref (adr E 48)), (1, .int x1), (2, .int x2), (3, .int x3), (4, .int x4), (5, .int 0)]) rfl ?_
    exact Llp_Q_bestSwiftBench_48_33 l E T hG rc7 hrc7 FW x1 x2 x3 x4 0 M2 hf
theorem Llp_Q_bestSwiftBench_48_7 (l : Launch) (E : En) (T : List Sk) {a0 b0 kc ks : Nat} {r : Int32} {M' : Mm} {G : Nat → List (Nat × Value) → List Value → Mm → Prop} (hG : RX l (SKX ++ T) E RX4 cX4_bestSwiftBench 6 (some .int) { frames := 5, cells := a0, slots := b0, locals := 116 } kc ks (some (.int r)) M' G)  : ∀ (n : Nat) (x1 : Int32) (x2 : Int32) (x3 : Int32) (x4 : Int32) (M : Mm), lp_Q_bestSwiftBench_48_7  n x1 x2 x3 x4 M = some (r, M') → G 7 [(0, .ref (adr E 48)), (1, .int x1), (2, .int x2), (3, .int x3), (4, .int x4)] [] M := by
  intro n
  induction n with
  | zero => intro x1 x2 x3 x4 M hf; cases hf
  | succ n ih => intro x1 x2 x3 x4 M hf; exact Lblp_Q_bestSwiftBench_48_7 l E T hG  (lp_Q_bestSwiftBench_48_7  n) ih x1 x2 x3 x4 M hf
set_option maxHeartbeats 4000000 in
set_option maxRecDepth 100000 in
theorem c_Q_bestSwiftBench_48 (l : Launch) (E : En) (T : List Sk) (p0 : Int32) {M M' : Mm} {r : Int32} (h : f_Q_bestSwiftBench_48 p0 M = some (r, M')) : Ct l (SKX ++ T) E yX4_bestSwiftBench cX4_bestSwiftBench 6 (some .int) 5 116 [.ref (adr E 48), .int p0] M (some (.int r)) M' := by
  refine ct_of (by decide) (Nat.le_of_ble_eq_true rfl) ?_
  intro G hG
  show G 0 [(0, .ref (adr E 48)), (1, .int p0)] [] M
  have hf := h
  unfold f_Q_bestSwiftBench_48 at hf
  refine rx_iconst hG (-1) dX4_bestSwiftBench_0 ic_m1 ?_
  refine rx_istore_n (lv2 := [(2, .int (-1)), (0, .ref (adr E 48)), (1, .int p0)]) hG dX4_bestSwiftBench_1 (Nat.le_of_ble_eq_true rfl) rfl ?_
  refine rx_iconst hG 0 dX4_bestSwiftBench_2 ic_0 ?_
  refine rx_istore_n (lv2 := [(3, .int 0), (2, .int (-1)), (0, .ref (adr E 48)), (1, .int p0)]) hG dX4_bestSwiftBench_3 (Nat.le_of_ble_eq_true rfl) rfl ?_
  refine rx_iconst hG 0 dX4_bestSwiftBench_4 ic_0 ?_
  refine rx_istore (lv2 := [(4, .int 0), (3, .int 0), (2, .int (-1)), (0, .ref (adr E 48)), (1, .int p0)]) hG dX4_bestSwiftBench_5 (Nat.le_of_ble_eq_true rfl) rfl ?_
  refine rx_sub hG [3, 4, 2, 1, 0] (lv' := [(0, .ref (adr E 48)), (1, .int p0), (2, .int (-1)), (3, .int 0), (4, .int 0)]) rfl ?_
  exact Llp_Q_bestSwiftBench_48_7 l E T hG  FW p0 (-1) 0 0 M hf
set_option maxHeartbeats 4000000 in
set_option maxRecDepth 100000 in
theorem c_P_holds_0 (l : Launch) (E : En) (T : List Sk) (p0 : Int32) {M M' : Mm} {r : Int32} (h : f_P_holds_0 p0 M = some (r, M')) : Ct l (SKX ++ T) E yX9_holds cX9_holds 2 (some .int) 6 141 [.ref (adr E 0), .int p0] M (some (.int r)) M' := by
  refine ct_of (by decide) (Nat.le_of_ble_eq_true rfl) ?_
  intro G hG
  show G 0 [(0, .ref (adr E 0)), (1, .int p0)] [] M
  have hf := h
  unfold f_P_holds_0 at hf
  refine rx_aload_n hG dX9_holds_0 0 rfl ?_
  refine rx_iload_n hG dX9_holds_1 1 rfl ?_
  obtain ⟨q1, hq1, hf⟩ := bindE hf
  refine rx_cVi hG (c_P_refusesPaper_0 l E T p0 hq1) (skX0 T) rfl rfl kw_P_249 ⟨Nat.le_of_ble_eq_true rfl, Nat.le_of_ble_eq_true rfl⟩ rfl (Nat.le_of_ble_eq_true rfl) dX9_holds_2 ?_
  refine rx_if_eq hG 12 dX9_holds_5 rfl (fun c2 => ?_) (fun c2 => ?_)
  · have hf := ifT hf c2
    refine rx_aload_n hG dX9_holds_12 0 rfl ?_
    refine rx_aload_n hG dX9_holds_13 0 rfl ?_
    refine gfX_P_48_0 l E T hG dX9_holds_14 ?_
    refine rx_iload_n hG dX9_holds_17 1 rfl ?_
    obtain ⟨q3, hq3, hf⟩ := bindE hf
    refine rx_cVi hG (c_Q_bestSwiftBench_48 l E T p0 hq3) (skX48 T) rfl rfl kw_P_271 ⟨Nat.le_of_ble_eq_true rfl, Nat.le_of_ble_eq_true rfl⟩ rfl (Nat.le_of_ble_eq_true rfl) dX9_holds_18 ?_
    obtain ⟨q4, hq4, hf⟩ := bindE hf
    refine rx_cVi hG (c_P_granted_0 l E T q3.1 hq4) (skX0 T) rfl rfl kw_P_116 ⟨Nat.le_of_ble_eq_true rfl, Nat.le_of_ble_eq_true rfl⟩ rfl (Nat.le_of_ble_eq_true rfl) dX9_holds_21 ?_
    cases hf
    exact rx_iret hG dX9_holds_24
  · have hf := ifF hf c2
    refine rx_iconst hG (-1) dX9_holds_8 ic_m1 ?_
    refine rx_goto hG 24 dX9_holds_9 rfl ?_
    cases hf
    exact rx_iret hG dX9_holds_24
set_option maxHeartbeats 4000000 in
set_option maxRecDepth 100000 in
theorem c_T_clear_103 (l : Launch) (E : En) (T : List Sk) (htr : E.2.2.1 = .ref (adr E 103))  {M M' : Mm} (h : f_T_clear_103 M = some M') : Ct l (SKX ++ (SKT ++ T)) E yX8_clear cX8_clear 1 none 1 23 [.ref (adr E 103)] M none M' := by
  refine ct_of (by decide) (Nat.le_of_ble_eq_true rfl) ?_
  intro G hG
  show G 0 [(0, .ref (adr E 103))] [] M
  have hf := h
  unfold f_T_clear_103 at hf
  refine rx_aload_n hG dX8_clear_0 0 rfl ?_
  refine gfX_T_17_103 l E T hG dX8_clear_1 ?_
  refine rx_iconst hG (-1) dX8_clear_4 ic_m1 ?_
  obtain ⟨M1, hM1, hf⟩ := bindE hf
  refine rx_cSv hG (c_fill l E _ (skX105 T) (Nat.le_of_ble_eq_true rfl) (-1) hM1) kw_T_24 ⟨Nat.le_of_ble_eq_true rfl, Nat.le_of_ble_eq_true rfl⟩ rfl (Nat.le_of_ble_eq_true rfl) dX8_clear_5 ?_
  cases hf
  exact rx_vret hG dX8_clear_8

set_option maxHeartbeats 4000000 in
set_option maxRecDepth 100000 in
theorem Lblp_L_allStreamsBegun_52_2 (l : Launch) (E : En) (T : List Sk) {a0 b0 kc ks : Nat} {r : Int32} {M : Mm} {G : Nat → List (Nat × Value) → List Value → Mm → Prop} (hG : RX l (SKX ++ T) E RX3 cX3_allStreamsBegun 2 (some .boolean) { frames := 0, cells := a0, slots := b0, locals := 0 } kc ks (some (.int r)) M G) (rc2 : Int32 → Mm → Option Int32) (hrc2 : ∀ (x1 : Int32), rc2 x1 M = some r → G 2 [(0, .ref (adr E 52)), (1, .int x1)] [] M) : ∀ (x1 : Int32), blp_L_allStreamsBegun_52_2 rc2 x1 M = some r → G 2 [(0, .ref (adr E 52)), (1, .int x1)] [] M := by
  intro x1 hf
  unfold blp_L_allStreamsBegun_52_2 at hf
  refine rx_iload_n hG dX3_allStreamsBegun_2 1 rfl ?_
  refine rx_aload_n hG dX3_allStreamsBegun_3 0 rfl ?_
  refine gfX_L_48_52 l E T hG dX3_allStreamsBegun_4 ?_
  refine gfX_L_107_2 l E T hG dX3_allStreamsBegun_7 ?_
  refine rx_icmp_ge hG 37 dX3_allStreamsBegun_10 rfl (fun c1 => ?_) (fun c1 => ?_)
  · have hf := ifT hf c1
    refine rx_iconst hG 1 dX3_allStreamsBegun_37 ic_1 ?_
    cases hf
    exact rx_zret hG zr1 dX3_allStreamsBegun_38
  · have hf := ifF hf c1
    refine rx_aload_n hG dX3_allStreamsBegun_13 0 rfl ?_
    refine gfX_L_73_52 l E T hG dX3_allStreamsBegun_14 ?_
    refine rx_aload_n hG dX3_allStreamsBegun_17 0 rfl ?_
    refine gfX_L_48_52 l E T hG dX3_allStreamsBegun_18 ?_
    refine gfX_L_122_2 l E T hG dX3_allStreamsBegun_21 ?_
    refine rx_iload_n hG dX3_allStreamsBegun_24 1 rfl ?_
    obtain ⟨v2, hv2, hf⟩ := bindE hf
    refine rx_iald hG (skX8 T) hv2 dX3_allStreamsBegun_25 ?_
    refine rx_icmp_gt hG 31 dX3_allStreamsBegun_26 rfl (fun c3 => ?_) (fun c3 => ?_)
    · have hf := ifT hf c3
      refine rx_iinc (lv2 := [(1, .int (x1 + 1)), (0, .ref (adr E 52))]) hG 1 dX3_allStreamsBegun_31 ic_1 1 rfl (Nat.le_of_ble_eq_true rfl) rfl ?_
      refine rx_goto hG 2 dX3_allStreamsBegun_34 rfl ?_
      refine rx_sub hG [1, 0] (lv' := [(0, .ref (adr E 52)), (1, .int (x1 + 1))]) rfl ?_
      exact hrc2 (x1 + 1) hf
    · have hf := ifF hf c3
      refine rx_iconst hG 0 dX3_allStreamsBegun_29 ic_0 ?_
      cases hf
      exact rx_zret hG zr0 dX3_allStreamsBegun_30
theorem Llp_L_allStreamsBegun_52_2 (l : Launch) (E : En) (T : List Sk) {a0 b0 kc ks : Nat} {r : Int32} {M : Mm} {G : Nat → List (Nat × Value) → List Value → Mm → Prop} (hG : RX l (SKX ++ T) E RX3 cX3_allStreamsBegun 2 (some .boolean) { frames := 0, cells := a0, slots := b0, locals := 0 } kc ks (some (.int r)) M G)  : ∀ (n : Nat) (x1 : Int32), lp_L_allStreamsBegun_52_2  n x1 M = some r → G 2 [(0, .ref (adr E 52)), (1, .int x1)] [] M := by
  intro n
  induction n with
  | zero => intro x1 hf; cases hf
  | succ n ih => intro x1 hf; exact Lblp_L_allStreamsBegun_52_2 l E T hG  (lp_L_allStreamsBegun_52_2  n) ih x1 hf
set_option maxHeartbeats 4000000 in
set_option maxRecDepth 100000 in
theorem c_L_allStreamsBegun_52 (l : Launch) (E : En) (T : List Sk)  {M : Mm} {r : Int32} (h : f_L_allStreamsBegun_52 M = some r) : Ct l (SKX ++ T) E yX3_allStreamsBegun cX3_allStreamsBegun 2 (some .boolean) 0 0 [.ref (adr E 52)] M (some (.int r)) M := by
  refine ct_of (by decide) (Nat.le_of_ble_eq_true rfl) ?_
  intro G hG
  show G 0 [(0, .ref (adr E 52))] [] M
  have hf := h
  unfold f_L_allStreamsBegun_52 at hf
  refine rx_iconst hG 0 dX3_allStreamsBegun_0 ic_0 ?_
  refine rx_istore_n (lv2 := [(1, .int 0), (0, .ref (adr E 52))]) hG dX3_allStreamsBegun_1 (Nat.le_of_ble_eq_true rfl) rfl ?_
  refine rx_sub hG [1, 0] (lv' := [(0, .ref (adr E 52)), (1, .int 0)]) rfl ?_
  exact Llp_L_allStreamsBegun_52_2 l E T hG  FW 0 hf
set_option maxHeartbeats 4000000 in
set_option maxRecDepth 100000 in
theorem c_L_minutesLeft_52 (l : Launch) (E : En) (T : List Sk) (p0 : Int32) {M : Mm} {r : Int32} (h : f_L_minutesLeft_52 p0 M = some r) : Ct l (SKX ++ T) E yX3_minutesLeft cX3_minutesLeft 2 (some .int) 0 0 [.ref (adr E 52), .int p0] M (some (.int r)) M := by
  refine ct_of (by decide) (Nat.le_of_ble_eq_true rfl) ?_
  intro G hG
  show G 0 [(0, .ref (adr E 52)), (1, .int p0)] [] M
  have hf := h
  unfold f_L_minutesLeft_52 at hf
  refine rx_aload_n hG dX3_minutesLeft_0 0 rfl ?_
  refine gfX_L_18_52 l E T hG dX3_minutesLeft_1 ?_
  refine rx_iload_n hG dX3_minutesLeft_4 1 rfl ?_
  obtain ⟨v1, hv1, hf⟩ := bindE hf
  refine rx_iald hG (skX55 T) hv1 dX3_minutesLeft_5 ?_
  refine rx_if_ne hG 13 dX3_minutesLeft_6 rfl (fun c2 => ?_) (fun c2 => ?_)
  · have hf := ifF hf c2
    refine rx_aload_n hG dX3_minutesLeft_13 0 rfl ?_
    refine gfX_L_24_52 l E T hG dX3_minutesLeft_14 ?_
    refine rx_iload_n hG dX3_minutesLeft_17 1 rfl ?_
    obtain ⟨v3, hv3, hf⟩ := bindE hf
    refine rx_iald hG (skX57 T) hv3 dX3_minutesLeft_18 ?_
    refine rx_aload_n hG dX3_minutesLeft_19 0 rfl ?_
    refine gfX_L_73_52 l E T hG dX3_minutesLeft_20 ?_
    refine rx_isub hG dX3_minutesLeft_23 ?_
    cases hf
    exact rx_iret hG dX3_minutesLeft_24
  · have hf := ifT hf c2
    refine rx_iconst hG 0 dX3_minutesLeft_9 ic_0 ?_
    refine rx_goto hG 24 dX3_minutesLeft_10 rfl ?_
    cases hf
    exact rx_iret hG dX3_minutesLeft_24
set_option maxHeartbeats 4000000 in
set_option maxRecDepth 100000 in
theorem Lblp_L_signOfBench_52_75 (l : Launch) (E : En) (T : List Sk) {a0 b0 kc ks : Nat} {r : Int64} {M : Mm} {G : Nat → List (Nat × Value) → List Value → Mm → Prop} (hG : RX l (SKX ++ T) E RX3 cX3_signOfBench 5 (some .long) { frames := 1, cells := a0, slots := b0, locals := 21 } kc ks (some (.long r)) M G) (rc75 : Int32 → Int64 → Int32 → Mm → Option Int64) (hrc75 : ∀ (x1 : Int32) (x2 : Int64) (x4 : Int32), rc75 x1 x2 x4 M = some r → G 75 [(0, .ref (adr E 52)), (1, .int x1), (2, .long x2), (4, .int x4)] [] M) : ∀ (x1 : Int32) (x2 : Int64) (x4 : Int32), blp_L_signOfBench_52_75 rc75 x1 x2 x4 M = some r → G 75 [(0, .ref (adr E 52)), (1, .int x1), (2, .long x2), (4, .int x4)] [] M := by
  intro x1 x2 x4 hf
  unfold blp_L_signOfBench_52_75 at hf
  refine rx_iload hG dX3_signOfBench_75 3 rfl ?_
  refine rx_iconst hG 3 dX3_signOfBench_77 ic_3 ?_
  refine rx_icmp_ge hG 104 dX3_signOfBench_78 rfl (fun c1 => ?_) (fun c1 => ?_)
  · have hf := ifT hf c1
    refine rx_lload_n hG dX3_signOfBench_104 2 rfl ?_
    cases hf
    exact rx_lret hG dX3_signOfBench_105
  · have hf := ifF hf c1
    refine rx_lload_n hG dX3_signOfBench_81 2 rfl ?_
    refine rx_iconst hG 4 dX3_signOfBench_82 ic_4 ?_
    refine rx_lshl hG dX3_signOfBench_83 ?_
    refine rx_aload_n hG dX3_signOfBench_84 0 rfl ?_
    refine gfX_L_9_52 l E T hG dX3_signOfBench_85 ?_
    refine rx_iload_n hG dX3_signOfBench_88 1 rfl ?_
    refine rx_iload hG dX3_signOfBench_89 3 rfl ?_
    obtain ⟨v2, hv2, hf⟩ := bindE hf
    refine rx_cNi hG (c_P_cell l E (SKX ++ T) x1 x4 hv2) kw_L_151 ⟨Nat.le_of_ble_eq_true rfl, Nat.le_of_ble_eq_true rfl⟩ rfl (Nat.le_of_ble_eq_true rfl) dX3_signOfBench_91 ?_
    obtain ⟨v3, hv3, hf⟩ := bindE hf
    refine rx_iald hG (skX53 T) hv3 dX3_signOfBench_94 ?_
    refine rx_i2l hG dX3_signOfBench_95 ?_
    refine rx_ladd hG dX3_signOfBench_96 ?_
    obtain ⟨w4, hw4, hf⟩ := bindE hf
    refine rx_nmL hG hw4 ?_
    refine rx_lstore_n (lv2 := [(2, .long w4), (0, .ref (adr E 52)), (1, .int x1), (4, .int x4)]) hG dX3_signOfBench_97 (Nat.le_of_ble_eq_true rfl) rfl ?_
    refine rx_iinc (lv2 := [(4, .int (x4 + 1)), (2, .long w4), (0, .ref (adr E 52)), (1, .int x1)]) hG 1 dX3_signOfBench_98 ic_1 3 rfl (Nat.le_of_ble_eq_true rfl) rfl ?_
    refine rx_goto hG 75 dX3_signOfBench_101 rfl ?_
    refine rx_sub hG [2, 3, 1, 0] (lv' := [(0, .ref (adr E 52)), (1, .int x1), (2, .long w4), (4, .int (x4 + 1))]) rfl ?_
    exact hrc75 x1 w4 (x4 + 1) hf
theorem Llp_L_signOfBench_52_75 (l : Launch) (E : En) (T : List Sk) {a0 b0 kc ks : Nat} {r : Int64} {M : Mm} {G : Nat → List (Nat × Value) → List Value → Mm → Prop} (hG : RX l (SKX ++ T) E RX3 cX3_signOfBench 5 (some .long) { frames := 1, cells := a0, slots := b0, locals := 21 } kc ks (some (.long r)) M G)  : ∀ (n : Nat) (x1 : Int32) (x2 : Int64) (x4 : Int32), lp_L_signOfBench_52_75  n x1 x2 x4 M = some r → G 75 [(0, .ref (adr E 52)), (1, .int x1), (2, .long x2), (4, .int x4)] [] M := by
  intro n
  induction n with
  | zero => intro x1 x2 x4 hf; cases hf
  | succ n ih => intro x1 x2 x4 hf; exact Lblp_L_signOfBench_52_75 l E T hG  (lp_L_signOfBench_52_75  n) ih x1 x2 x4 hf
set_option maxHeartbeats 4000000 in
set_option maxRecDepth 100000 in
theorem Lj_L_signOfBench_52_32 (l : Launch) (E : En) (T : List Sk) {a0 b0 kc ks : Nat} {r : Int64} {M : Mm} {G : Nat → List (Nat × Value) → List Value → Mm → Prop} (hG : RX l (SKX ++ T) E RX3 cX3_signOfBench 5 (some .long) { frames := 1, cells := a0, slots := b0, locals := 21 } kc ks (some (.long r)) M G)  : ∀ (x1 : Int32) (t0 : Int32) (t1 : Int64), j_L_signOfBench_52_32  x1 t0 t1 M = some r → G 32 [(0, .ref (adr E 52)), (1, .int x1)] [.int t0, .long t1] M := by
  intro x1 t0 t1 hf
  unfold j_L_signOfBench_52_32 at hf
  refine rx_i2l hG dX3_signOfBench_32 ?_
  refine rx_ladd hG dX3_signOfBench_33 ?_
  refine rx_lstore_n (lv2 := [(2, .long (t1 + (Int32.toInt64 t0))), (0, .ref (adr E 52)), (1, .int x1)]) hG dX3_signOfBench_34 (Nat.le_of_ble_eq_true rfl) rfl ?_
  refine rx_lload_n hG dX3_signOfBench_35 0 rfl ?_
  refine rx_bipush hG 7 dX3_signOfBench_36 bp_7 ?_
  refine rx_lshl hG dX3_signOfBench_38 ?_
  refine rx_aload_n hG dX3_signOfBench_39 1 rfl ?_
  refine rx_iload_n hG dX3_signOfBench_40 2 rfl ?_
  obtain ⟨v1, hv1, hf⟩ := bindE hf
  refine rx_cVi hG (c_L_minutesLeft_52 l E T x1 hv1) (skX52 T) rfl rfl kw_L_191 ⟨Nat.le_of_ble_eq_true rfl, Nat.le_of_ble_eq_true rfl⟩ rfl (Nat.le_of_ble_eq_true rfl) dX3_signOfBench_41 ?_
  refine rx_i2l hG dX3_signOfBench_44 ?_
  refine rx_ladd hG dX3_signOfBench_45 ?_
  obtain ⟨w2, hw2, hf⟩ := bindE hf
  refine rx_nmL hG hw2 ?_
  refine rx_lstore_n (lv2 := [(2, .long w2), (0, .ref (adr E 52)), (1, .int x1)]) hG dX3_signOfBench_46 (Nat.le_of_ble_eq_true rfl) rfl ?_
  refine rx_lload_n hG dX3_signOfBench_47 0 rfl ?_
  refine rx_bipush hG 7 dX3_signOfBench_48 bp_7 ?_
  refine rx_lshl hG dX3_signOfBench_50 ?_
  refine rx_aload_n hG dX3_signOfBench_51 1 rfl ?_
  refine gfX_L_27_52 l E T hG dX3_signOfBench_52 ?_
  refine rx_iload_n hG dX3_signOfBench_55 2 rfl ?_
  obtain ⟨v3, hv3, hf⟩ := bindE hf
  refine rx_iald hG (skX58 T) hv3 dX3_signOfBench_56 ?_
  refine rx_aload_n hG dX3_signOfBench_57 1 rfl ?_
  refine gfX_L_48_52 l E T hG dX3_signOfBench_58 ?_
  refine gfX_L_154_2 l E T hG dX3_signOfBench_61 ?_
  refine rx_iload_n hG dX3_signOfBench_64 2 rfl ?_
  obtain ⟨v4, hv4, hf⟩ := bindE hf
  refine rx_iald hG (skX5 T) hv4 dX3_signOfBench_65 ?_
  obtain ⟨v5, hv5, hf⟩ := bindE hf
  refine rx_cNi hG (c_P_remainder l E (SKX ++ T) v3 v4 hv5) kw_L_128 ⟨Nat.le_of_ble_eq_true rfl, Nat.le_of_ble_eq_true rfl⟩ rfl (Nat.le_of_ble_eq_true rfl) dX3_signOfBench_66 ?_
  refine rx_i2l hG dX3_signOfBench_69 ?_
  refine rx_ladd hG dX3_signOfBench_70 ?_
  obtain ⟨w6, hw6, hf⟩ := bindE hf
  refine rx_nmL hG hw6 ?_
  refine rx_lstore_n (lv2 := [(2, .long w6), (0, .ref (adr E 52)), (1, .int x1)]) hG dX3_signOfBench_71 (Nat.le_of_ble_eq_true rfl) rfl ?_
  refine rx_iconst hG 0 dX3_signOfBench_72 ic_0 ?_
  refine rx_istore (lv2 := [(4, .int 0), (2, .long w6), (0, .ref (adr E 52)), (1, .int x1)]) hG dX3_signOfBench_73 (Nat.le_of_ble_eq_true rfl) rfl ?_
  refine rx_sub hG [2, 3, 1, 0] (lv' := [(0, .ref (adr E 52)), (1, .int x1), (2, .long w6), (4, .int 0)]) rfl ?_
  exact Llp_L_signOfBench_52_75 l E T hG  FW x1 w6 0 hf
set_option maxHeartbeats 4000000 in
set_option maxRecDepth 100000 in
theorem c_L_signOfBench_52 (l : Launch) (E : En) (T : List Sk) (p0 : Int32) {M : Mm} {r : Int64} (h : f_L_signOfBench_52 p0 M = some r) : Ct l (SKX ++ T) E yX3_signOfBench cX3_signOfBench 5 (some .long) 1 21 [.ref (adr E 52), .int p0] M (some (.long r)) M := by
  refine ct_of (by decide) (Nat.le_of_ble_eq_true rfl) ?_
  intro G hG
  show G 0 [(0, .ref (adr E 52)), (1, .int p0)] [] M
  have hf := h
  unfold f_L_signOfBench_52 at hf
  refine rx_aload_n hG dX3_signOfBench_0 0 rfl ?_
  refine gfX_L_18_52 l E T hG dX3_signOfBench_1 ?_
  refine rx_iload_n hG dX3_signOfBench_4 1 rfl ?_
  obtain ⟨v1, hv1, hf⟩ := bindE hf
  refine rx_iald hG (skX55 T) hv1 dX3_signOfBench_5 ?_
  refine rx_i2l hG dX3_signOfBench_6 ?_
  refine rx_lstore_n (lv2 := [(2, .long (Int32.toInt64 v1)), (0, .ref (adr E 52)), (1, .int p0)]) hG dX3_signOfBench_7 (Nat.le_of_ble_eq_true rfl) rfl ?_
  refine rx_lload_n hG dX3_signOfBench_8 0 rfl ?_
  refine rx_iconst hG 2 dX3_signOfBench_9 ic_2 ?_
  refine rx_lshl hG dX3_signOfBench_10 ?_
  refine rx_aload_n hG dX3_signOfBench_11 1 rfl ?_
  refine gfX_L_21_52 l E T hG dX3_signOfBench_12 ?_
  refine rx_iload_n hG dX3_signOfBench_15 2 rfl ?_
  obtain ⟨v2, hv2, hf⟩ := bindE hf
  refine rx_iald hG (skX56 T) hv2 dX3_signOfBench_16 ?_
  refine rx_bipush hG (-2) dX3_signOfBench_17 bp_m2 ?_
  refine rx_icmp_ne hG 26 dX3_signOfBench_19 rfl (fun c3 => ?_) (fun c3 => ?_)
  · have hf := ifF hf c3
    refine rx_aload_n hG dX3_signOfBench_26 1 rfl ?_
    refine gfX_L_21_52 l E T hG dX3_signOfBench_27 ?_
    refine rx_iload_n hG dX3_signOfBench_30 2 rfl ?_
    obtain ⟨v4, hv4, hf⟩ := bindE hf
    refine rx_iald hG (skX56 T) hv4 dX3_signOfBench_31 ?_
    refine rx_sub hG [1, 2] (lv' := [(0, .ref (adr E 52)), (1, .int p0)]) rfl ?_
    exact Lj_L_signOfBench_52_32 l E T hG  p0 v4 ((Int32.toInt64 v1) <<< (Int32.toInt64 2 &&& 63)) hf
  · have hf := ifT hf c3
    refine rx_iconst hG 3 dX3_signOfBench_22 ic_3 ?_
    refine rx_goto hG 32 dX3_signOfBench_23 rfl ?_
    refine rx_sub hG [1, 2] (lv' := [(0, .ref (adr E 52)), (1, .int p0)]) rfl ?_
    exact Lj_L_signOfBench_52_32 l E T hG  p0 3 ((Int32.toInt64 v1) <<< (Int32.toInt64 2 &&& 63)) hf
set_option maxHeartbeats 4000000 in
set_option maxRecDepth 100000 in
theorem Lblp_L_sign_52_104_108 (l : Launch) (E : En) (T : List Sk) (htr : E.2.2.1 = .ref (adr E 103)) {a0 b0 kc ks : Nat} {M' : Mm} {G : Nat → List (Nat × Value) → List Value → Mm → Prop} (hG : RX l (SKX ++ (SKT ++ T)) E RX3 cX3_sign 4 none { frames := 2, cells := a0, slots := b0, locals := 45 } kc ks none M' G) (rc108 : Int32 → Int32 → Mm → Option Mm) (hrc108 : ∀ (x2 : Int32) (x3 : Int32) (M : Mm), rc108 x2 x3 M = some M' → G 108 [(0, .ref (adr E 52)), (1, .ref (adr E 104)), (2, .int x2), (3, .int x3)] [] M) : ∀ (x2 : Int32) (x3 : Int32) (M : Mm), blp_L_sign_52_104_108 rc108 x2 x3 M = some M' → G 108 [(0, .ref (adr E 52)), (1, .ref (adr E 104)), (2, .int x2), (3, .int x3)] [] M := by
  intro x2 x3 M hf
  unfold blp_L_sign_52_104_108 at hf
  refine rx_iload_n hG dX3_sign_108 3 rfl ?_
  refine rx_aload_n hG dX3_sign_109 0 rfl ?_
  refine gfX_L_48_52 l E (SKT ++ T) hG dX3_sign_110 ?_
  refine gfX_L_107_2 l E (SKT ++ T) hG dX3_sign_113 ?_
  refine rx_icmp_ge hG 150 dX3_sign_116 rfl (fun c1 => ?_) (fun c1 => ?_)
  · have hf := ifT hf c1
    cases hf
    exact rx_vret hG dX3_sign_150
  · have hf := ifF hf c1
    refine rx_aload_n hG dX3_sign_119 1 rfl ?_
    refine rx_iload_n hG dX3_sign_120 2 rfl ?_
    refine rx_iconst hG 4 dX3_sign_121 ic_4 ?_
    refine rx_iadd hG dX3_sign_122 ?_
    refine rx_aload_n hG dX3_sign_123 1 rfl ?_
    refine rx_iload_n hG dX3_sign_124 2 rfl ?_
    refine rx_iconst hG 4 dX3_sign_125 ic_4 ?_
    refine rx_iadd hG dX3_sign_126 ?_
    obtain ⟨w2, hw2, hf⟩ := bindE hf
    refine rx_lald hG (skX104 T) hw2 dX3_sign_127 ?_
    refine rx_bipush hG 10 dX3_sign_128 bp_10 ?_
    refine rx_lshl hG dX3_sign_130 ?_
    refine rx_aload_n hG dX3_sign_131 0 rfl ?_
    refine rx_iload_n hG dX3_sign_132 3 rfl ?_
    obtain ⟨v3, hv3, hf⟩ := bindE hf
    refine rx_cVi hG (c_L_nextOrder_52 l E (SKT ++ T) x3 hv3) (skX52 (SKT ++ T)) rfl rfl kw_L_110 ⟨Nat.le_of_ble_eq_true rfl, Nat.le_of_ble_eq_true rfl⟩ rfl (Nat.le_of_ble_eq_true rfl) dX3_sign_133 ?_
    refine rx_aload_n hG dX3_sign_136 0 rfl ?_
    refine gfX_L_73_52 l E (SKT ++ T) hG dX3_sign_137 ?_
    refine rx_isub hG dX3_sign_140 ?_
    refine rx_i2l hG dX3_sign_141 ?_
    refine rx_ladd hG dX3_sign_142 ?_
    obtain ⟨M4, hM4, hf⟩ := bindE hf
    refine rx_last hG (skX104 T) hM4 dX3_sign_143 ?_
    refine rx_iinc (lv2 := [(3, .int (x3 + 1)), (0, .ref (adr E 52)), (1, .ref (adr E 104)), (2, .int x2)]) hG 1 dX3_sign_144 ic_1 3 rfl (Nat.le_of_ble_eq_true rfl) rfl ?_
    refine rx_goto hG 108 dX3_sign_147 rfl ?_
    refine rx_sub hG [1, 2, 3, 0] (lv' := [(0, .ref (adr E 52)), (1, .ref (adr E 104)), (2, .int x2), (3, .int (x3 + 1))]) rfl ?_
    exact hrc108 x2 (x3 + 1) M4 hf
theorem Llp_L_sign_52_104_108 (l : Launch) (E : En) (T : List Sk) (htr : E.2.2.1 = .ref (adr E 103)) {a0 b0 kc ks : Nat} {M' : Mm} {G : Nat → List (Nat × Value) → List Value → Mm → Prop} (hG : RX l (SKX ++ (SKT ++ T)) E RX3 cX3_sign 4 none { frames := 2, cells := a0, slots := b0, locals := 45 } kc ks none M' G)  : ∀ (n : Nat) (x2 : Int32) (x3 : Int32) (M : Mm), lp_L_sign_52_104_108  n x2 x3 M = some M' → G 108 [(0, .ref (adr E 52)), (1, .ref (adr E 104)), (2, .int x2), (3, .int x3)] [] M := by
  intro n
  induction n with
  | zero => intro x2 x3 M hf; cases hf
  | succ n ih => intro x2 x3 M hf; exact Lblp_L_sign_52_104_108 l E T htr hG  (lp_L_sign_52_104_108  n) ih x2 x3 M hf
set_option maxHeartbeats 4000000 in
set_option maxRecDepth 100000 in
theorem Lj_L_sign_52_104_106 (l : Launch) (E : En) (T : List Sk) (htr : E.2.2.1 = .ref (adr E 103)) {a0 b0 kc ks : Nat} {M' : Mm} {G : Nat → List (Nat × Value) → List Value → Mm → Prop} (hG : RX l (SKX ++ (SKT ++ T)) E RX3 cX3_sign 4 none { frames := 2, cells := a0, slots := b0, locals := 45 } kc ks none M' G)  : ∀ (x2 : Int32) (M : Mm), j_L_sign_52_104_106  x2 M = some M' → G 106 [(0, .ref (adr E 52)), (1, .ref (adr E 104)), (2, .int x2)] [] M := by
  intro x2 M hf
  unfold j_L_sign_52_104_106 at hf
  refine rx_iconst hG 0 dX3_sign_106 ic_0 ?_
  refine rx_istore_n (lv2 := [(3, .int 0), (0, .ref (adr E 52)), (1, .ref (adr E 104)), (2, .int x2)]) hG dX3_sign_107 (Nat.le_of_ble_eq_true rfl) rfl ?_
  refine rx_sub hG [1, 2, 3, 0] (lv' := [(0, .ref (adr E 52)), (1, .ref (adr E 104)), (2, .int x2), (3, .int 0)]) rfl ?_
  exact Llp_L_sign_52_104_108 l E T htr hG  FW x2 0 M hf
set_option maxHeartbeats 4000000 in
set_option maxRecDepth 100000 in
theorem Lblp_L_sign_52_104_68 (l : Launch) (E : En) (T : List Sk) (htr : E.2.2.1 = .ref (adr E 103)) {a0 b0 kc ks : Nat} {M' : Mm} {G : Nat → List (Nat × Value) → List Value → Mm → Prop} (hG : RX l (SKX ++ (SKT ++ T)) E RX3 cX3_sign 4 none { frames := 2, cells := a0, slots := b0, locals := 45 } kc ks none M' G) (rc68 : Int32 → Int32 → Mm → Option Mm) (hrc68 : ∀ (x2 : Int32) (x3 : Int32) (M : Mm), rc68 x2 x3 M = some M' → G 68 [(0, .ref (adr E 52)), (1, .ref (adr E 104)), (2, .int x2), (3, .int x3)] [] M) : ∀ (x2 : Int32) (x3 : Int32) (M : Mm), blp_L_sign_52_104_68 rc68 x2 x3 M = some M' → G 68 [(0, .ref (adr E 52)), (1, .ref (adr E 104)), (2, .int x2), (3, .int x3)] [] M := by
  intro x2 x3 M hf
  unfold blp_L_sign_52_104_68 at hf
  refine rx_iload_n hG dX3_sign_68 3 rfl ?_
  refine rx_aload_n hG dX3_sign_69 0 rfl ?_
  refine gfX_L_48_52 l E (SKT ++ T) hG dX3_sign_70 ?_
  refine gfX_L_138_2 l E (SKT ++ T) hG dX3_sign_73 ?_
  refine rx_icmp_ge hG 106 dX3_sign_76 rfl (fun c1 => ?_) (fun c1 => ?_)
  · have hf := ifT hf c1
    refine rx_sub hG [0, 1, 2] (lv' := [(0, .ref (adr E 52)), (1, .ref (adr E 104)), (2, .int x2)]) rfl ?_
    exact Lj_L_sign_52_104_106 l E T htr hG  x2 M hf
  · have hf := ifF hf c1
    refine rx_aload_n hG dX3_sign_79 1 rfl ?_
    refine rx_iload_n hG dX3_sign_80 2 rfl ?_
    refine rx_iconst hG 3 dX3_sign_81 ic_3 ?_
    refine rx_iadd hG dX3_sign_82 ?_
    refine rx_aload_n hG dX3_sign_83 1 rfl ?_
    refine rx_iload_n hG dX3_sign_84 2 rfl ?_
    refine rx_iconst hG 3 dX3_sign_85 ic_3 ?_
    refine rx_iadd hG dX3_sign_86 ?_
    obtain ⟨w2, hw2, hf⟩ := bindE hf
    refine rx_lald hG (skX104 T) hw2 dX3_sign_87 ?_
    refine rx_bipush hG 20 dX3_sign_88 bp_20 ?_
    refine rx_lshl hG dX3_sign_90 ?_
    refine rx_aload_n hG dX3_sign_91 0 rfl ?_
    refine gfX_L_39_52 l E (SKT ++ T) hG dX3_sign_92 ?_
    refine rx_iload_n hG dX3_sign_95 3 rfl ?_
    obtain ⟨v3, hv3, hf⟩ := bindE hf
    refine rx_iald hG (skX62 (SKT ++ T)) hv3 dX3_sign_96 ?_
    refine rx_i2l hG dX3_sign_97 ?_
    refine rx_ladd hG dX3_sign_98 ?_
    obtain ⟨M4, hM4, hf⟩ := bindE hf
    refine rx_last hG (skX104 T) hM4 dX3_sign_99 ?_
    refine rx_iinc (lv2 := [(3, .int (x3 + 1)), (0, .ref (adr E 52)), (1, .ref (adr E 104)), (2, .int x2)]) hG 1 dX3_sign_100 ic_1 3 rfl (Nat.le_of_ble_eq_true rfl) rfl ?_
    refine rx_goto hG 68 dX3_sign_103 rfl ?_
    refine rx_sub hG [1, 2, 3, 0] (lv' := [(0, .ref (adr E 52)), (1, .ref (adr E 104)), (2, .int x2), (3, .int (x3 + 1))]) rfl ?_
    exact hrc68 x2 (x3 + 1) M4 hf
theorem Llp_L_sign_52_104_68 (l : Launch) (E : En) (T : List Sk) (htr : E.2.2.1 = .ref (adr E 103)) {a0 b0 kc ks : Nat} {M' : Mm} {G : Nat → List (Nat × Value) → List Value → Mm → Prop} (hG : RX l (SKX ++ (SKT ++ T)) E RX3 cX3_sign 4 none { frames := 2, cells := a0, slots := b0, locals := 45 } kc ks none M' G)  : ∀ (n : Nat) (x2 : Int32) (x3 : Int32) (M : Mm), lp_L_sign_52_104_68  n x2 x3 M = some M' → G 68 [(0, .ref (adr E 52)), (1, .ref (adr E 104)), (2, .int x2), (3, .int x3)] [] M := by
  intro n
  induction n with
  | zero => intro x2 x3 M hf; cases hf
  | succ n ih => intro x2 x3 M hf; exact Lblp_L_sign_52_104_68 l E T htr hG  (lp_L_sign_52_104_68  n) ih x2 x3 M hf
set_option maxHeartbeats 4000000 in
set_option maxRecDepth 100000 in
theorem Lj_L_sign_52_104_66 (l : Launch) (E : En) (T : List Sk) (htr : E.2.2.1 = .ref (adr E 103)) {a0 b0 kc ks : Nat} {M' : Mm} {G : Nat → List (Nat × Value) → List Value → Mm → Prop} (hG : RX l (SKX ++ (SKT ++ T)) E RX3 cX3_sign 4 none { frames := 2, cells := a0, slots := b0, locals := 45 } kc ks none M' G)  : ∀ (x2 : Int32) (M : Mm), j_L_sign_52_104_66  x2 M = some M' → G 66 [(0, .ref (adr E 52)), (1, .ref (adr E 104)), (2, .int x2)] [] M := by
  intro x2 M hf
  unfold j_L_sign_52_104_66 at hf
  refine rx_iconst hG 0 dX3_sign_66 ic_0 ?_
  refine rx_istore_n (lv2 := [(3, .int 0), (0, .ref (adr E 52)), (1, .ref (adr E 104)), (2, .int x2)]) hG dX3_sign_67 (Nat.le_of_ble_eq_true rfl) rfl ?_
  refine rx_sub hG [1, 2, 3, 0] (lv' := [(0, .ref (adr E 52)), (1, .ref (adr E 104)), (2, .int x2), (3, .int 0)]) rfl ?_
  exact Llp_L_sign_52_104_68 l E T htr hG  FW x2 0 M hf
set_option maxHeartbeats 4000000 in
set_option maxRecDepth 100000 in
theorem Lj_L_sign_52_104_57 (l : Launch) (E : En) (T : List Sk) (htr : E.2.2.1 = .ref (adr E 103)) {a0 b0 kc ks : Nat} {M' : Mm} {G : Nat → List (Nat × Value) → List Value → Mm → Prop} (hG : RX l (SKX ++ (SKT ++ T)) E RX3 cX3_sign 4 none { frames := 2, cells := a0, slots := b0, locals := 45 } kc ks none M' G) (rc21 : Int32 → Int32 → Mm → Option Mm) (hrc21 : ∀ (x2 : Int32) (x3 : Int32) (M : Mm), rc21 x2 x3 M = some M' → G 21 [(0, .ref (adr E 52)), (1, .ref (adr E 104)), (2, .int x2), (3, .int x3)] [] M) : ∀ (x2 : Int32) (x3 : Int32) (t0 : Int32) (t1 : Int64) (t2 : Int64) (t3 : Int32) (M : Mm), j_L_sign_52_104_57 rc21 x2 x3 t0 t1 t2 t3 M = some M' → G 57 [(0, .ref (adr E 52)), (1, .ref (adr E 104)), (2, .int x2), (3, .int x3)] [.int t0, .long t1, .long t2, .int t3, .ref (adr E 104)] M := by
  intro x2 x3 t0 t1 t2 t3 M hf
  unfold j_L_sign_52_104_57 at hf
  refine rx_lshl hG dX3_sign_57 ?_
  refine rx_lor hG dX3_sign_58 ?_
  obtain ⟨M1, hM1, hf⟩ := bindE hf
  refine rx_last hG (skX104 T) hM1 dX3_sign_59 ?_
  refine rx_iinc (lv2 := [(3, .int (x3 + 1)), (0, .ref (adr E 52)), (1, .ref (adr E 104)), (2, .int x2)]) hG 1 dX3_sign_60 ic_1 3 rfl (Nat.le_of_ble_eq_true rfl) rfl ?_
  refine rx_goto hG 21 dX3_sign_63 rfl ?_
  refine rx_sub hG [1, 2, 3, 0] (lv' := [(0, .ref (adr E 52)), (1, .ref (adr E 104)), (2, .int x2), (3, .int (x3 + 1))]) rfl ?_
  exact hrc21 x2 (x3 + 1) M1 hf
set_option maxHeartbeats 4000000 in
set_option maxRecDepth 100000 in
theorem Lblp_L_sign_52_104_21 (l : Launch) (E : En) (T : List Sk) (htr : E.2.2.1 = .ref (adr E 103)) {a0 b0 kc ks : Nat} {M' : Mm} {G : Nat → List (Nat × Value) → List Value → Mm → Prop} (hG : RX l (SKX ++ (SKT ++ T)) E RX3 cX3_sign 4 none { frames := 2, cells := a0, slots := b0, locals := 45 } kc ks none M' G) (rc21 : Int32 → Int32 → Mm → Option Mm) (hrc21 : ∀ (x2 : Int32) (x3 : Int32) (M : Mm), rc21 x2 x3 M = some M' → G 21 [(0, .ref (adr E 52)), (1, .ref (adr E 104)), (2, .int x2), (3, .int x3)] [] M) : ∀ (x2 : Int32) (x3 : Int32) (M : Mm), blp_L_sign_52_104_21 rc21 x2 x3 M = some M' → G 21 [(0, .ref (adr E 52)), (1, .ref (adr E 104)), (2, .int x2), (3, .int x3)] [] M := by
  intro x2 x3 M hf
  unfold blp_L_sign_52_104_21 at hf
  refine rx_iload_n hG dX3_sign_21 3 rfl ?_
  refine rx_aload_n hG dX3_sign_22 0 rfl ?_
  refine gfX_L_48_52 l E (SKT ++ T) hG dX3_sign_23 ?_
  refine gfX_L_102_2 l E (SKT ++ T) hG dX3_sign_26 ?_
  refine rx_icmp_ge hG 66 dX3_sign_29 rfl (fun c1 => ?_) (fun c1 => ?_)
  · have hf := ifT hf c1
    refine rx_sub hG [0, 1, 2] (lv' := [(0, .ref (adr E 52)), (1, .ref (adr E 104)), (2, .int x2)]) rfl ?_
    exact Lj_L_sign_52_104_66 l E T htr hG  x2 M hf
  · have hf := ifF hf c1
    refine rx_aload_n hG dX3_sign_32 1 rfl ?_
    refine rx_iload_n hG dX3_sign_33 2 rfl ?_
    refine rx_iload_n hG dX3_sign_34 3 rfl ?_
    refine rx_iconst hG 2 dX3_sign_35 ic_2 ?_
    obtain ⟨v2, hv2, hf⟩ := bindE hf
    refine rx_idiv hG hv2 dX3_sign_36 ?_
    refine rx_iadd hG dX3_sign_37 ?_
    refine rx_dup2 hG dX3_sign_38 rfl rfl ?_
    obtain ⟨w3, hw3, hf⟩ := bindE hf
    refine rx_lald hG (skX104 T) hw3 dX3_sign_39 ?_
    refine rx_aload_n hG dX3_sign_40 0 rfl ?_
    refine rx_iload_n hG dX3_sign_41 3 rfl ?_
    obtain ⟨w4, hw4, hf⟩ := bindE hf
    refine rx_cVl hG (c_L_signOfBench_52 l E (SKT ++ T) x3 hw4) (skX52 (SKT ++ T)) rfl rfl kw_L_187 ⟨Nat.le_of_ble_eq_true rfl, Nat.le_of_ble_eq_true rfl⟩ rfl (Nat.le_of_ble_eq_true rfl) dX3_sign_42 ?_
    refine rx_iload_n hG dX3_sign_45 3 rfl ?_
    refine rx_iconst hG 2 dX3_sign_46 ic_2 ?_
    obtain ⟨v5, hv5, hf⟩ := bindE hf
    refine rx_irem hG hv5 dX3_sign_47 ?_
    refine rx_if_ne hG 55 dX3_sign_48 rfl (fun c6 => ?_) (fun c6 => ?_)
    · have hf := ifF hf c6
      refine rx_bipush hG 32 dX3_sign_55 bp_32 ?_
      exact Lj_L_sign_52_104_57 l E T htr hG rc21 hrc21 x2 x3 32 w4 w3 (x2 + v2) M hf
    · have hf := ifT hf c6
      refine rx_iconst hG 0 dX3_sign_51 ic_0 ?_
      refine rx_goto hG 57 dX3_sign_52 rfl ?_
      exact Lj_L_sign_52_104_57 l E T htr hG rc21 hrc21 x2 x3 0 w4 w3 (x2 + v2) M hf
theorem Llp_L_sign_52_104_21 (l : Launch) (E : En) (T : List Sk) (htr : E.2.2.1 = .ref (adr E 103)) {a0 b0 kc ks : Nat} {M' : Mm} {G : Nat → List (Nat × Value) → List Value → Mm → Prop} (hG : RX l (SKX ++ (SKT ++ T)) E RX3 cX3_sign 4 none { frames := 2, cells := a0, slots := b0, locals := 45 } kc ks none M' G)  : ∀ (n : Nat) (x2 : Int32) (x3 : Int32) (M : Mm), lp_L_sign_52_104_21  n x2 x3 M = some M' → G 21 [(0, .ref (adr E 52)), (1, .ref (adr E 104)), (2, .int x2), (3, .int x3)] [] M := by
  intro n
  induction n with
  | zero => intro x2 x3 M hf; cases hf
  | succ n ih => intro x2 x3 M hf; exact Lblp_L_sign_52_104_21 l E T htr hG  (lp_L_sign_52_104_21  n) ih x2 x3 M hf
set_option maxHeartbeats 4000000 in
set_option maxRecDepth 100000 in
theorem Lj_L_sign_52_104_19 (l : Launch) (E : En) (T : List Sk) (htr : E.2.2.1 = .ref (adr E 103)) {a0 b0 kc ks : Nat} {M' : Mm} {G : Nat → List (Nat × Value) → List Value → Mm → Prop} (hG : RX l (SKX ++ (SKT ++ T)) E RX3 cX3_sign 4 none { frames := 2, cells := a0, slots := b0, locals := 45 } kc ks none M' G)  : ∀ (x2 : Int32) (M : Mm), j_L_sign_52_104_19  x2 M = some M' → G 19 [(0, .ref (adr E 52)), (1, .ref (adr E 104)), (2, .int x2)] [] M := by
  intro x2 M hf
  unfold j_L_sign_52_104_19 at hf
  refine rx_iconst hG 0 dX3_sign_19 ic_0 ?_
  refine rx_istore_n (lv2 := [(3, .int 0), (0, .ref (adr E 52)), (1, .ref (adr E 104)), (2, .int x2)]) hG dX3_sign_20 (Nat.le_of_ble_eq_true rfl) rfl ?_
  refine rx_sub hG [1, 2, 3, 0] (lv' := [(0, .ref (adr E 52)), (1, .ref (adr E 104)), (2, .int x2), (3, .int 0)]) rfl ?_
  exact Llp_L_sign_52_104_21 l E T htr hG  FW x2 0 M hf
set_option maxHeartbeats 4000000 in
set_option maxRecDepth 100000 in
theorem Lblp_L_sign_52_104_2 (l : Launch) (E : En) (T : List Sk) (htr : E.2.2.1 = .ref (adr E 103)) {a0 b0 kc ks : Nat} {M' : Mm} {G : Nat → List (Nat × Value) → List Value → Mm → Prop} (hG : RX l (SKX ++ (SKT ++ T)) E RX3 cX3_sign 4 none { frames := 2, cells := a0, slots := b0, locals := 45 } kc ks none M' G) (rc2 : Int32 → Int32 → Mm → Option Mm) (hrc2 : ∀ (x2 : Int32) (x3 : Int32) (M : Mm), rc2 x2 x3 M = some M' → G 2 [(0, .ref (adr E 52)), (1, .ref (adr E 104)), (2, .int x2), (3, .int x3)] [] M) : ∀ (x2 : Int32) (x3 : Int32) (M : Mm), blp_L_sign_52_104_2 rc2 x2 x3 M = some M' → G 2 [(0, .ref (adr E 52)), (1, .ref (adr E 104)), (2, .int x2), (3, .int x3)] [] M := by
  intro x2 x3 M hf
  unfold blp_L_sign_52_104_2 at hf
  refine rx_iload_n hG dX3_sign_2 3 rfl ?_
  refine rx_iconst hG 5 dX3_sign_3 ic_5 ?_
  refine rx_icmp_ge hG 19 dX3_sign_4 rfl (fun c1 => ?_) (fun c1 => ?_)
  · have hf := ifT hf c1
    refine rx_sub hG [0, 1, 2] (lv' := [(0, .ref (adr E 52)), (1, .ref (adr E 104)), (2, .int x2)]) rfl ?_
    exact Lj_L_sign_52_104_19 l E T htr hG  x2 M hf
  · have hf := ifF hf c1
    refine rx_aload_n hG dX3_sign_7 1 rfl ?_
    refine rx_iload_n hG dX3_sign_8 2 rfl ?_
    refine rx_iload_n hG dX3_sign_9 3 rfl ?_
    refine rx_iadd hG dX3_sign_10 ?_
    refine rx_lconst hG 0 dX3_sign_11 lc_0 ?_
    obtain ⟨M2, hM2, hf⟩ := bindE hf
    refine rx_last hG (skX104 T) hM2 dX3_sign_12 ?_
    refine rx_iinc (lv2 := [(3, .int (x3 + 1)), (0, .ref (adr E 52)), (1, .ref (adr E 104)), (2, .int x2)]) hG 1 dX3_sign_13 ic_1 3 rfl (Nat.le_of_ble_eq_true rfl) rfl ?_
    refine rx_goto hG 2 dX3_sign_16 rfl ?_
    refine rx_sub hG [1, 2, 3, 0] (lv' := [(0, .ref (adr E 52)), (1, .ref (adr E 104)), (2, .int x2), (3, .int (x3 + 1))]) rfl ?_
    exact hrc2 x2 (x3 + 1) M2 hf
theorem Llp_L_sign_52_104_2 (l : Launch) (E : En) (T : List Sk) (htr : E.2.2.1 = .ref (adr E 103)) {a0 b0 kc ks : Nat} {M' : Mm} {G : Nat → List (Nat × Value) → List Value → Mm → Prop} (hG : RX l (SKX ++ (SKT ++ T)) E RX3 cX3_sign 4 none { frames := 2, cells := a0, slots := b0, locals := 45 } kc ks none M' G)  : ∀ (n : Nat) (x2 : Int32) (x3 : Int32) (M : Mm), lp_L_sign_52_104_2  n x2 x3 M = some M' → G 2 [(0, .ref (adr E 52)), (1, .ref (adr E 104)), (2, .int x2), (3, .int x3)] [] M := by
  intro n
  induction n with
  | zero => intro x2 x3 M hf; cases hf
  | succ n ih => intro x2 x3 M hf; exact Lblp_L_sign_52_104_2 l E T htr hG  (lp_L_sign_52_104_2  n) ih x2 x3 M hf
set_option maxHeartbeats 4000000 in
set_option maxRecDepth 100000 in
theorem c_L_sign_52_104 (l : Launch) (E : En) (T : List Sk) (htr : E.2.2.1 = .ref (adr E 103)) (p0 : Int32) {M M' : Mm} (h : f_L_sign_52_104 p0 M = some M') : Ct l (SKX ++ (SKT ++ T)) E yX3_sign cX3_sign 4 none 2 45 [.ref (adr E 52), .ref (adr E 104), .int p0] M none M' := by
  refine ct_of (by decide) (Nat.le_of_ble_eq_true rfl) ?_
  intro G hG
  show G 0 [(0, .ref (adr E 52)), (1, .ref (adr E 104)), (2, .int p0)] [] M
  have hf := h
  unfold f_L_sign_52_104 at hf
  refine rx_iconst hG 0 dX3_sign_0 ic_0 ?_
  refine rx_istore_n (lv2 := [(3, .int 0), (0, .ref (adr E 52)), (1, .ref (adr E 104)), (2, .int p0)]) hG dX3_sign_1 (Nat.le_of_ble_eq_true rfl) rfl ?_
  refine rx_sub hG [1, 2, 3, 0] (lv' := [(0, .ref (adr E 52)), (1, .ref (adr E 104)), (2, .int p0), (3, .int 0)]) rfl ?_
  exact Llp_L_sign_52_104_2 l E T htr hG  FW p0 0 M hf
set_option maxHeartbeats 4000000 in
set_option maxRecDepth 100000 in
theorem Lblp_T_bucketOf_103_5 (l : Launch) (E : En) (T : List Sk) (htr : E.2.2.1 = .ref (adr E 103)) {a0 b0 kc ks : Nat} {r : Int32} {M : Mm} {G : Nat → List (Nat × Value) → List Value → Mm → Prop} (hG : RX l (SKX ++ (SKT ++ T)) E RX8 cX8_bucketOf 5 (some .int) { frames := 0, cells := a0, slots := b0, locals := 0 } kc ks (some (.int r)) M G) (rc5 : Int32 → Int64 → Int32 → Mm → Option Int32) (hrc5 : ∀ (x1 : Int32) (x2 : Int64) (x4 : Int32), rc5 x1 x2 x4 M = some r → G 5 [(0, .ref (adr E 103)), (1, .int x1), (2, .long x2), (4, .int x4)] [] M) : ∀ (x1 : Int32) (x2 : Int64) (x4 : Int32), blp_T_bucketOf_103_5 rc5 x1 x2 x4 M = some r → G 5 [(0, .ref (adr E 103)), (1, .int x1), (2, .long x2), (4, .int x4)] [] M := by
  intro x1 x2 x4 hf
  unfold blp_T_bucketOf_103_5 at hf
  refine rx_iload hG dX8_bucketOf_5 3 rfl ?_
  refine rx_iconst hG 5 dX8_bucketOf_7 ic_5 ?_
  refine rx_icmp_ge hG 42 dX8_bucketOf_8 rfl (fun c1 => ?_) (fun c1 => ?_)
  · have hf := ifT hf c1
    refine rx_lload_n hG dX8_bucketOf_42 2 rfl ?_
    refine rx_ldc2 hG q_1007 dX8_bucketOf_43 ?_
    refine rx_lmul hG dX8_bucketOf_46 ?_
    refine rx_bipush hG 54 dX8_bucketOf_47 bp_54 ?_
    refine rx_lushr hG dX8_bucketOf_49 ?_
    refine rx_l2i hG dX8_bucketOf_50 ?_
    cases hf
    exact rx_iret hG dX8_bucketOf_51
  · have hf := ifF hf c1
    refine rx_lload_n hG dX8_bucketOf_11 2 rfl ?_
    refine rx_aload_n hG dX8_bucketOf_12 0 rfl ?_
    refine gfX_T_13_103 l E T hG dX8_bucketOf_13 ?_
    refine rx_iconst hG 5 dX8_bucketOf_16 ic_5 ?_
    refine rx_iload_n hG dX8_bucketOf_17 1 rfl ?_
    refine rx_imul hG dX8_bucketOf_18 ?_
    refine rx_iload hG dX8_bucketOf_19 3 rfl ?_
    refine rx_iadd hG dX8_bucketOf_21 ?_
    obtain ⟨w2, hw2, hf⟩ := bindE hf
    refine rx_lald hG (skX104 T) hw2 dX8_bucketOf_22 ?_
    refine rx_lxor hG dX8_bucketOf_23 ?_
    refine rx_ldc2 hG q_1007 dX8_bucketOf_24 ?_
    refine rx_lmul hG dX8_bucketOf_27 ?_
    refine rx_lstore_n (lv2 := [(2, .long ((x2 ^^^ w2) * (-7046029254386353131))), (0, .ref (adr E 103)), (1, .int x1), (4, .int x4)]) hG dX8_bucketOf_28 (Nat.le_of_ble_eq_true rfl) rfl ?_
    refine rx_lload_n hG dX8_bucketOf_29 0 rfl ?_
    refine rx_lload_n hG dX8_bucketOf_30 0 rfl ?_
    refine rx_bipush hG 32 dX8_bucketOf_31 bp_32 ?_
    refine rx_lushr hG dX8_bucketOf_33 ?_
    refine rx_lxor hG dX8_bucketOf_34 ?_
    obtain ⟨w3, hw3, hf⟩ := bindE hf
    refine rx_nmL hG hw3 ?_
    refine rx_lstore_n (lv2 := [(2, .long w3), (0, .ref (adr E 103)), (1, .int x1), (4, .int x4)]) hG dX8_bucketOf_35 (Nat.le_of_ble_eq_true rfl) rfl ?_
    refine rx_iinc (lv2 := [(4, .int (x4 + 1)), (2, .long w3), (0, .ref (adr E 103)), (1, .int x1)]) hG 1 dX8_bucketOf_36 ic_1 3 rfl (Nat.le_of_ble_eq_true rfl) rfl ?_
    refine rx_goto hG 5 dX8_bucketOf_39 rfl ?_
    refine rx_sub hG [2, 3, 1, 0] (lv' := [(0, .ref (adr E 103)), (1, .int x1), (2, .long w3), (4, .int (x4 + 1))]) rfl ?_
    exact hrc5 x1 w3 (x4 + 1) hf
theorem Llp_T_bucketOf_103_5 (l : Launch) (E : En) (T : List Sk) (htr : E.2.2.1 = .ref (adr E 103)) {a0 b0 kc ks : Nat} {r : Int32} {M : Mm} {G : Nat → List (Nat × Value) → List Value → Mm → Prop} (hG : RX l (SKX ++ (SKT ++ T)) E RX8 cX8_bucketOf 5 (some .int) { frames := 0, cells := a0, slots := b0, locals := 0 } kc ks (some (.int r)) M G)  : ∀ (n : Nat) (x1 : Int32) (x2 : Int64) (x4 : Int32), lp_T_bucketOf_103_5  n x1 x2 x4 M = some r → G 5 [(0, .ref (adr E 103)), (1, .int x1), (2, .long x2), (4, .int x4)] [] M := by
  intro n
  induction n with
  | zero => intro x1 x2 x4 hf; cases hf
  | succ n ih => intro x1 x2 x4 hf; exact Lblp_T_bucketOf_103_5 l E T htr hG  (lp_T_bucketOf_103_5  n) ih x1 x2 x4 hf
set_option maxHeartbeats 4000000 in
set_option maxRecDepth 100000 in
theorem c_T_bucketOf_103 (l : Launch) (E : En) (T : List Sk) (htr : E.2.2.1 = .ref (adr E 103)) (p0 : Int32) {M : Mm} {r : Int32} (h : f_T_bucketOf_103 p0 M = some r) : Ct l (SKX ++ (SKT ++ T)) E yX8_bucketOf cX8_bucketOf 5 (some .int) 0 0 [.ref (adr E 103), .int p0] M (some (.int r)) M := by
  refine ct_of (by decide) (Nat.le_of_ble_eq_true rfl) ?_
  intro G hG
  show G 0 [(0, .ref (adr E 103)), (1, .int p0)] [] M
  have hf := h
  unfold f_T_bucketOf_103 at hf
  refine rx_lconst hG 0 dX8_bucketOf_0 lc_0 ?_
  refine rx_lstore_n (lv2 := [(2, .long 0), (0, .ref (adr E 103)), (1, .int p0)]) hG dX8_bucketOf_1 (Nat.le_of_ble_eq_true rfl) rfl ?_
  refine rx_iconst hG 0 dX8_bucketOf_2 ic_0 ?_
  refine rx_istore (lv2 := [(4, .int 0), (2, .long 0), (0, .ref (adr E 103)), (1, .int p0)]) hG dX8_bucketOf_3 (Nat.le_of_ble_eq_true rfl) rfl ?_
  refine rx_sub hG [2, 3, 1, 0] (lv' := [(0, .ref (adr E 103)), (1, .int p0), (2, .long 0), (4, .int 0)]) rfl ?_
  exact Llp_T_bucketOf_103_5 l E T htr hG  FW p0 0 0 hf
set_option maxHeartbeats 4000000 in
set_option maxRecDepth 100000 in
theorem Lblp_T_isAlike_103_2 (l : Launch) (E : En) (T : List Sk) (htr : E.2.2.1 = .ref (adr E 103)) {a0 b0 kc ks : Nat} {r : Int32} {M : Mm} {G : Nat → List (Nat × Value) → List Value → Mm → Prop} (hG : RX l (SKX ++ (SKT ++ T)) E RX8 cX8_isAlike 5 (some .boolean) { frames := 0, cells := a0, slots := b0, locals := 0 } kc ks (some (.int r)) M G) (rc2 : Int32 → Int32 → Int32 → Mm → Option Int32) (hrc2 : ∀ (x1 : Int32) (x2 : Int32) (x3 : Int32), rc2 x1 x2 x3 M = some r → G 2 [(0, .ref (adr E 103)), (1, .int x1), (2, .int x2), (3, .int x3)] [] M) : ∀ (x1 : Int32) (x2 : Int32) (x3 : Int32), blp_T_isAlike_103_2 rc2 x1 x2 x3 M = some r → G 2 [(0, .ref (adr E 103)), (1, .int x1), (2, .int x2), (3, .int x3)] [] M := by
  intro x1 x2 x3 hf
  unfold blp_T_isAlike_103_2 at hf
  refine rx_iload_n hG dX8_isAlike_2 3 rfl ?_
  refine rx_iconst hG 5 dX8_isAlike_3 ic_5 ?_
  refine rx_icmp_ge hG 43 dX8_isAlike_4 rfl (fun c1 => ?_) (fun c1 => ?_)
  · have hf := ifT hf c1
    refine rx_iconst hG 1 dX8_isAlike_43 ic_1 ?_
    cases hf
    exact rx_zret hG zr1 dX8_isAlike_44
  · have hf := ifF hf c1
    refine rx_iconst hG 5 dX8_isAlike_7 ic_5 ?_
    refine rx_iload_n hG dX8_isAlike_8 1 rfl ?_
    refine rx_imul hG dX8_isAlike_9 ?_
    refine rx_iload_n hG dX8_isAlike_10 3 rfl ?_
    refine rx_iadd hG dX8_isAlike_11 ?_
    refine rx_istore (lv2 := [(4, .int ((5 * x1) + x3)), (0, .ref (adr E 103)), (1, .int x1), (2, .int x2), (3, .int x3)]) hG dX8_isAlike_12 (Nat.le_of_ble_eq_true rfl) rfl ?_
    refine rx_aload_n hG dX8_isAlike_14 1 rfl ?_
    refine gfX_T_13_103 l E T hG dX8_isAlike_15 ?_
    refine rx_iload hG dX8_isAlike_18 0 rfl ?_
    obtain ⟨w2, hw2, hf⟩ := bindE hf
    refine rx_lald hG (skX104 T) hw2 dX8_isAlike_20 ?_
    refine rx_aload_n hG dX8_isAlike_21 1 rfl ?_
    refine gfX_T_13_103 l E T hG dX8_isAlike_22 ?_
    refine rx_iconst hG 5 dX8_isAlike_25 ic_5 ?_
    refine rx_iload_n hG dX8_isAlike_26 3 rfl ?_
    refine rx_imul hG dX8_isAlike_27 ?_
    refine rx_iload_n hG dX8_isAlike_28 4 rfl ?_
    refine rx_iadd hG dX8_isAlike_29 ?_
    obtain ⟨w3, hw3, hf⟩ := bindE hf
    refine rx_lald hG (skX104 T) hw3 dX8_isAlike_30 ?_
    refine rx_lcmp hG dX8_isAlike_31 ?_
    refine rx_if_eq hG 37 dX8_isAlike_32 rfl (fun c4 => ?_) (fun c4 => ?_)
    · have hf := ifT hf c4
      refine rx_iinc (lv2 := [(3, .int (x3 + 1)), (4, .int ((5 * x1) + x3)), (0, .ref (adr E 103)), (1, .int x1), (2, .int x2)]) hG 1 dX8_isAlike_37 ic_1 4 rfl (Nat.le_of_ble_eq_true rfl) rfl ?_
      refine rx_goto hG 2 dX8_isAlike_40 rfl ?_
      refine rx_sub hG [2, 3, 4, 0] (lv' := [(0, .ref (adr E 103)), (1, .int x1), (2, .int x2), (3, .int (x3 + 1))]) rfl ?_
      exact hrc2 x1 x2 (x3 + 1) hf
    · have hf := ifF hf c4
      refine rx_iconst hG 0 dX8_isAlike_35 ic_0 ?_
      cases hf
      exact rx_zret hG zr0 dX8_isAlike_36
theorem Llp_T_isAlike_103_2 (l : Launch) (E : En) (T : List Sk) (htr : E.2.2.1 = .ref (adr E 103)) {a0 b0 kc ks : Nat} {r : Int32} {M : Mm} {G : Nat → List (Nat × Value) → List Value → Mm → Prop} (hG : RX l (SKX ++ (SKT ++ T)) E RX8 cX8_isAlike 5 (some .boolean) { frames := 0, cells := a0, slots := b0, locals := 0 } kc ks (some (.int r)) M G)  : ∀ (n : Nat) (x1 : Int32) (x2 : Int32) (x3 : Int32), lp_T_isAlike_103_2  n x1 x2 x3 M = some r → G 2 [(0, .ref (adr E 103)), (1, .int x1), (2, .int x2), (3, .int x3)] [] M := by
  intro n
  induction n with
  | zero => intro x1 x2 x3 hf; cases hf
  | succ n ih => intro x1 x2 x3 hf; exact Lblp_T_isAlike_103_2 l E T htr hG  (lp_T_isAlike_103_2  n) ih x1 x2 x3 hf
set_option maxHeartbeats 4000000 in
set_option maxRecDepth 100000 in
theorem c_T_isAlike_103 (l : Launch) (E : En) (T : List Sk) (htr : E.2.2.1 = .ref (adr E 103)) (p0 : Int32) (p1 : Int32) {M : Mm} {r : Int32} (h : f_T_isAlike_103 p0 p1 M = some r) : Ct l (SKX ++ (SKT ++ T)) E yX8_isAlike cX8_isAlike 5 (some .boolean) 0 0 [.ref (adr E 103), .int p0, .int p1] M (some (.int r)) M := by
  refine ct_of (by decide) (Nat.le_of_ble_eq_true rfl) ?_
  intro G hG
  show G 0 [(0, .ref (adr E 103)), (1, .int p0), (2, .int p1)] [] M
  have hf := h
  unfold f_T_isAlike_103 at hf
  refine rx_iconst hG 0 dX8_isAlike_0 ic_0 ?_
  refine rx_istore_n (lv2 := [(3, .int 0), (0, .ref (adr E 103)), (1, .int p0), (2, .int p1)]) hG dX8_isAlike_1 (Nat.le_of_ble_eq_true rfl) rfl ?_
  refine rx_sub hG [1, 2, 3, 0] (lv' := [(0, .ref (adr E 103)), (1, .int p0), (2, .int p1), (3, .int 0)]) rfl ?_
  exact Llp_T_isAlike_103_2 l E T htr hG  FW p0 p1 0 hf
set_option maxHeartbeats 4000000 in
set_option maxRecDepth 100000 in
theorem Lj_T_earlierLike_103_52_83 (l : Launch) (E : En) (T : List Sk) (htr : E.2.2.1 = .ref (adr E 103)) {a0 b0 kc ks : Nat} {r : Int32} {M' : Mm} {G : Nat → List (Nat × Value) → List Value → Mm → Prop} (hG : RX l (SKX ++ (SKT ++ T)) E RX8 cX8_earlierLike 6 (some .int) { frames := 3, cells := a0, slots := b0, locals := 68 } kc ks (some (.int r)) M' G)  : ∀ (x2 : Int32) (x3 : Int32) (M : Mm), j_T_earlierLike_103_52_83  x2 x3 M = some (r, M') → G 83 [(0, .ref (adr E 103)), (2, .int x2), (3, .int x3)] [] M := by
  intro x2 x3 M hf
  unfold j_T_earlierLike_103_52_83 at hf
  refine rx_aload_n hG dX8_earlierLike_83 0 rfl ?_
  refine gfX_T_21_103 l E T hG dX8_earlierLike_84 ?_
  refine rx_iload_n hG dX8_earlierLike_87 1 rfl ?_
  refine rx_aload_n hG dX8_earlierLike_88 0 rfl ?_
  refine gfX_T_17_103 l E T hG dX8_earlierLike_89 ?_
  refine rx_iload_n hG dX8_earlierLike_92 2 rfl ?_
  obtain ⟨v1, hv1, hf⟩ := bindE hf
  refine rx_iald hG (skX105 T) hv1 dX8_earlierLike_93 ?_
  obtain ⟨M2, hM2, hf⟩ := bindE hf
  refine rx_iast hG (skX106 T) hM2 dX8_earlierLike_94 ?_
  refine rx_aload_n hG dX8_earlierLike_95 0 rfl ?_
  refine gfX_T_17_103 l E T hG dX8_earlierLike_96 ?_
  refine rx_iload_n hG dX8_earlierLike_99 2 rfl ?_
  refine rx_iload_n hG dX8_earlierLike_100 1 rfl ?_
  obtain ⟨M3, hM3, hf⟩ := bindE hf
  refine rx_iast hG (skX105 T) hM3 dX8_earlierLike_101 ?_
  refine rx_iconst hG (-1) dX8_earlierLike_102 ic_m1 ?_
  cases hf
  exact rx_iret hG dX8_earlierLike_103
set_option maxHeartbeats 4000000 in
set_option maxRecDepth 100000 in
theorem Lblp_T_earlierLike_103_52_41 (l : Launch) (E : En) (T : List Sk) (htr : E.2.2.1 = .ref (adr E 103)) {a0 b0 kc ks : Nat} {r : Int32} {M' : Mm} {G : Nat → List (Nat × Value) → List Value → Mm → Prop} (hG : RX l (SKX ++ (SKT ++ T)) E RX8 cX8_earlierLike 6 (some .int) { frames := 3, cells := a0, slots := b0, locals := 68 } kc ks (some (.int r)) M' G) (rc41 : Int32 → Int32 → Int32 → Int32 → Mm → Option (Int32 × Mm)) (hrc41 : ∀ (x2 : Int32) (x3 : Int32) (x4 : Int32) (x5 : Int32) (M : Mm), rc41 x2 x3 x4 x5 M = some (r, M') → G 41 [(0, .ref (adr E 103)), (2, .int x2), (3, .int x3), (4, .int x4), (5, .int x5)] [] M) : ∀ (x2 : Int32) (x3 : Int32) (x4 : Int32) (x5 : Int32) (M : Mm), blp_T_earlierLike_103_52_41 rc41 x2 x3 x4 x5 M = some (r, M') → G 41 [(0, .ref (adr E 103)), (2, .int x2), (3, .int x3), (4, .int x4), (5, .int x5)] [] M := by
  intro x2 x3 x4 x5 M hf
  unfold blp_T_earlierLike_103_52_41 at hf
  refine rx_iload hG dX8_earlierLike_41 4 rfl ?_
  refine rx_sipush hG 2000 dX8_earlierLike_43 sp_2000 ?_
  refine rx_icmp_ge hG 83 dX8_earlierLike_46 rfl (fun c1 => ?_) (fun c1 => ?_)
  · have hf := ifT hf c1
    refine rx_sub hG [0, 1, 2] (lv' := [(0, .ref (adr E 103)), (2, .int x2), (3, .int x3)]) rfl ?_
    exact Lj_T_earlierLike_103_52_83 l E T htr hG  x2 x3 M hf
  · have hf := ifF hf c1
    refine rx_iload hG dX8_earlierLike_49 3 rfl ?_
    refine rx_iconst hG (-1) dX8_earlierLike_51 ic_m1 ?_
    refine rx_icmp_eq hG 83 dX8_earlierLike_52 rfl (fun c2 => ?_) (fun c2 => ?_)
    · have hf := ifT hf c2
      refine rx_sub hG [0, 1, 2] (lv' := [(0, .ref (adr E 103)), (2, .int x2), (3, .int x3)]) rfl ?_
      exact Lj_T_earlierLike_103_52_83 l E T htr hG  x2 x3 M hf
    · have hf := ifF hf c2
      refine rx_aload_n hG dX8_earlierLike_55 0 rfl ?_
      refine rx_iload_n hG dX8_earlierLike_56 1 rfl ?_
      refine rx_iload hG dX8_earlierLike_57 3 rfl ?_
      obtain ⟨v3, hv3, hf⟩ := bindE hf
      refine rx_cVi hG (c_T_isAlike_103 l E T htr x2 x4 hv3) (skX103 T) rfl rfl kw_T_38 ⟨Nat.le_of_ble_eq_true rfl, Nat.le_of_ble_eq_true rfl⟩ rfl (Nat.le_of_ble_eq_true rfl) dX8_earlierLike_59 ?_
      refine rx_if_eq hG 68 dX8_earlierLike_62 rfl (fun c4 => ?_) (fun c4 => ?_)
      · have hf := ifT hf c4
        refine rx_aload_n hG dX8_earlierLike_68 0 rfl ?_
        refine gfX_T_21_103 l E T hG dX8_earlierLike_69 ?_
        refine rx_iload hG dX8_earlierLike_72 3 rfl ?_
        obtain ⟨v5, hv5, hf⟩ := bindE hf
        refine rx_iald hG (skX106 T) hv5 dX8_earlierLike_74 ?_
        refine rx_istore (lv2 := [(4, .int v5), (0, .ref (adr E 103)), (2, .int x2), (3, .int x3), (5, .int x5)]) hG dX8_earlierLike_75 (Nat.le_of_ble_eq_true rfl) rfl ?_
        refine rx_iinc (lv2 := [(5, .int (x5 + 1)), (4, .int v5), (0, .ref (adr E 103)), (2, .int x2), (3, .int x3)]) hG 1 dX8_earlierLike_77 ic_1 4 rfl (Nat.le_of_ble_eq_true rfl) rfl ?_
        refine rx_goto hG 41 dX8_earlierLike_80 rfl ?_
        refine rx_sub hG [2, 3, 4, 1, 0] (lv' := [(0, .ref (adr E 103)), (2, .int x2), (3, .int x3), (4, .int v5), (5, .int (x5 + 1))]) rfl ?_
        exact hrc41 x2 x3 v5 (x5 + 1) M hf
      · have hf := ifF hf c4
        refine rx_iload hG dX8_earlierLike_65 3 rfl ?_
        cases hf
        exact rx_iret hG dX8_earlierLike_67
theorem Llp_T_earlierLike_103_52_41 (l : Launch) (E : En) (T : List Sk) (htr : E.2.2.1 = .ref (adr E 103)) {a0 b0 kc ks : Nat} {r : Int32} {M' : Mm} {G : Nat → List (Nat × Value) → List Value → Mm → Prop} (hG : RX l (SKX ++ (SKT ++ T)) E RX8 cX8_earlierLike 6 (some .int) { frames := 3, cells := a0, slots := b0, locals := 68 } kc ks (some (.int r)) M' G)  : ∀ (n : Nat) (x2 : Int32) (x3 : Int32) (x4 : Int32) (x5 : Int32) (M : Mm), lp_T_earlierLike_103_52_41  n x2 x3 x4 x5 M = some (r, M') → G 41 [(0, .ref (adr E 103)), (2, .int x2), (3, .int x3), (4, .int x4), (5, .int x5)] [] M := by
  intro n
  induction n with
  | zero => intro x2 x3 x4 x5 M hf; cases hf
  | succ n ih => intro x2 x3 x4 x5 M hf; exact Lblp_T_earlierLike_103_52_41 l E T htr hG  (lp_T_earlierLike_103_52_41  n) ih x2 x3 x4 x5 M hf
set_option maxHeartbeats 4000000 in
set_option maxRecDepth 100000 in
theorem c_T_earlierLike_103_52 (l : Launch) (E : En) (T : List Sk) (htr : E.2.2.1 = .ref (adr E 103)) (p0 : Int32) {M M' : Mm} {r : Int32} (h : f_T_earlierLike_103_52 p0 M = some (r, M')) : Ct l (SKX ++ (SKT ++ T)) E yX8_earlierLike cX8_earlierLike 6 (some .int) 3 68 [.ref (adr E 103), .ref (adr E 52), .int p0] M (some (.int r)) M' := by
  refine ct_of (by decide) (Nat.le_of_ble_eq_true rfl) ?_
  intro G hG
  show G 0 [(0, .ref (adr E 103)), (1, .ref (adr E 52)), (2, .int p0)] [] M
  have hf := h
  unfold f_T_earlierLike_103_52 at hf
  refine rx_iload_n hG dX8_earlierLike_0 2 rfl ?_
  refine rx_if_lt hG 11 dX8_earlierLike_1 rfl (fun c1 => ?_) (fun c1 => ?_)
  · have hf := ifT hf c1
    refine rx_iconst hG (-1) dX8_earlierLike_11 ic_m1 ?_
    cases hf
    exact rx_iret hG dX8_earlierLike_12
  · have hf := ifF hf c1
    refine rx_iload_n hG dX8_earlierLike_4 2 rfl ?_
    refine rx_sipush hG 2000 dX8_earlierLike_5 sp_2000 ?_
    refine rx_icmp_lt hG 13 dX8_earlierLike_8 rfl (fun c2 => ?_) (fun c2 => ?_)
    · have hf := ifT hf c2
      refine rx_aload_n hG dX8_earlierLike_13 1 rfl ?_
      refine rx_aload_n hG dX8_earlierLike_14 0 rfl ?_
      refine gfX_T_13_103 l E T hG dX8_earlierLike_15 ?_
      refine rx_iconst hG 5 dX8_earlierLike_18 ic_5 ?_
      refine rx_iload_n hG dX8_earlierLike_19 2 rfl ?_
      refine rx_imul hG dX8_earlierLike_20 ?_
      obtain ⟨M3, hM3, hf⟩ := bindE hf
      refine rx_cVv hG (c_L_sign_52_104 l E T htr (5 * p0) hM3) (skX52 (SKT ++ T)) rfl rfl kw_T_30 ⟨Nat.le_of_ble_eq_true rfl, Nat.le_of_ble_eq_true rfl⟩ rfl (Nat.le_of_ble_eq_true rfl) dX8_earlierLike_21 ?_
      refine rx_aload_n hG dX8_earlierLike_24 0 rfl ?_
      refine rx_iload_n hG dX8_earlierLike_25 2 rfl ?_
      obtain ⟨v4, hv4, hf⟩ := bindE hf
      refine rx_cVi hG (c_T_bucketOf_103 l E T htr p0 hv4) (skX103 T) rfl rfl kw_T_34 ⟨Nat.le_of_ble_eq_true rfl, Nat.le_of_ble_eq_true rfl⟩ rfl (Nat.le_of_ble_eq_true rfl) dX8_earlierLike_26 ?_
      refine rx_istore_n (lv2 := [(3, .int v4), (0, .ref (adr E 103)), (1, .ref (adr E 52)), (2, .int p0)]) hG dX8_earlierLike_29 (Nat.le_of_ble_eq_true rfl) rfl ?_
      refine rx_aload_n hG dX8_earlierLike_30 1 rfl ?_
      refine gfX_T_17_103 l E T hG dX8_earlierLike_31 ?_
      refine rx_iload_n hG dX8_earlierLike_34 0 rfl ?_
      obtain ⟨v5, hv5, hf⟩ := bindE hf
      refine rx_iald hG (skX105 T) hv5 dX8_earlierLike_35 ?_
      refine rx_istore (lv2 := [(4, .int v5), (3, .int v4), (0, .ref (adr E 103)), (1, .ref (adr E 52)), (2, .int p0)]) hG dX8_earlierLike_36 (Nat.le_of_ble_eq_true rfl) rfl ?_
      refine rx_iconst hG 0 dX8_earlierLike_38 ic_0 ?_
      refine rx_istore (lv2 := [(5, .int 0), (4, .int v5), (3, .int v4), (0, .ref (adr E 103)), (1, .ref (adr E 52)), (2, .int p0)]) hG dX8_earlierLike_39 (Nat.le_of_ble_eq_true rfl) rfl ?_
      refine rx_sub hG [3, 5, 2, 1, 0] (lv' := [(0, .ref (adr E 103)), (2, .int p0), (3, .int v4), (4, .int v5), (5, .int 0)]) rfl ?_
      exact Llp_T_earlierLike_103_52_41 l E T htr hG  FW p0 v4 v5 0 M3 hf
    · have hf := ifF hf c2
      refine rx_iconst hG (-1) dX8_earlierLike_11 ic_m1 ?_
      cases hf
      exact rx_iret hG dX8_earlierLike_12
set_option maxHeartbeats 4000000 in
set_option maxRecDepth 100000 in
theorem Lj_Q_firstAgain_48_107 (l : Launch) (E : En) (T : List Sk) (htr : E.2.2.1 = .ref (adr E 103)) {a0 b0 kc ks : Nat} {r : Int32} {M' : Mm} {G : Nat → List (Nat × Value) → List Value → Mm → Prop} (hG : RX l (SKX ++ (SKT ++ T)) E RX4 cX4_firstAgain 3 (some .int) { frames := 4, cells := a0, slots := b0, locals := 93 } kc ks (some (.int r)) M' G) (rc46 : Int32 → Int32 → Mm → Option (Int32 × Mm)) (hrc46 : ∀ (x1 : Int32) (x2 : Int32) (M : Mm), rc46 x1 x2 M = some (r, M') → G 46 [(0, .ref (adr E 48)), (1, .int x1), (2, .int x2)] [] M) : ∀ (x1 : Int32) (x2 : Int32) (M : Mm), j_Q_firstAgain_48_107 rc46 x1 x2 M = some (r, M') → G 107 [(0, .ref (adr E 48)), (1, .int x1), (2, .int x2)] [] M := by
  intro x1 x2 M hf
  unfold j_Q_firstAgain_48_107 at hf
  refine rx_iinc (lv2 := [(2, .int (x2 + 1)), (0, .ref (adr E 48)), (1, .int x1)]) hG 1 dX4_firstAgain_107 ic_1 2 rfl (Nat.le_of_ble_eq_true rfl) rfl ?_
  refine rx_goto hG 46 dX4_firstAgain_110 rfl ?_
  refine rx_sub hG [1, 2, 0] (lv' := [(0, .ref (adr E 48)), (1, .int x1), (2, .int (x2 + 1))]) rfl ?_
  exact hrc46 x1 (x2 + 1) M hf
set_option maxHeartbeats 4000000 in
set_option maxRecDepth 100000 in
theorem Lblp_Q_firstAgain_48_46 (l : Launch) (E : En) (T : List Sk) (htr : E.2.2.1 = .ref (adr E 103)) {a0 b0 kc ks : Nat} {r : Int32} {M' : Mm} {G : Nat → List (Nat × Value) → List Value → Mm → Prop} (hG : RX l (SKX ++ (SKT ++ T)) E RX4 cX4_firstAgain 3 (some .int) { frames := 4, cells := a0, slots := b0, locals := 93 } kc ks (some (.int r)) M' G) (rc46 : Int32 → Int32 → Mm → Option (Int32 × Mm)) (hrc46 : ∀ (x1 : Int32) (x2 : Int32) (M : Mm), rc46 x1 x2 M = some (r, M') → G 46 [(0, .ref (adr E 48)), (1, .int x1), (2, .int x2)] [] M) : ∀ (x1 : Int32) (x2 : Int32) (M : Mm), blp_Q_firstAgain_48_46 rc46 x1 x2 M = some (r, M') → G 46 [(0, .ref (adr E 48)), (1, .int x1), (2, .int x2)] [] M := by
  intro x1 x2 M hf
  unfold blp_Q_firstAgain_48_46 at hf
  refine rx_iload_n hG dX4_firstAgain_46 2 rfl ?_
  refine rx_iload_n hG dX4_firstAgain_47 1 rfl ?_
  refine rx_icmp_ge hG 113 dX4_firstAgain_48 rfl (fun c1 => ?_) (fun c1 => ?_)
  · have hf := ifT hf c1
    refine rx_bipush hG (-2) dX4_firstAgain_113 bp_m2 ?_
    cases hf
    exact rx_iret hG dX4_firstAgain_115
  · have hf := ifF hf c1
    refine rx_aload_n hG dX4_firstAgain_51 0 rfl ?_
    refine gfX_Q_30_48 l E (SKT ++ T) hG dX4_firstAgain_52 ?_
    obtain ⟨M2, hM2, hf⟩ := bindE hf
    refine rx_cVv hG (c_L_change_52 l E (SKT ++ T)  hM2) (skX52 (SKT ++ T)) rfl rfl kw_Q_90 ⟨Nat.le_of_ble_eq_true rfl, Nat.le_of_ble_eq_true rfl⟩ rfl (Nat.le_of_ble_eq_true rfl) dX4_firstAgain_55 ?_
    refine rx_aload_n hG dX4_firstAgain_58 0 rfl ?_
    refine gfX_Q_30_48 l E (SKT ++ T) hG dX4_firstAgain_59 ?_
    refine rx_dup hG dX4_firstAgain_62 rfl ?_
    refine gfX_Q_93_52 l E (SKT ++ T) hG dX4_firstAgain_63 ?_
    refine rx_iconst hG 1 dX4_firstAgain_66 ic_1 ?_
    refine rx_iadd hG dX4_firstAgain_67 ?_
    obtain ⟨M3, hM3, hf⟩ := bindE hf
    refine pfX_Q_93_52 l E (SKT ++ T) hG hM3 dX4_firstAgain_68 ?_
    refine rx_aload_n hG dX4_firstAgain_71 0 rfl ?_
    refine gfX_Q_30_48 l E (SKT ++ T) hG dX4_firstAgain_72 ?_
    obtain ⟨v4, hv4, hf⟩ := bindE hf
    refine rx_cVi hG (c_L_allStreamsBegun_52 l E (SKT ++ T)  hv4) (skX52 (SKT ++ T)) rfl rfl kw_Q_96 ⟨Nat.le_of_ble_eq_true rfl, Nat.le_of_ble_eq_true rfl⟩ rfl (Nat.le_of_ble_eq_true rfl) dX4_firstAgain_75 ?_
    refine rx_if_eq hG 107 dX4_firstAgain_78 rfl (fun c5 => ?_) (fun c5 => ?_)
    · have hf := ifT hf c5
      exact Lj_Q_firstAgain_48_107 l E T htr hG rc46 hrc46 x1 x2 M3 hf
    · have hf := ifF hf c5
      refine rx_aload_n hG dX4_firstAgain_81 0 rfl ?_
      refine rx_aload_n hG dX4_firstAgain_82 0 rfl ?_
      refine gfX_Q_80_48 l E T htr hG dX4_firstAgain_83 ?_
      refine rx_aload_n hG dX4_firstAgain_86 0 rfl ?_
      refine gfX_Q_30_48 l E (SKT ++ T) hG dX4_firstAgain_87 ?_
      refine rx_iload_n hG dX4_firstAgain_90 2 rfl ?_
      obtain ⟨q6, hq6, hf⟩ := bindE hf
      refine rx_cVi hG (c_T_earlierLike_103_52 l E T htr x2 hq6) (skX103 T) rfl rfl kw_Q_100 ⟨Nat.le_of_ble_eq_true rfl, Nat.le_of_ble_eq_true rfl⟩ rfl (Nat.le_of_ble_eq_true rfl) dX4_firstAgain_91 ?_
      obtain ⟨M7, hM7, hf⟩ := bindE hf
      refine pfX_Q_104_48 l E (SKT ++ T) hG hM7 dX4_firstAgain_94 ?_
      refine rx_aload_n hG dX4_firstAgain_97 0 rfl ?_
      refine gfX_Q_104_48 l E (SKT ++ T) hG dX4_firstAgain_98 ?_
      refine rx_iconst hG (-1) dX4_firstAgain_101 ic_m1 ?_
      refine rx_icmp_eq hG 107 dX4_firstAgain_102 rfl (fun c8 => ?_) (fun c8 => ?_)
      · have hf := ifT hf c8
        exact Lj_Q_firstAgain_48_107 l E T htr hG rc46 hrc46 x1 x2 M7 hf
      · have hf := ifF hf c8
        refine rx_iload_n hG dX4_firstAgain_105 2 rfl ?_
        cases hf
        exact rx_iret hG dX4_firstAgain_106
theorem Llp_Q_firstAgain_48_46 (l : Launch) (E : En) (T : List Sk) (htr : E.2.2.1 = .ref (adr E 103)) {a0 b0 kc ks : Nat} {r : Int32} {M' : Mm} {G : Nat → List (Nat × Value) → List Value → Mm → Prop} (hG : RX l (SKX ++ (SKT ++ T)) E RX4 cX4_firstAgain 3 (some .int) { frames := 4, cells := a0, slots := b0, locals := 93 } kc ks (some (.int r)) M' G)  : ∀ (n : Nat) (x1 : Int32) (x2 : Int32) (M : Mm), lp_Q_firstAgain_48_46  n x1 x2 M = some (r, M') → G 46 [(0, .ref (adr E 48)), (1, .int x1), (2, .int x2)] [] M := by
  intro n
  induction n with
  | zero => intro x1 x2 M hf; cases hf
  | succ n ih => intro x1 x2 M hf; exact Lblp_Q_firstAgain_48_46 l E T htr hG  (lp_Q_firstAgain_48_46  n) ih x1 x2 M hf
set_option maxHeartbeats 4000000 in
set_option maxRecDepth 100000 in
theorem Lj_Q_firstAgain_48_18 (l : Launch) (E : En) (T : List Sk) (htr : E.2.2.1 = .ref (adr E 103)) {a0 b0 kc ks : Nat} {r : Int32} {M' : Mm} {G : Nat → List (Nat × Value) → List Value → Mm → Prop} (hG : RX l (SKX ++ (SKT ++ T)) E RX4 cX4_firstAgain 3 (some .int) { frames := 4, cells := a0, slots := b0, locals := 93 } kc ks (some (.int r)) M' G)  : ∀ (x1 : Int32) (M : Mm), j_Q_firstAgain_48_18  x1 M = some (r, M') → G 18 [(0, .ref (adr E 48)), (1, .int x1)] [] M := by
  intro x1 M hf
  unfold j_Q_firstAgain_48_18 at hf
  refine rx_aload_n hG dX4_firstAgain_18 0 rfl ?_
  refine gfX_Q_12_48 l E (SKT ++ T) hG dX4_firstAgain_19 ?_
  refine rx_aload_n hG dX4_firstAgain_22 0 rfl ?_
  refine gfX_Q_22_48 l E (SKT ++ T) hG dX4_firstAgain_23 ?_
  obtain ⟨M1, hM1, hf⟩ := bindE hf
  refine rx_cVv hG (c_V_copy_49_32 l E (SKT ++ T)  hM1) (skX49 (SKT ++ T)) rfl rfl kw_Q_46 ⟨Nat.le_of_ble_eq_true rfl, Nat.le_of_ble_eq_true rfl⟩ rfl (Nat.le_of_ble_eq_true rfl) dX4_firstAgain_26 ?_
  refine rx_aload_n hG dX4_firstAgain_29 0 rfl ?_
  refine gfX_Q_30_48 l E (SKT ++ T) hG dX4_firstAgain_30 ?_
  refine rx_iconst hG 0 dX4_firstAgain_33 ic_0 ?_
  obtain ⟨M2, hM2, hf⟩ := bindE hf
  refine rx_cVv hG (c_L_start_52 l E (SKT ++ T) 0 hM2) (skX52 (SKT ++ T)) rfl rfl kw_Q_34 ⟨Nat.le_of_ble_eq_true rfl, Nat.le_of_ble_eq_true rfl⟩ rfl (Nat.le_of_ble_eq_true rfl) dX4_firstAgain_34 ?_
  refine rx_aload_n hG dX4_firstAgain_37 0 rfl ?_
  refine gfX_Q_80_48 l E T htr hG dX4_firstAgain_38 ?_
  obtain ⟨M3, hM3, hf⟩ := bindE hf
  refine rx_cVv hG (c_T_clear_103 l E T htr  hM3) (skX103 T) rfl rfl kw_Q_87 ⟨Nat.le_of_ble_eq_true rfl, Nat.le_of_ble_eq_true rfl⟩ rfl (Nat.le_of_ble_eq_true rfl) dX4_firstAgain_41 ?_
  refine rx_iconst hG 0 dX4_firstAgain_44 ic_0 ?_
  refine rx_istore_n (lv2 := [(2, .int 0), (0, .ref (adr E 48)), (1, .int x1)]) hG dX4_firstAgain_45 (Nat.le_of_ble_eq_true rfl) rfl ?_
  refine rx_sub hG [1, 2, 0] (lv' := [(0, .ref (adr E 48)), (1, .int x1), (2, .int 0)]) rfl ?_
  exact Llp_Q_firstAgain_48_46 l E T htr hG  FW x1 0 M3 hf
set_option maxHeartbeats 4000000 in
set_option maxRecDepth 100000 in
theorem c_Q_firstAgain_48 (l : Launch) (E : En) (T : List Sk) (htr : E.2.2.1 = .ref (adr E 103)) (p0 : Int32) {M M' : Mm} {r : Int32} (h : f_Q_firstAgain_48 p0 M = some (r, M')) : Ct l (SKX ++ (SKT ++ T)) E yX4_firstAgain cX4_firstAgain 3 (some .int) 4 93 [.ref (adr E 48), .int p0] M (some (.int r)) M' := by
  refine ct_of (by decide) (Nat.le_of_ble_eq_true rfl) ?_
  intro G hG
  show G 0 [(0, .ref (adr E 48)), (1, .int p0)] [] M
  have hf := h
  unfold f_Q_firstAgain_48 at hf
  refine rx_aload_n hG dX4_firstAgain_0 0 rfl ?_
  refine gfX_Q_80_48 l E T htr hG dX4_firstAgain_1 ?_
  refine rx_ifnonnull hG 18 dX4_firstAgain_4 rfl ?_
  exact Lj_Q_firstAgain_48_18 l E T htr hG  p0 M hf
set_option maxHeartbeats 4000000 in
set_option maxRecDepth 100000 in
theorem c_P_comesAgain_0 (l : Launch) (E : En) (T : List Sk) (htr : E.2.2.1 = .ref (adr E 103)) (p0 : Int32) (p1 : Int32) {M M' : Mm} {r : Int32} (h : f_P_comesAgain_0 p0 p1 M = some (r, M')) : Ct l (SKX ++ (SKT ++ T)) E yX9_comesAgain cX9_comesAgain 4 (some .int) 5 115 [.ref (adr E 0), .int p0, .int p1] M (some (.int r)) M' := by
  refine ct_of (by decide) (Nat.le_of_ble_eq_true rfl) ?_
  intro G hG
  show G 0 [(0, .ref (adr E 0)), (1, .int p0), (2, .int p1)] [] M
  have hf := h
  unfold f_P_comesAgain_0 at hf
  refine rx_aload_n hG dX9_comesAgain_0 0 rfl ?_
  refine gfX_P_103_0 l E (SKT ++ T) hG dX9_comesAgain_1 ?_
  refine rx_if_eq hG 15 dX9_comesAgain_4 rfl (fun c1 => ?_) (fun c1 => ?_)
  · have hf := ifT hf c1
    refine rx_aload_n hG dX9_comesAgain_15 0 rfl ?_
    refine rx_iconst hG 1 dX9_comesAgain_16 ic_1 ?_
    obtain ⟨q2, hq2, hf⟩ := bindE hf
    refine rx_cVi hG (c_P_refused_0 l E (SKT ++ T) 1 hq2) (skX0 (SKT ++ T)) rfl rfl kw_P_79 ⟨Nat.le_of_ble_eq_true rfl, Nat.le_of_ble_eq_true rfl⟩ rfl (Nat.le_of_ble_eq_true rfl) dX9_comesAgain_17 ?_
    cases hf
    exact rx_iret hG dX9_comesAgain_20
  · have hf := ifF hf c1
    refine rx_iload_n hG dX9_comesAgain_7 2 rfl ?_
    refine rx_iconst hG 1 dX9_comesAgain_8 ic_1 ?_
    obtain ⟨v3, hv3, hf⟩ := bindE hf
    refine rx_cSi hG (c_P_within l E (SKX ++ (SKT ++ T)) p1 1 hv3) kw_P_128 ⟨Nat.le_of_ble_eq_true rfl, Nat.le_of_ble_eq_true rfl⟩ rfl (Nat.le_of_ble_eq_true rfl) dX9_comesAgain_9 ?_
    refine rx_if_ne hG 21 dX9_comesAgain_12 rfl (fun c4 => ?_) (fun c4 => ?_)
    · have hf := ifF hf c4
      refine rx_aload_n hG dX9_comesAgain_21 0 rfl ?_
      refine rx_iload_n hG dX9_comesAgain_22 1 rfl ?_
      obtain ⟨q5, hq5, hf⟩ := bindE hf
      refine rx_cVi hG (c_P_refusesPaper_0 l E (SKT ++ T) p0 hq5) (skX0 (SKT ++ T)) rfl rfl kw_P_249 ⟨Nat.le_of_ble_eq_true rfl, Nat.le_of_ble_eq_true rfl⟩ rfl (Nat.le_of_ble_eq_true rfl) dX9_comesAgain_23 ?_
      refine rx_if_eq hG 31 dX9_comesAgain_26 rfl (fun c6 => ?_) (fun c6 => ?_)
      · have hf := ifT hf c6
        refine rx_aload_n hG dX9_comesAgain_31 0 rfl ?_
        refine gfX_P_48_0 l E (SKT ++ T) hG dX9_comesAgain_32 ?_
        refine rx_iload_n hG dX9_comesAgain_35 1 rfl ?_
        obtain ⟨q7, hq7, hf⟩ := bindE hf
        refine rx_cVi hG (c_Q_firstAgain_48 l E T htr p0 hq7) (skX48 (SKT ++ T)) rfl rfl kw_P_274 ⟨Nat.le_of_ble_eq_true rfl, Nat.le_of_ble_eq_true rfl⟩ rfl (Nat.le_of_ble_eq_true rfl) dX9_comesAgain_36 ?_
        refine rx_istore_n (lv2 := [(3, .int q7.1), (0, .ref (adr E 0)), (1, .int p0), (2, .int p1)]) hG dX9_comesAgain_39 (Nat.le_of_ble_eq_true rfl) rfl ?_
        refine rx_aload_n hG dX9_comesAgain_40 1 rfl ?_
        refine rx_iload_n hG dX9_comesAgain_41 3 rfl ?_
        refine rx_if_eq hG 51 dX9_comesAgain_42 rfl (fun c8 => ?_) (fun c8 => ?_)
        · have hf := ifT hf c8
          refine rx_iload_n hG dX9_comesAgain_51 0 rfl ?_
          refine rx_goto hG 64 dX9_comesAgain_52 rfl ?_
          obtain ⟨q9, hq9, hf⟩ := bindE hf
          refine rx_cVi hG (c_P_granted_0 l E (SKT ++ T) q7.1 hq9) (skX0 (SKT ++ T)) rfl rfl kw_P_116 ⟨Nat.le_of_ble_eq_true rfl, Nat.le_of_ble_eq_true rfl⟩ rfl (Nat.le_of_ble_eq_true rfl) dX9_comesAgain_64 ?_
          cases hf
          exact rx_iret hG dX9_comesAgain_67
        · have hf := ifF hf c8
          refine rx_iload_n hG dX9_comesAgain_45 0 rfl ?_
          refine rx_bipush hG (-2) dX9_comesAgain_46 bp_m2 ?_
          refine rx_icmp_ne hG 55 dX9_comesAgain_48 rfl (fun c10 => ?_) (fun c10 => ?_)
          · have hf := ifF hf c10
            refine rx_iload_n hG dX9_comesAgain_55 0 rfl ?_
            refine rx_aload_n hG dX9_comesAgain_56 1 rfl ?_
            refine gfX_P_48_0 l E (SKT ++ T) hG dX9_comesAgain_57 ?_
            refine gfX_P_277_48 l E (SKT ++ T) hG dX9_comesAgain_60 ?_
            refine rx_isub hG dX9_comesAgain_63 ?_
            obtain ⟨q11, hq11, hf⟩ := bindE hf
            refine rx_cVi hG (c_P_granted_0 l E (SKT ++ T) (q7.1 - (q7.2.1 48 5)) hq11) (skX0 (SKT ++ T)) rfl rfl kw_P_116 ⟨Nat.le_of_ble_eq_true rfl, Nat.le_of_ble_eq_true rfl⟩ rfl (Nat.le_of_ble_eq_true rfl) dX9_comesAgain_64 ?_
            cases hf
            exact rx_iret hG dX9_comesAgain_67
          · have hf := ifT hf c10
            refine rx_iload_n hG dX9_comesAgain_51 0 rfl ?_
            refine rx_goto hG 64 dX9_comesAgain_52 rfl ?_
            obtain ⟨q12, hq12, hf⟩ := bindE hf
            refine rx_cVi hG (c_P_granted_0 l E (SKT ++ T) q7.1 hq12) (skX0 (SKT ++ T)) rfl rfl kw_P_116 ⟨Nat.le_of_ble_eq_true rfl, Nat.le_of_ble_eq_true rfl⟩ rfl (Nat.le_of_ble_eq_true rfl) dX9_comesAgain_64 ?_
            cases hf
            exact rx_iret hG dX9_comesAgain_67
      · have hf := ifF hf c6
        refine rx_iconst hG (-1) dX9_comesAgain_29 ic_m1 ?_
        cases hf
        exact rx_iret hG dX9_comesAgain_30
    · have hf := ifT hf c4
      refine rx_aload_n hG dX9_comesAgain_15 0 rfl ?_
      refine rx_iconst hG 1 dX9_comesAgain_16 ic_1 ?_
      obtain ⟨q13, hq13, hf⟩ := bindE hf
      refine rx_cVi hG (c_P_refused_0 l E (SKT ++ T) 1 hq13) (skX0 (SKT ++ T)) rfl rfl kw_P_79 ⟨Nat.le_of_ble_eq_true rfl, Nat.le_of_ble_eq_true rfl⟩ rfl (Nat.le_of_ble_eq_true rfl) dX9_comesAgain_17 ?_
      cases hf
      exact rx_iret hG dX9_comesAgain_20
set_option maxHeartbeats 4000000 in
set_option maxRecDepth 100000 in
theorem Lj_V_turn_32_62 (l : Launch) (E : En) (T : List Sk) {a0 b0 kc ks : Nat} {r : Int32} {M' : Mm} {G : Nat → List (Nat × Value) → List Value → Mm → Prop} (hG : RX l (SKX ++ T) E RX2 cX2_turn 4 (some .int) { frames := 0, cells := a0, slots := b0, locals := 0 } kc ks (some (.int r)) M' G)  : ∀ (x2 : Int32) (M : Mm), j_V_turn_32_62  x2 M = some (r, M') → G 62 [(0, .ref (adr E 32)), (2, .int x2)] [] M := by
  intro x2 M hf
  unfold j_V_turn_32_62 at hf
  refine rx_aload_n hG dX2_turn_62 0 rfl ?_
  refine gfX_V_24_32 l E T hG dX2_turn_63 ?_
  refine rx_istore_n (lv2 := [(3, .int (M.1 32 2)), (0, .ref (adr E 32)), (2, .int x2)]) hG dX2_turn_66 (Nat.le_of_ble_eq_true rfl) rfl ?_
  refine rx_aload_n hG dX2_turn_67 1 rfl ?_
  refine rx_iload_n hG dX2_turn_68 2 rfl ?_
  obtain ⟨M1, hM1, hf⟩ := bindE hf
  refine pfX_V_24_32 l E T hG hM1 dX2_turn_69 ?_
  refine rx_iload_n hG dX2_turn_72 0 rfl ?_
  cases hf
  exact rx_iret hG dX2_turn_73
set_option maxHeartbeats 4000000 in
set_option maxRecDepth 100000 in
theorem Lj_V_turn_32_27 (l : Launch) (E : En) (T : List Sk) {a0 b0 kc ks : Nat} {r : Int32} {M' : Mm} {G : Nat → List (Nat × Value) → List Value → Mm → Prop} (hG : RX l (SKX ++ T) E RX2 cX2_turn 4 (some .int) { frames := 0, cells := a0, slots := b0, locals := 0 } kc ks (some (.int r)) M' G)  : ∀ (x1 : Int32) (x2 : Int32) (M : Mm), j_V_turn_32_27  x1 x2 M = some (r, M') → G 27 [(0, .ref (adr E 32)), (1, .int x1), (2, .int x2)] [] M := by
  intro x1 x2 M hf
  unfold j_V_turn_32_27 at hf
  refine rx_iload_n hG dX2_turn_27 1 rfl ?_
  refine rx_bipush hG 18 dX2_turn_28 bp_18 ?_
  refine rx_icmp_lt hG 62 dX2_turn_30 rfl (fun c1 => ?_) (fun c1 => ?_)
  · have hf := ifT hf c1
    refine rx_sub hG [0, 2] (lv' := [(0, .ref (adr E 32)), (2, .int x2)]) rfl ?_
    exact Lj_V_turn_32_62 l E T hG  x2 M hf
  · have hf := ifF hf c1
    refine rx_iload_n hG dX2_turn_33 1 rfl ?_
    refine rx_bipush hG 36 dX2_turn_34 bp_36 ?_
    refine rx_icmp_ge hG 62 dX2_turn_36 rfl (fun c2 => ?_) (fun c2 => ?_)
    · have hf := ifT hf c2
      refine rx_sub hG [0, 2] (lv' := [(0, .ref (adr E 32)), (2, .int x2)]) rfl ?_
      exact Lj_V_turn_32_62 l E T hG  x2 M hf
    · have hf := ifF hf c2
      refine rx_aload_n hG dX2_turn_39 0 rfl ?_
      refine gfX_V_15_32 l E T hG dX2_turn_40 ?_
      refine rx_iload_n hG dX2_turn_43 1 rfl ?_
      refine rx_bipush hG 18 dX2_turn_44 bp_18 ?_
      refine rx_isub hG dX2_turn_46 ?_
      obtain ⟨v3, hv3, hf⟩ := bindE hf
      refine rx_iald hG (skX34 T) hv3 dX2_turn_47 ?_
      refine rx_istore_n (lv2 := [(3, .int v3), (0, .ref (adr E 32)), (1, .int x1), (2, .int x2)]) hG dX2_turn_48 (Nat.le_of_ble_eq_true rfl) rfl ?_
      refine rx_aload_n hG dX2_turn_49 1 rfl ?_
      refine gfX_V_15_32 l E T hG dX2_turn_50 ?_
      refine rx_iload_n hG dX2_turn_53 2 rfl ?_
      refine rx_bipush hG 18 dX2_turn_54 bp_18 ?_
      refine rx_isub hG dX2_turn_56 ?_
      refine rx_iload_n hG dX2_turn_57 3 rfl ?_
      obtain ⟨M4, hM4, hf⟩ := bindE hf
      refine rx_iast hG (skX34 T) hM4 dX2_turn_58 ?_
      refine rx_goto hG 72 dX2_turn_59 rfl ?_
      refine rx_iload_n hG dX2_turn_72 0 rfl ?_
      cases hf
      exact rx_iret hG dX2_turn_73
set_option maxHeartbeats 4000000 in
set_option maxRecDepth 100000 in
theorem c_V_turn_32 (l : Launch) (E : En) (T : List Sk) (p0 : Int32) (p1 : Int32) {M M' : Mm} {r : Int32} (h : f_V_turn_32 p0 p1 M = some (r, M')) : Ct l (SKX ++ T) E yX2_turn cX2_turn 4 (some .int) 0 0 [.ref (adr E 32), .int p0, .int p1] M (some (.int r)) M' := by
  refine ct_of (by decide) (Nat.le_of_ble_eq_true rfl) ?_
  intro G hG
  show G 0 [(0, .ref (adr E 32)), (1, .int p0), (2, .int p1)] [] M
  have hf := h
  unfold f_V_turn_32 at hf
  refine rx_iload_n hG dX2_turn_0 1 rfl ?_
  refine rx_if_lt hG 27 dX2_turn_1 rfl (fun c1 => ?_) (fun c1 => ?_)
  · have hf := ifT hf c1
    exact Lj_V_turn_32_27 l E T hG  p0 p1 M hf
  · have hf := ifF hf c1
    refine rx_iload_n hG dX2_turn_4 1 rfl ?_
    refine rx_bipush hG 18 dX2_turn_5 bp_18 ?_
    refine rx_icmp_ge hG 27 dX2_turn_7 rfl (fun c2 => ?_) (fun c2 => ?_)
    · have hf := ifT hf c2
      exact Lj_V_turn_32_27 l E T hG  p0 p1 M hf
    · have hf := ifF hf c2
      refine rx_aload_n hG dX2_turn_10 0 rfl ?_
      refine gfX_V_9_32 l E T hG dX2_turn_11 ?_
      refine rx_iload_n hG dX2_turn_14 1 rfl ?_
      obtain ⟨v3, hv3, hf⟩ := bindE hf
      refine rx_iald hG (skX33 T) hv3 dX2_turn_15 ?_
      refine rx_istore_n (lv2 := [(3, .int v3), (0, .ref (adr E 32)), (1, .int p0), (2, .int p1)]) hG dX2_turn_16 (Nat.le_of_ble_eq_true rfl) rfl ?_
      refine rx_aload_n hG dX2_turn_17 1 rfl ?_
      refine gfX_V_9_32 l E T hG dX2_turn_18 ?_
      refine rx_iload_n hG dX2_turn_21 2 rfl ?_
      refine rx_iload_n hG dX2_turn_22 3 rfl ?_
      obtain ⟨M4, hM4, hf⟩ := bindE hf
      refine rx_iast hG (skX33 T) hM4 dX2_turn_23 ?_
      refine rx_goto hG 72 dX2_turn_24 rfl ?_
      refine rx_iload_n hG dX2_turn_72 0 rfl ?_
      cases hf
      exact rx_iret hG dX2_turn_73
set_option maxHeartbeats 4000000 in
set_option maxRecDepth 100000 in
theorem Lj_A_perform_65_32_45 (l : Launch) (E : En) (T : List Sk) {a0 b0 kc ks : Nat} {r : Int32} {M' : Mm} {G : Nat → List (Nat × Value) → List Value → Mm → Prop} (hG : RX l (SKX ++ T) E RX0 cX0_perform 5 (some .int) { frames := 1, cells := a0, slots := b0, locals := 23 } kc ks (some (.int r)) M' G)  : ∀ (x2 : Int32) (x3 : Int32) (M : Mm), j_A_perform_65_32_45  x2 x3 M = some (r, M') → G 45 [(0, .ref (adr E 65)), (1, .ref (adr E 32)), (2, .int x2), (3, .int x3)] [] M := by
  intro x2 x3 M hf
  unfold j_A_perform_65_32_45 at hf
  refine rx_aload_n hG dX0_perform_45 1 rfl ?_
  refine rx_iload_n hG dX0_perform_46 2 rfl ?_
  refine rx_iload_n hG dX0_perform_47 3 rfl ?_
  obtain ⟨q1, hq1, hf⟩ := bindE hf
  refine rx_cVi hG (c_V_turn_32 l E T x2 x3 hq1) (skX32 T) rfl rfl kw_A_26 ⟨Nat.le_of_ble_eq_true rfl, Nat.le_of_ble_eq_true rfl⟩ rfl (Nat.le_of_ble_eq_true rfl) dX0_perform_48 ?_
  refine rx_istore (lv2 := [(4, .int q1.1), (0, .ref (adr E 65)), (1, .ref (adr E 32)), (2, .int x2), (3, .int x3)]) hG dX0_perform_51 (Nat.le_of_ble_eq_true rfl) rfl ?_
  refine rx_aload_n hG dX0_perform_53 1 rfl ?_
  refine gfX_A_9_65 l E T hG dX0_perform_54 ?_
  refine rx_aload_n hG dX0_perform_57 1 rfl ?_
  refine gfX_A_16_65 l E T hG dX0_perform_58 ?_
  refine rx_iload_n hG dX0_perform_61 3 rfl ?_
  obtain ⟨M2, hM2, hf⟩ := bindE hf
  refine rx_iast hG (skX66 T) hM2 dX0_perform_62 ?_
  refine rx_aload_n hG dX0_perform_63 1 rfl ?_
  refine gfX_A_13_65 l E T hG dX0_perform_64 ?_
  refine rx_aload_n hG dX0_perform_67 1 rfl ?_
  refine gfX_A_16_65 l E T hG dX0_perform_68 ?_
  refine rx_iload hG dX0_perform_71 0 rfl ?_
  obtain ⟨M3, hM3, hf⟩ := bindE hf
  refine rx_iast hG (skX67 T) hM3 dX0_perform_73 ?_
  refine rx_aload_n hG dX0_perform_74 1 rfl ?_
  refine rx_dup hG dX0_perform_75 rfl ?_
  refine gfX_A_16_65 l E T hG dX0_perform_76 ?_
  refine rx_iconst hG 1 dX0_perform_79 ic_1 ?_
  refine rx_iadd hG dX0_perform_80 ?_
  obtain ⟨M4, hM4, hf⟩ := bindE hf
  refine pfX_A_16_65 l E T hG hM4 dX0_perform_81 ?_
  refine rx_iload hG dX0_perform_84 0 rfl ?_
  cases hf
  exact rx_iret hG dX0_perform_86
set_option maxHeartbeats 4000000 in
set_option maxRecDepth 100000 in
theorem c_A_perform_65_32 (l : Launch) (E : En) (T : List Sk) (p0 : Int32) (p1 : Int32) {M M' : Mm} {r : Int32} (h : f_A_perform_65_32 p0 p1 M = some (r, M')) : Ct l (SKX ++ T) E yX0_perform cX0_perform 5 (some .int) 1 23 [.ref (adr E 65), .ref (adr E 32), .int p0, .int p1] M (some (.int r)) M' := by
  refine ct_of (by decide) (Nat.le_of_ble_eq_true rfl) ?_
  intro G hG
  show G 0 [(0, .ref (adr E 65)), (1, .ref (adr E 32)), (2, .int p0), (3, .int p1)] [] M
  have hf := h
  unfold f_A_perform_65_32 at hf
  refine rx_aload_n hG dX0_perform_0 0 rfl ?_
  refine gfX_A_16_65 l E T hG dX0_perform_1 ?_
  refine rx_bipush hG 10 dX0_perform_4 bp_10 ?_
  refine rx_icmp_lt hG 45 dX0_perform_6 rfl (fun c1 => ?_) (fun c1 => ?_)
  · have hf := ifT hf c1
    exact Lj_A_perform_65_32_45 l E T hG  p0 p1 M hf
  · have hf := ifF hf c1
    refine rx_aload_n hG dX0_perform_9 0 rfl ?_
    refine gfX_A_9_65 l E T hG dX0_perform_10 ?_
    refine rx_iconst hG 1 dX0_perform_13 ic_1 ?_
    refine rx_aload_n hG dX0_perform_14 0 rfl ?_
    refine gfX_A_9_65 l E T hG dX0_perform_15 ?_
    refine rx_iconst hG 0 dX0_perform_18 ic_0 ?_
    refine rx_bipush hG 9 dX0_perform_19 bp_9 ?_
    obtain ⟨M2, hM2, hf⟩ := bindE hf
    refine rx_copy hG (skX66 T) (skX66 T) hM2 kw_A_20 ⟨Nat.le_of_ble_eq_true rfl, Nat.le_of_ble_eq_true rfl⟩ dX0_perform_21 ?_
    refine rx_aload_n hG dX0_perform_24 0 rfl ?_
    refine gfX_A_13_65 l E T hG dX0_perform_25 ?_
    refine rx_iconst hG 1 dX0_perform_28 ic_1 ?_
    refine rx_aload_n hG dX0_perform_29 0 rfl ?_
    refine gfX_A_13_65 l E T hG dX0_perform_30 ?_
    refine rx_iconst hG 0 dX0_perform_33 ic_0 ?_
    refine rx_bipush hG 9 dX0_perform_34 bp_9 ?_
    obtain ⟨M3, hM3, hf⟩ := bindE hf
    refine rx_copy hG (skX67 T) (skX67 T) hM3 kw_A_20 ⟨Nat.le_of_ble_eq_true rfl, Nat.le_of_ble_eq_true rfl⟩ dX0_perform_36 ?_
    refine rx_aload_n hG dX0_perform_39 0 rfl ?_
    refine rx_bipush hG 9 dX0_perform_40 bp_9 ?_
    obtain ⟨M4, hM4, hf⟩ := bindE hf
    refine pfX_A_16_65 l E T hG hM4 dX0_perform_42 ?_
    exact Lj_A_perform_65_32_45 l E T hG  p0 p1 M4 hf
set_option maxHeartbeats 4000000 in
set_option maxRecDepth 100000 in
theorem c_P_cards_0 (l : Launch) (E : En) (T : List Sk) (p0 : Int32) (p1 : Int32) (p2 : Int32) {M M' : Mm} {r : Int32} (h : f_P_cards_0 p0 p1 p2 M = some (r, M')) : Ct l (SKX ++ T) E yX9_cards cX9_cards 4 (some .int) 2 47 [.ref (adr E 0), .int p0, .int p1, .int p2] M (some (.int r)) M' := by
  refine ct_of (by decide) (Nat.le_of_ble_eq_true rfl) ?_
  intro G hG
  show G 0 [(0, .ref (adr E 0)), (1, .int p0), (2, .int p1), (3, .int p2)] [] M
  have hf := h
  unfold f_P_cards_0 at hf
  refine rx_aload_n hG dX9_cards_0 0 rfl ?_
  refine rx_iload_n hG dX9_cards_1 1 rfl ?_
  obtain ⟨v1, hv1, hf⟩ := bindE hf
  refine rx_cVi hG (c_P_isBench_0 l E T p0 hv1) (skX0 T) rfl rfl kw_P_150 ⟨Nat.le_of_ble_eq_true rfl, Nat.le_of_ble_eq_true rfl⟩ rfl (Nat.le_of_ble_eq_true rfl) dX9_cards_2 ?_
  refine rx_if_eq hG 16 dX9_cards_5 rfl (fun c2 => ?_) (fun c2 => ?_)
  · have hf := ifT hf c2
    refine rx_aload_n hG dX9_cards_16 0 rfl ?_
    refine rx_iconst hG 1 dX9_cards_17 ic_1 ?_
    obtain ⟨q3, hq3, hf⟩ := bindE hf
    refine rx_cVi hG (c_P_refused_0 l E T 1 hq3) (skX0 T) rfl rfl kw_P_79 ⟨Nat.le_of_ble_eq_true rfl, Nat.le_of_ble_eq_true rfl⟩ rfl (Nat.le_of_ble_eq_true rfl) dX9_cards_18 ?_
    cases hf
    exact rx_iret hG dX9_cards_21
  · have hf := ifF hf c2
    refine rx_aload_n hG dX9_cards_8 0 rfl ?_
    refine rx_iload_n hG dX9_cards_9 2 rfl ?_
    obtain ⟨v4, hv4, hf⟩ := bindE hf
    refine rx_cVi hG (c_P_isKind_0 l E T p1 hv4) (skX0 T) rfl rfl kw_P_167 ⟨Nat.le_of_ble_eq_true rfl, Nat.le_of_ble_eq_true rfl⟩ rfl (Nat.le_of_ble_eq_true rfl) dX9_cards_10 ?_
    refine rx_if_ne hG 22 dX9_cards_13 rfl (fun c5 => ?_) (fun c5 => ?_)
    · have hf := ifF hf c5
      refine rx_iload_n hG dX9_cards_22 3 rfl ?_
      refine rx_bipush hG 9 dX9_cards_23 bp_9 ?_
      obtain ⟨v6, hv6, hf⟩ := bindE hf
      refine rx_cSi hG (c_P_within l E (SKX ++ T) p2 9 hv6) kw_P_128 ⟨Nat.le_of_ble_eq_true rfl, Nat.le_of_ble_eq_true rfl⟩ rfl (Nat.le_of_ble_eq_true rfl) dX9_cards_25 ?_
      refine rx_if_ne hG 37 dX9_cards_28 rfl (fun c7 => ?_) (fun c7 => ?_)
      · have hf := ifF hf c7
        refine rx_aload_n hG dX9_cards_37 0 rfl ?_
        refine rx_aload_n hG dX9_cards_38 0 rfl ?_
        refine gfX_P_55_0 l E T hG dX9_cards_39 ?_
        refine rx_aload_n hG dX9_cards_42 0 rfl ?_
        refine gfX_P_32_0 l E T hG dX9_cards_43 ?_
        refine rx_iload_n hG dX9_cards_46 1 rfl ?_
        refine rx_iload_n hG dX9_cards_47 2 rfl ?_
        obtain ⟨v8, hv8, hf⟩ := bindE hf
        refine rx_cSi hG (c_P_cell l E (SKX ++ T) p0 p1 hv8) kw_P_173 ⟨Nat.le_of_ble_eq_true rfl, Nat.le_of_ble_eq_true rfl⟩ rfl (Nat.le_of_ble_eq_true rfl) dX9_cards_48 ?_
        refine rx_iload_n hG dX9_cards_51 3 rfl ?_
        obtain ⟨q9, hq9, hf⟩ := bindE hf
        refine rx_cVi hG (c_A_perform_65_32 l E T v8 p2 hq9) (skX65 T) rfl rfl kw_P_280 ⟨Nat.le_of_ble_eq_true rfl, Nat.le_of_ble_eq_true rfl⟩ rfl (Nat.le_of_ble_eq_true rfl) dX9_cards_52 ?_
        obtain ⟨q10, hq10, hf⟩ := bindE hf
        refine rx_cVi hG (c_P_granted_0 l E T q9.1 hq10) (skX0 T) rfl rfl kw_P_116 ⟨Nat.le_of_ble_eq_true rfl, Nat.le_of_ble_eq_true rfl⟩ rfl (Nat.le_of_ble_eq_true rfl) dX9_cards_55 ?_
        cases hf
        exact rx_iret hG dX9_cards_58
      · have hf := ifT hf c7
        refine rx_aload_n hG dX9_cards_31 0 rfl ?_
        refine rx_iconst hG 2 dX9_cards_32 ic_2 ?_
        obtain ⟨q11, hq11, hf⟩ := bindE hf
        refine rx_cVi hG (c_P_refused_0 l E T 2 hq11) (skX0 T) rfl rfl kw_P_79 ⟨Nat.le_of_ble_eq_true rfl, Nat.le_of_ble_eq_true rfl⟩ rfl (Nat.le_of_ble_eq_true rfl) dX9_cards_33 ?_
        cases hf
        exact rx_iret hG dX9_cards_36
    · have hf := ifT hf c5
      refine rx_aload_n hG dX9_cards_16 0 rfl ?_
      refine rx_iconst hG 1 dX9_cards_17 ic_1 ?_
      obtain ⟨q12, hq12, hf⟩ := bindE hf
      refine rx_cVi hG (c_P_refused_0 l E T 1 hq12) (skX0 T) rfl rfl kw_P_79 ⟨Nat.le_of_ble_eq_true rfl, Nat.le_of_ble_eq_true rfl⟩ rfl (Nat.le_of_ble_eq_true rfl) dX9_cards_18 ?_
      cases hf
      exact rx_iret hG dX9_cards_21
set_option maxHeartbeats 4000000 in
set_option maxRecDepth 100000 in
theorem c_P_time_0 (l : Launch) (E : En) (T : List Sk) (p0 : Int32) (p1 : Int32) (p2 : Int32) {M M' : Mm} {r : Int32} (h : f_P_time_0 p0 p1 p2 M = some (r, M')) : Ct l (SKX ++ T) E yX9_time cX9_time 4 (some .int) 2 47 [.ref (adr E 0), .int p0, .int p1, .int p2] M (some (.int r)) M' := by
  refine ct_of (by decide) (Nat.le_of_ble_eq_true rfl) ?_
  intro G hG
  show G 0 [(0, .ref (adr E 0)), (1, .int p0), (2, .int p1), (3, .int p2)] [] M
  have hf := h
  unfold f_P_time_0 at hf
  refine rx_aload_n hG dX9_time_0 0 rfl ?_
  refine rx_iload_n hG dX9_time_1 1 rfl ?_
  obtain ⟨v1, hv1, hf⟩ := bindE hf
  refine rx_cVi hG (c_P_isBench_0 l E T p0 hv1) (skX0 T) rfl rfl kw_P_150 ⟨Nat.le_of_ble_eq_true rfl, Nat.le_of_ble_eq_true rfl⟩ rfl (Nat.le_of_ble_eq_true rfl) dX9_time_2 ?_
  refine rx_if_eq hG 16 dX9_time_5 rfl (fun c2 => ?_) (fun c2 => ?_)
  · have hf := ifT hf c2
    refine rx_aload_n hG dX9_time_16 0 rfl ?_
    refine rx_iconst hG 1 dX9_time_17 ic_1 ?_
    obtain ⟨q3, hq3, hf⟩ := bindE hf
    refine rx_cVi hG (c_P_refused_0 l E T 1 hq3) (skX0 T) rfl rfl kw_P_79 ⟨Nat.le_of_ble_eq_true rfl, Nat.le_of_ble_eq_true rfl⟩ rfl (Nat.le_of_ble_eq_true rfl) dX9_time_18 ?_
    cases hf
    exact rx_iret hG dX9_time_21
  · have hf := ifF hf c2
    refine rx_aload_n hG dX9_time_8 0 rfl ?_
    refine rx_iload_n hG dX9_time_9 2 rfl ?_
    obtain ⟨v4, hv4, hf⟩ := bindE hf
    refine rx_cVi hG (c_P_isKind_0 l E T p1 hv4) (skX0 T) rfl rfl kw_P_167 ⟨Nat.le_of_ble_eq_true rfl, Nat.le_of_ble_eq_true rfl⟩ rfl (Nat.le_of_ble_eq_true rfl) dX9_time_10 ?_
    refine rx_if_ne hG 22 dX9_time_13 rfl (fun c5 => ?_) (fun c5 => ?_)
    · have hf := ifF hf c5
      refine rx_iload_n hG dX9_time_22 3 rfl ?_
      refine rx_iconst hG 1 dX9_time_23 ic_1 ?_
      refine rx_icmp_lt hG 33 dX9_time_24 rfl (fun c6 => ?_) (fun c6 => ?_)
      · have hf := ifT hf c6
        refine rx_aload_n hG dX9_time_33 0 rfl ?_
        refine rx_iconst hG 2 dX9_time_34 ic_2 ?_
        obtain ⟨q7, hq7, hf⟩ := bindE hf
        refine rx_cVi hG (c_P_refused_0 l E T 2 hq7) (skX0 T) rfl rfl kw_P_79 ⟨Nat.le_of_ble_eq_true rfl, Nat.le_of_ble_eq_true rfl⟩ rfl (Nat.le_of_ble_eq_true rfl) dX9_time_35 ?_
        cases hf
        exact rx_iret hG dX9_time_38
      · have hf := ifF hf c6
        refine rx_iload_n hG dX9_time_27 3 rfl ?_
        refine rx_bipush hG 60 dX9_time_28 bp_60 ?_
        refine rx_icmp_le hG 39 dX9_time_30 rfl (fun c8 => ?_) (fun c8 => ?_)
        · have hf := ifT hf c8
          refine rx_aload_n hG dX9_time_39 0 rfl ?_
          refine rx_aload_n hG dX9_time_40 0 rfl ?_
          refine gfX_P_55_0 l E T hG dX9_time_41 ?_
          refine rx_aload_n hG dX9_time_44 0 rfl ?_
          refine gfX_P_32_0 l E T hG dX9_time_45 ?_
          refine rx_bipush hG 18 dX9_time_48 bp_18 ?_
          refine rx_iload_n hG dX9_time_50 1 rfl ?_
          refine rx_iload_n hG dX9_time_51 2 rfl ?_
          obtain ⟨v9, hv9, hf⟩ := bindE hf
          refine rx_cSi hG (c_P_cell l E (SKX ++ T) p0 p1 hv9) kw_P_173 ⟨Nat.le_of_ble_eq_true rfl, Nat.le_of_ble_eq_true rfl⟩ rfl (Nat.le_of_ble_eq_true rfl) dX9_time_52 ?_
          refine rx_iadd hG dX9_time_55 ?_
          refine rx_iload_n hG dX9_time_56 3 rfl ?_
          obtain ⟨q10, hq10, hf⟩ := bindE hf
          refine rx_cVi hG (c_A_perform_65_32 l E T (18 + v9) p2 hq10) (skX65 T) rfl rfl kw_P_280 ⟨Nat.le_of_ble_eq_true rfl, Nat.le_of_ble_eq_true rfl⟩ rfl (Nat.le_of_ble_eq_true rfl) dX9_time_57 ?_
          obtain ⟨q11, hq11, hf⟩ := bindE hf
          refine rx_cVi hG (c_P_granted_0 l E T q10.1 hq11) (skX0 T) rfl rfl kw_P_116 ⟨Nat.le_of_ble_eq_true rfl, Nat.le_of_ble_eq_true rfl⟩ rfl (Nat.le_of_ble_eq_true rfl) dX9_time_60 ?_
          cases hf
          exact rx_iret hG dX9_time_63
        · have hf := ifF hf c8
          refine rx_aload_n hG dX9_time_33 0 rfl ?_
          refine rx_iconst hG 2 dX9_time_34 ic_2 ?_
          obtain ⟨q12, hq12, hf⟩ := bindE hf
          refine rx_cVi hG (c_P_refused_0 l E T 2 hq12) (skX0 T) rfl rfl kw_P_79 ⟨Nat.le_of_ble_eq_true rfl, Nat.le_of_ble_eq_true rfl⟩ rfl (Nat.le_of_ble_eq_true rfl) dX9_time_35 ?_
          cases hf
          exact rx_iret hG dX9_time_38
    · have hf := ifT hf c5
      refine rx_aload_n hG dX9_time_16 0 rfl ?_
      refine rx_iconst hG 1 dX9_time_17 ic_1 ?_
      obtain ⟨q13, hq13, hf⟩ := bindE hf
      refine rx_cVi hG (c_P_refused_0 l E T 1 hq13) (skX0 T) rfl rfl kw_P_79 ⟨Nat.le_of_ble_eq_true rfl, Nat.le_of_ble_eq_true rfl⟩ rfl (Nat.le_of_ble_eq_true rfl) dX9_time_18 ?_
      cases hf
      exact rx_iret hG dX9_time_21
set_option maxHeartbeats 4000000 in
set_option maxRecDepth 100000 in
theorem c_P_rule_0 (l : Launch) (E : En) (T : List Sk) (p0 : Int32) {M M' : Mm} {r : Int32} (h : f_P_rule_0 p0 M = some (r, M')) : Ct l (SKX ++ T) E yX9_rule cX9_rule 2 (some .int) 2 47 [.ref (adr E 0), .int p0] M (some (.int r)) M' := by
  refine ct_of (by decide) (Nat.le_of_ble_eq_true rfl) ?_
  intro G hG
  show G 0 [(0, .ref (adr E 0)), (1, .int p0)] [] M
  have hf := h
  unfold f_P_rule_0 at hf
  refine rx_aload_n hG dX9_rule_0 0 rfl ?_
  refine gfX_P_103_0 l E T hG dX9_rule_1 ?_
  refine rx_if_ne hG 13 dX9_rule_4 rfl (fun c1 => ?_) (fun c1 => ?_)
  · have hf := ifF hf c1
    refine rx_iload_n hG dX9_rule_13 1 rfl ?_
    refine rx_iconst hG 2 dX9_rule_14 ic_2 ?_
    obtain ⟨v2, hv2, hf⟩ := bindE hf
    refine rx_cSi hG (c_P_within l E (SKX ++ T) p0 2 hv2) kw_P_128 ⟨Nat.le_of_ble_eq_true rfl, Nat.le_of_ble_eq_true rfl⟩ rfl (Nat.le_of_ble_eq_true rfl) dX9_rule_15 ?_
    refine rx_if_ne hG 27 dX9_rule_18 rfl (fun c3 => ?_) (fun c3 => ?_)
    · have hf := ifF hf c3
      refine rx_aload_n hG dX9_rule_27 0 rfl ?_
      refine rx_aload_n hG dX9_rule_28 0 rfl ?_
      refine gfX_P_55_0 l E T hG dX9_rule_29 ?_
      refine rx_aload_n hG dX9_rule_32 0 rfl ?_
      refine gfX_P_32_0 l E T hG dX9_rule_33 ?_
      refine rx_bipush hG 36 dX9_rule_36 bp_36 ?_
      refine rx_iload_n hG dX9_rule_38 1 rfl ?_
      obtain ⟨q4, hq4, hf⟩ := bindE hf
      refine rx_cVi hG (c_A_perform_65_32 l E T 36 p0 hq4) (skX65 T) rfl rfl kw_P_280 ⟨Nat.le_of_ble_eq_true rfl, Nat.le_of_ble_eq_true rfl⟩ rfl (Nat.le_of_ble_eq_true rfl) dX9_rule_39 ?_
      obtain ⟨q5, hq5, hf⟩ := bindE hf
      refine rx_cVi hG (c_P_granted_0 l E T q4.1 hq5) (skX0 T) rfl rfl kw_P_116 ⟨Nat.le_of_ble_eq_true rfl, Nat.le_of_ble_eq_true rfl⟩ rfl (Nat.le_of_ble_eq_true rfl) dX9_rule_42 ?_
      cases hf
      exact rx_iret hG dX9_rule_45
    · have hf := ifT hf c3
      refine rx_aload_n hG dX9_rule_21 0 rfl ?_
      refine rx_iconst hG 2 dX9_rule_22 ic_2 ?_
      obtain ⟨q6, hq6, hf⟩ := bindE hf
      refine rx_cVi hG (c_P_refused_0 l E T 2 hq6) (skX0 T) rfl rfl kw_P_79 ⟨Nat.le_of_ble_eq_true rfl, Nat.le_of_ble_eq_true rfl⟩ rfl (Nat.le_of_ble_eq_true rfl) dX9_rule_23 ?_
      cases hf
      exact rx_iret hG dX9_rule_26
  · have hf := ifT hf c1
    refine rx_aload_n hG dX9_rule_7 0 rfl ?_
    refine rx_iconst hG 1 dX9_rule_8 ic_1 ?_
    obtain ⟨q7, hq7, hf⟩ := bindE hf
    refine rx_cVi hG (c_P_refused_0 l E T 1 hq7) (skX0 T) rfl rfl kw_P_79 ⟨Nat.le_of_ble_eq_true rfl, Nat.le_of_ble_eq_true rfl⟩ rfl (Nat.le_of_ble_eq_true rfl) dX9_rule_9 ?_
    cases hf
    exact rx_iret hG dX9_rule_12
set_option maxHeartbeats 4000000 in
set_option maxRecDepth 100000 in
theorem c_A_takeBack_65_32 (l : Launch) (E : En) (T : List Sk)  {M M' : Mm} (h : f_A_takeBack_65_32 M = some M') : Ct l (SKX ++ T) E yX0_takeBack cX0_takeBack 2 none 1 23 [.ref (adr E 65), .ref (adr E 32)] M none M' := by
  refine ct_of (by decide) (Nat.le_of_ble_eq_true rfl) ?_
  intro G hG
  show G 0 [(0, .ref (adr E 65)), (1, .ref (adr E 32))] [] M
  have hf := h
  unfold f_A_takeBack_65_32 at hf
  refine rx_aload_n hG dX0_takeBack_0 0 rfl ?_
  refine gfX_A_16_65 l E T hG dX0_takeBack_1 ?_
  refine rx_if_le hG 40 dX0_takeBack_4 rfl (fun c1 => ?_) (fun c1 => ?_)
  · have hf := ifT hf c1
    cases hf
    exact rx_vret hG dX0_takeBack_40
  · have hf := ifF hf c1
    refine rx_aload_n hG dX0_takeBack_7 0 rfl ?_
    refine rx_dup hG dX0_takeBack_8 rfl ?_
    refine gfX_A_16_65 l E T hG dX0_takeBack_9 ?_
    refine rx_iconst hG 1 dX0_takeBack_12 ic_1 ?_
    refine rx_isub hG dX0_takeBack_13 ?_
    obtain ⟨M2, hM2, hf⟩ := bindE hf
    refine pfX_A_16_65 l E T hG hM2 dX0_takeBack_14 ?_
    refine rx_aload_n hG dX0_takeBack_17 1 rfl ?_
    refine rx_aload_n hG dX0_takeBack_18 0 rfl ?_
    refine gfX_A_9_65 l E T hG dX0_takeBack_19 ?_
    refine rx_aload_n hG dX0_takeBack_22 0 rfl ?_
    refine gfX_A_16_65 l E T hG dX0_takeBack_23 ?_
    obtain ⟨v3, hv3, hf⟩ := bindE hf
    refine rx_iald hG (skX66 T) hv3 dX0_takeBack_26 ?_
    refine rx_aload_n hG dX0_takeBack_27 0 rfl ?_
    refine gfX_A_13_65 l E T hG dX0_takeBack_28 ?_
    refine rx_aload_n hG dX0_takeBack_31 0 rfl ?_
    refine gfX_A_16_65 l E T hG dX0_takeBack_32 ?_
    obtain ⟨v4, hv4, hf⟩ := bindE hf
    refine rx_iald hG (skX67 T) hv4 dX0_takeBack_35 ?_
    obtain ⟨q5, hq5, hf⟩ := bindE hf
    refine rx_cVi hG (c_V_turn_32 l E T v3 v4 hq5) (skX32 T) rfl rfl kw_A_26 ⟨Nat.le_of_ble_eq_true rfl, Nat.le_of_ble_eq_true rfl⟩ rfl (Nat.le_of_ble_eq_true rfl) dX0_takeBack_36 ?_
    refine rx_pop hG dX0_takeBack_39 rfl ?_
    cases hf
    exact rx_vret hG dX0_takeBack_40
set_option maxHeartbeats 4000000 in
set_option maxRecDepth 100000 in
theorem c_P_undo_0 (l : Launch) (E : En) (T : List Sk)  {M M' : Mm} {r : Int32} (h : f_P_undo_0 M = some (r, M')) : Ct l (SKX ++ T) E yX9_undo cX9_undo 1 (some .int) 2 44 [.ref (adr E 0)] M (some (.int r)) M' := by
  refine ct_of (by decide) (Nat.le_of_ble_eq_true rfl) ?_
  intro G hG
  show G 0 [(0, .ref (adr E 0))] [] M
  have hf := h
  unfold f_P_undo_0 at hf
  refine rx_aload_n hG dX9_undo_0 0 rfl ?_
  refine gfX_P_103_0 l E T hG dX9_undo_1 ?_
  refine rx_if_ne hG 13 dX9_undo_4 rfl (fun c1 => ?_) (fun c1 => ?_)
  · have hf := ifF hf c1
    refine rx_aload_n hG dX9_undo_13 0 rfl ?_
    refine gfX_P_55_0 l E T hG dX9_undo_14 ?_
    refine gfX_P_119_65 l E T hG dX9_undo_17 ?_
    refine rx_if_ne hG 29 dX9_undo_20 rfl (fun c2 => ?_) (fun c2 => ?_)
    · have hf := ifF hf c2
      refine rx_aload_n hG dX9_undo_29 0 rfl ?_
      refine gfX_P_55_0 l E T hG dX9_undo_30 ?_
      refine rx_aload_n hG dX9_undo_33 0 rfl ?_
      refine gfX_P_32_0 l E T hG dX9_undo_34 ?_
      obtain ⟨M3, hM3, hf⟩ := bindE hf
      refine rx_cVv hG (c_A_takeBack_65_32 l E T  hM3) (skX65 T) rfl rfl kw_P_284 ⟨Nat.le_of_ble_eq_true rfl, Nat.le_of_ble_eq_true rfl⟩ rfl (Nat.le_of_ble_eq_true rfl) dX9_undo_37 ?_
      refine rx_aload_n hG dX9_undo_40 0 rfl ?_
      refine rx_aload_n hG dX9_undo_41 0 rfl ?_
      refine gfX_P_55_0 l E T hG dX9_undo_42 ?_
      refine gfX_P_119_65 l E T hG dX9_undo_45 ?_
      obtain ⟨q4, hq4, hf⟩ := bindE hf
      refine rx_cVi hG (c_P_granted_0 l E T (M3.1 65 2) hq4) (skX0 T) rfl rfl kw_P_116 ⟨Nat.le_of_ble_eq_true rfl, Nat.le_of_ble_eq_true rfl⟩ rfl (Nat.le_of_ble_eq_true rfl) dX9_undo_48 ?_
      cases hf
      exact rx_iret hG dX9_undo_51
    · have hf := ifT hf c2
      refine rx_aload_n hG dX9_undo_23 0 rfl ?_
      refine rx_iconst hG 5 dX9_undo_24 ic_5 ?_
      obtain ⟨q5, hq5, hf⟩ := bindE hf
      refine rx_cVi hG (c_P_refused_0 l E T 5 hq5) (skX0 T) rfl rfl kw_P_79 ⟨Nat.le_of_ble_eq_true rfl, Nat.le_of_ble_eq_true rfl⟩ rfl (Nat.le_of_ble_eq_true rfl) dX9_undo_25 ?_
      cases hf
      exact rx_iret hG dX9_undo_28
  · have hf := ifT hf c1
    refine rx_aload_n hG dX9_undo_7 0 rfl ?_
    refine rx_iconst hG 1 dX9_undo_8 ic_1 ?_
    obtain ⟨q6, hq6, hf⟩ := bindE hf
    refine rx_cVi hG (c_P_refused_0 l E T 1 hq6) (skX0 T) rfl rfl kw_P_79 ⟨Nat.le_of_ble_eq_true rfl, Nat.le_of_ble_eq_true rfl⟩ rfl (Nat.le_of_ble_eq_true rfl) dX9_undo_9 ?_
    cases hf
    exact rx_iret hG dX9_undo_12
set_option maxHeartbeats 4000000 in
set_option maxRecDepth 100000 in
theorem c_L_copy_73_35 (l : Launch) (E : En) (T : List Sk)  {M M' : Mm} (h : f_L_copy_73_35 M = some M') : Ct l (SKX ++ T) E yX3_copy cX3_copy 2 none 1 18 [.ref (adr E 73), .ref (adr E 35)] M none M' := by
  refine ct_of (by decide) (Nat.le_of_ble_eq_true rfl) ?_
  intro G hG
  show G 0 [(0, .ref (adr E 73)), (1, .ref (adr E 35))] [] M
  have hf := h
  unfold f_L_copy_73_35 at hf
  refine rx_aload_n hG dX3_copy_0 1 rfl ?_
  refine gfX_L_9_35 l E T hG dX3_copy_1 ?_
  refine rx_iconst hG 0 dX3_copy_4 ic_0 ?_
  refine rx_aload_n hG dX3_copy_5 0 rfl ?_
  refine gfX_L_9_73 l E T hG dX3_copy_6 ?_
  refine rx_iconst hG 0 dX3_copy_9 ic_0 ?_
  refine rx_bipush hG 18 dX3_copy_10 bp_18 ?_
  obtain ⟨M1, hM1, hf⟩ := bindE hf
  refine rx_copy hG (skX36 T) (skX74 T) hM1 kw_L_67 ⟨Nat.le_of_ble_eq_true rfl, Nat.le_of_ble_eq_true rfl⟩ dX3_copy_12 ?_
  refine rx_aload_n hG dX3_copy_15 1 rfl ?_
  refine gfX_L_15_35 l E T hG dX3_copy_16 ?_
  refine rx_iconst hG 0 dX3_copy_19 ic_0 ?_
  refine rx_aload_n hG dX3_copy_20 0 rfl ?_
  refine gfX_L_15_73 l E T hG dX3_copy_21 ?_
  refine rx_iconst hG 0 dX3_copy_24 ic_0 ?_
  refine rx_bipush hG 18 dX3_copy_25 bp_18 ?_
  obtain ⟨M2, hM2, hf⟩ := bindE hf
  refine rx_copy hG (skX37 T) (skX75 T) hM2 kw_L_67 ⟨Nat.le_of_ble_eq_true rfl, Nat.le_of_ble_eq_true rfl⟩ dX3_copy_27 ?_
  refine rx_aload_n hG dX3_copy_30 1 rfl ?_
  refine gfX_L_18_35 l E T hG dX3_copy_31 ?_
  refine rx_iconst hG 0 dX3_copy_34 ic_0 ?_
  refine rx_aload_n hG dX3_copy_35 0 rfl ?_
  refine gfX_L_18_73 l E T hG dX3_copy_36 ?_
  refine rx_iconst hG 0 dX3_copy_39 ic_0 ?_
  refine rx_bipush hG 6 dX3_copy_40 bp_6 ?_
  obtain ⟨M3, hM3, hf⟩ := bindE hf
  refine rx_copy hG (skX38 T) (skX76 T) hM3 kw_L_67 ⟨Nat.le_of_ble_eq_true rfl, Nat.le_of_ble_eq_true rfl⟩ dX3_copy_42 ?_
  refine rx_aload_n hG dX3_copy_45 1 rfl ?_
  refine gfX_L_21_35 l E T hG dX3_copy_46 ?_
  refine rx_iconst hG 0 dX3_copy_49 ic_0 ?_
  refine rx_aload_n hG dX3_copy_50 0 rfl ?_
  refine gfX_L_21_73 l E T hG dX3_copy_51 ?_
  refine rx_iconst hG 0 dX3_copy_54 ic_0 ?_
  refine rx_bipush hG 6 dX3_copy_55 bp_6 ?_
  obtain ⟨M4, hM4, hf⟩ := bindE hf
  refine rx_copy hG (skX39 T) (skX77 T) hM4 kw_L_67 ⟨Nat.le_of_ble_eq_true rfl, Nat.le_of_ble_eq_true rfl⟩ dX3_copy_57 ?_
  refine rx_aload_n hG dX3_copy_60 1 rfl ?_
  refine gfX_L_24_35 l E T hG dX3_copy_61 ?_
  refine rx_iconst hG 0 dX3_copy_64 ic_0 ?_
  refine rx_aload_n hG dX3_copy_65 0 rfl ?_
  refine gfX_L_24_73 l E T hG dX3_copy_66 ?_
  refine rx_iconst hG 0 dX3_copy_69 ic_0 ?_
  refine rx_bipush hG 6 dX3_copy_70 bp_6 ?_
  obtain ⟨M5, hM5, hf⟩ := bindE hf
  refine rx_copy hG (skX40 T) (skX78 T) hM5 kw_L_67 ⟨Nat.le_of_ble_eq_true rfl, Nat.le_of_ble_eq_true rfl⟩ dX3_copy_72 ?_
  refine rx_aload_n hG dX3_copy_75 1 rfl ?_
  refine gfX_L_27_35 l E T hG dX3_copy_76 ?_
  refine rx_iconst hG 0 dX3_copy_79 ic_0 ?_
  refine rx_aload_n hG dX3_copy_80 0 rfl ?_
  refine gfX_L_27_73 l E T hG dX3_copy_81 ?_
  refine rx_iconst hG 0 dX3_copy_84 ic_0 ?_
  refine rx_bipush hG 6 dX3_copy_85 bp_6 ?_
  obtain ⟨M6, hM6, hf⟩ := bindE hf
  refine rx_copy hG (skX41 T) (skX79 T) hM6 kw_L_67 ⟨Nat.le_of_ble_eq_true rfl, Nat.le_of_ble_eq_true rfl⟩ dX3_copy_87 ?_
  refine rx_aload_n hG dX3_copy_90 1 rfl ?_
  refine gfX_L_30_35 l E T hG dX3_copy_91 ?_
  refine rx_iconst hG 0 dX3_copy_94 ic_0 ?_
  refine rx_aload_n hG dX3_copy_95 0 rfl ?_
  refine gfX_L_30_73 l E T hG dX3_copy_96 ?_
  refine rx_iconst hG 0 dX3_copy_99 ic_0 ?_
  refine rx_bipush hG 24 dX3_copy_100 bp_24 ?_
  obtain ⟨M7, hM7, hf⟩ := bindE hf
  refine rx_copy hG (skX42 T) (skX80 T) hM7 kw_L_67 ⟨Nat.le_of_ble_eq_true rfl, Nat.le_of_ble_eq_true rfl⟩ dX3_copy_102 ?_
  refine rx_aload_n hG dX3_copy_105 1 rfl ?_
  refine gfX_L_33_35 l E T hG dX3_copy_106 ?_
  refine rx_iconst hG 0 dX3_copy_109 ic_0 ?_
  refine rx_aload_n hG dX3_copy_110 0 rfl ?_
  refine gfX_L_33_73 l E T hG dX3_copy_111 ?_
  refine rx_iconst hG 0 dX3_copy_114 ic_0 ?_
  refine rx_bipush hG 6 dX3_copy_115 bp_6 ?_
  obtain ⟨M8, hM8, hf⟩ := bindE hf
  refine rx_copy hG (skX43 T) (skX81 T) hM8 kw_L_67 ⟨Nat.le_of_ble_eq_true rfl, Nat.le_of_ble_eq_true rfl⟩ dX3_copy_117 ?_
  refine rx_aload_n hG dX3_copy_120 1 rfl ?_
  refine gfX_L_36_35 l E T hG dX3_copy_121 ?_
  refine rx_iconst hG 0 dX3_copy_124 ic_0 ?_
  refine rx_aload_n hG dX3_copy_125 0 rfl ?_
  refine gfX_L_36_73 l E T hG dX3_copy_126 ?_
  refine rx_iconst hG 0 dX3_copy_129 ic_0 ?_
  refine rx_iconst hG 3 dX3_copy_130 ic_3 ?_
  obtain ⟨M9, hM9, hf⟩ := bindE hf
  refine rx_copy hG (skX44 T) (skX82 T) hM9 kw_L_67 ⟨Nat.le_of_ble_eq_true rfl, Nat.le_of_ble_eq_true rfl⟩ dX3_copy_131 ?_
  refine rx_aload_n hG dX3_copy_134 1 rfl ?_
  refine gfX_L_39_35 l E T hG dX3_copy_135 ?_
  refine rx_iconst hG 0 dX3_copy_138 ic_0 ?_
  refine rx_aload_n hG dX3_copy_139 0 rfl ?_
  refine gfX_L_39_73 l E T hG dX3_copy_140 ?_
  refine rx_iconst hG 0 dX3_copy_143 ic_0 ?_
  refine rx_iconst hG 3 dX3_copy_144 ic_3 ?_
  obtain ⟨M10, hM10, hf⟩ := bindE hf
  refine rx_copy hG (skX45 T) (skX83 T) hM10 kw_L_67 ⟨Nat.le_of_ble_eq_true rfl, Nat.le_of_ble_eq_true rfl⟩ dX3_copy_145 ?_
  refine rx_aload_n hG dX3_copy_148 1 rfl ?_
  refine gfX_L_42_35 l E T hG dX3_copy_149 ?_
  refine rx_iconst hG 0 dX3_copy_152 ic_0 ?_
  refine rx_aload_n hG dX3_copy_153 0 rfl ?_
  refine gfX_L_42_73 l E T hG dX3_copy_154 ?_
  refine rx_iconst hG 0 dX3_copy_157 ic_0 ?_
  refine rx_iconst hG 3 dX3_copy_158 ic_3 ?_
  obtain ⟨M11, hM11, hf⟩ := bindE hf
  refine rx_copy hG (skX46 T) (skX84 T) hM11 kw_L_67 ⟨Nat.le_of_ble_eq_true rfl, Nat.le_of_ble_eq_true rfl⟩ dX3_copy_159 ?_
  refine rx_aload_n hG dX3_copy_162 1 rfl ?_
  refine gfX_L_45_35 l E T hG dX3_copy_163 ?_
  refine rx_iconst hG 0 dX3_copy_166 ic_0 ?_
  refine rx_aload_n hG dX3_copy_167 0 rfl ?_
  refine gfX_L_45_73 l E T hG dX3_copy_168 ?_
  refine rx_iconst hG 0 dX3_copy_171 ic_0 ?_
  refine rx_iconst hG 3 dX3_copy_172 ic_3 ?_
  obtain ⟨M12, hM12, hf⟩ := bindE hf
  refine rx_copy hG (skX47 T) (skX85 T) hM12 kw_L_67 ⟨Nat.le_of_ble_eq_true rfl, Nat.le_of_ble_eq_true rfl⟩ dX3_copy_173 ?_
  refine rx_aload_n hG dX3_copy_176 0 rfl ?_
  refine rx_aload_n hG dX3_copy_177 1 rfl ?_
  refine gfX_L_73_35 l E T hG dX3_copy_178 ?_
  obtain ⟨M13, hM13, hf⟩ := bindE hf
  refine pfX_L_73_73 l E T hG hM13 dX3_copy_181 ?_
  refine rx_aload_n hG dX3_copy_184 0 rfl ?_
  refine rx_aload_n hG dX3_copy_185 1 rfl ?_
  refine gfX_L_77_35 l E T hG dX3_copy_186 ?_
  obtain ⟨M14, hM14, hf⟩ := bindE hf
  refine pfX_L_77_73 l E T hG hM14 dX3_copy_189 ?_
  refine rx_aload_n hG dX3_copy_192 0 rfl ?_
  refine rx_aload_n hG dX3_copy_193 1 rfl ?_
  refine gfX_L_80_35 l E T hG dX3_copy_194 ?_
  obtain ⟨M15, hM15, hf⟩ := bindE hf
  refine pfX_L_80_73 l E T hG hM15 dX3_copy_197 ?_
  refine rx_aload_n hG dX3_copy_200 0 rfl ?_
  refine rx_aload_n hG dX3_copy_201 1 rfl ?_
  refine gfX_L_83_35 l E T hG dX3_copy_202 ?_
  obtain ⟨M16, hM16, hf⟩ := bindE hf
  refine pfX_L_83_73 l E T hG hM16 dX3_copy_205 ?_
  cases hf
  exact rx_vret hG dX3_copy_208
set_option maxHeartbeats 4000000 in
set_option maxRecDepth 100000 in
theorem c_V_copy_70_32 (l : Launch) (E : En) (T : List Sk)  {M M' : Mm} (h : f_V_copy_70_32 M = some M') : Ct l (SKX ++ T) E yX2_copy cX2_copy 2 none 1 18 [.ref (adr E 70), .ref (adr E 32)] M none M' := by
  refine ct_of (by decide) (Nat.le_of_ble_eq_true rfl) ?_
  intro G hG
  show G 0 [(0, .ref (adr E 70)), (1, .ref (adr E 32))] [] M
  have hf := h
  unfold f_V_copy_70_32 at hf
  refine rx_aload_n hG dX2_copy_0 1 rfl ?_
  refine gfX_V_9_32 l E T hG dX2_copy_1 ?_
  refine rx_iconst hG 0 dX2_copy_4 ic_0 ?_
  refine rx_aload_n hG dX2_copy_5 0 rfl ?_
  refine gfX_V_9_70 l E T hG dX2_copy_6 ?_
  refine rx_iconst hG 0 dX2_copy_9 ic_0 ?_
  refine rx_bipush hG 18 dX2_copy_10 bp_18 ?_
  obtain ⟨M1, hM1, hf⟩ := bindE hf
  refine rx_copy hG (skX33 T) (skX71 T) hM1 kw_V_28 ⟨Nat.le_of_ble_eq_true rfl, Nat.le_of_ble_eq_true rfl⟩ dX2_copy_12 ?_
  refine rx_aload_n hG dX2_copy_15 1 rfl ?_
  refine gfX_V_15_32 l E T hG dX2_copy_16 ?_
  refine rx_iconst hG 0 dX2_copy_19 ic_0 ?_
  refine rx_aload_n hG dX2_copy_20 0 rfl ?_
  refine gfX_V_15_70 l E T hG dX2_copy_21 ?_
  refine rx_iconst hG 0 dX2_copy_24 ic_0 ?_
  refine rx_bipush hG 18 dX2_copy_25 bp_18 ?_
  obtain ⟨M2, hM2, hf⟩ := bindE hf
  refine rx_copy hG (skX34 T) (skX72 T) hM2 kw_V_28 ⟨Nat.le_of_ble_eq_true rfl, Nat.le_of_ble_eq_true rfl⟩ dX2_copy_27 ?_
  refine rx_aload_n hG dX2_copy_30 0 rfl ?_
  refine rx_aload_n hG dX2_copy_31 1 rfl ?_
  refine gfX_V_24_32 l E T hG dX2_copy_32 ?_
  obtain ⟨M3, hM3, hf⟩ := bindE hf
  refine pfX_V_24_70 l E T hG hM3 dX2_copy_35 ?_
  cases hf
  exact rx_vret hG dX2_copy_38
set_option maxHeartbeats 4000000 in
set_option maxRecDepth 100000 in
theorem c_L_copy_90_35 (l : Launch) (E : En) (T : List Sk)  {M M' : Mm} (h : f_L_copy_90_35 M = some M') : Ct l (SKX ++ T) E yX3_copy cX3_copy 2 none 1 18 [.ref (adr E 90), .ref (adr E 35)] M none M' := by
  refine ct_of (by decide) (Nat.le_of_ble_eq_true rfl) ?_
  intro G hG
  show G 0 [(0, .ref (adr E 90)), (1, .ref (adr E 35))] [] M
  have hf := h
  unfold f_L_copy_90_35 at hf
  refine rx_aload_n hG dX3_copy_0 1 rfl ?_
  refine gfX_L_9_35 l E T hG dX3_copy_1 ?_
  refine rx_iconst hG 0 dX3_copy_4 ic_0 ?_
  refine rx_aload_n hG dX3_copy_5 0 rfl ?_
  refine gfX_L_9_90 l E T hG dX3_copy_6 ?_
  refine rx_iconst hG 0 dX3_copy_9 ic_0 ?_
  refine rx_bipush hG 18 dX3_copy_10 bp_18 ?_
  obtain ⟨M1, hM1, hf⟩ := bindE hf
  refine rx_copy hG (skX36 T) (skX91 T) hM1 kw_L_67 ⟨Nat.le_of_ble_eq_true rfl, Nat.le_of_ble_eq_true rfl⟩ dX3_copy_12 ?_
  refine rx_aload_n hG dX3_copy_15 1 rfl ?_
  refine gfX_L_15_35 l E T hG dX3_copy_16 ?_
  refine rx_iconst hG 0 dX3_copy_19 ic_0 ?_
  refine rx_aload_n hG dX3_copy_20 0 rfl ?_
  refine gfX_L_15_90 l E T hG dX3_copy_21 ?_
  refine rx_iconst hG 0 dX3_copy_24 ic_0 ?_
  refine rx_bipush hG 18 dX3_copy_25 bp_18 ?_
  obtain ⟨M2, hM2, hf⟩ := bindE hf
  refine rx_copy hG (skX37 T) (skX92 T) hM2 kw_L_67 ⟨Nat.le_of_ble_eq_true rfl, Nat.le_of_ble_eq_true rfl⟩ dX3_copy_27 ?_
  refine rx_aload_n hG dX3_copy_30 1 rfl ?_
  refine gfX_L_18_35 l E T hG dX3_copy_31 ?_
  refine rx_iconst hG 0 dX3_copy_34 ic_0 ?_
  refine rx_aload_n hG dX3_copy_35 0 rfl ?_
  refine gfX_L_18_90 l E T hG dX3_copy_36 ?_
  refine rx_iconst hG 0 dX3_copy_39 ic_0 ?_
  refine rx_bipush hG 6 dX3_copy_40 bp_6 ?_
  obtain ⟨M3, hM3, hf⟩ := bindE hf
  refine rx_copy hG (skX38 T) (skX93 T) hM3 kw_L_67 ⟨Nat.le_of_ble_eq_true rfl, Nat.le_of_ble_eq_true rfl⟩ dX3_copy_42 ?_
  refine rx_aload_n hG dX3_copy_45 1 rfl ?_
  refine gfX_L_21_35 l E T hG dX3_copy_46 ?_
  refine rx_iconst hG 0 dX3_copy_49 ic_0 ?_
  refine rx_aload_n hG dX3_copy_50 0 rfl ?_
  refine gfX_L_21_90 l E T hG dX3_copy_51 ?_
  refine rx_iconst hG 0 dX3_copy_54 ic_0 ?_
  refine rx_bipush hG 6 dX3_copy_55 bp_6 ?_
  obtain ⟨M4, hM4, hf⟩ := bindE hf
  refine rx_copy hG (skX39 T) (skX94 T) hM4 kw_L_67 ⟨Nat.le_of_ble_eq_true rfl, Nat.le_of_ble_eq_true rfl⟩ dX3_copy_57 ?_
  refine rx_aload_n hG dX3_copy_60 1 rfl ?_
  refine gfX_L_24_35 l E T hG dX3_copy_61 ?_
  refine rx_iconst hG 0 dX3_copy_64 ic_0 ?_
  refine rx_aload_n hG dX3_copy_65 0 rfl ?_
  refine gfX_L_24_90 l E T hG dX3_copy_66 ?_
  refine rx_iconst hG 0 dX3_copy_69 ic_0 ?_
  refine rx_bipush hG 6 dX3_copy_70 bp_6 ?_
  obtain ⟨M5, hM5, hf⟩ := bindE hf
  refine rx_copy hG (skX40 T) (skX95 T) hM5 kw_L_67 ⟨Nat.le_of_ble_eq_true rfl, Nat.le_of_ble_eq_true rfl⟩ dX3_copy_72 ?_
  refine rx_aload_n hG dX3_copy_75 1 rfl ?_
  refine gfX_L_27_35 l E T hG dX3_copy_76 ?_
  refine rx_iconst hG 0 dX3_copy_79 ic_0 ?_
  refine rx_aload_n hG dX3_copy_80 0 rfl ?_
  refine gfX_L_27_90 l E T hG dX3_copy_81 ?_
  refine rx_iconst hG 0 dX3_copy_84 ic_0 ?_
  refine rx_bipush hG 6 dX3_copy_85 bp_6 ?_
  obtain ⟨M6, hM6, hf⟩ := bindE hf
  refine rx_copy hG (skX41 T) (skX96 T) hM6 kw_L_67 ⟨Nat.le_of_ble_eq_true rfl, Nat.le_of_ble_eq_true rfl⟩ dX3_copy_87 ?_
  refine rx_aload_n hG dX3_copy_90 1 rfl ?_
  refine gfX_L_30_35 l E T hG dX3_copy_91 ?_
  refine rx_iconst hG 0 dX3_copy_94 ic_0 ?_
  refine rx_aload_n hG dX3_copy_95 0 rfl ?_
  refine gfX_L_30_90 l E T hG dX3_copy_96 ?_
  refine rx_iconst hG 0 dX3_copy_99 ic_0 ?_
  refine rx_bipush hG 24 dX3_copy_100 bp_24 ?_
  obtain ⟨M7, hM7, hf⟩ := bindE hf
  refine rx_copy hG (skX42 T) (skX97 T) hM7 kw_L_67 ⟨Nat.le_of_ble_eq_true rfl, Nat.le_of_ble_eq_true rfl⟩ dX3_copy_102 ?_
  refine rx_aload_n hG dX3_copy_105 1 rfl ?_
  refine gfX_L_33_35 l E T hG dX3_copy_106 ?_
  refine rx_iconst hG 0 dX3_copy_109 ic_0 ?_
  refine rx_aload_n hG dX3_copy_110 0 rfl ?_
  refine gfX_L_33_90 l E T hG dX3_copy_111 ?_
  refine rx_iconst hG 0 dX3_copy_114 ic_0 ?_
  refine rx_bipush hG 6 dX3_copy_115 bp_6 ?_
  obtain ⟨M8, hM8, hf⟩ := bindE hf
  refine rx_copy hG (skX43 T) (skX98 T) hM8 kw_L_67 ⟨Nat.le_of_ble_eq_true rfl, Nat.le_of_ble_eq_true rfl⟩ dX3_copy_117 ?_
  refine rx_aload_n hG dX3_copy_120 1 rfl ?_
  refine gfX_L_36_35 l E T hG dX3_copy_121 ?_
  refine rx_iconst hG 0 dX3_copy_124 ic_0 ?_
  refine rx_aload_n hG dX3_copy_125 0 rfl ?_
  refine gfX_L_36_90 l E T hG dX3_copy_126 ?_
  refine rx_iconst hG 0 dX3_copy_129 ic_0 ?_
  refine rx_iconst hG 3 dX3_copy_130 ic_3 ?_
  obtain ⟨M9, hM9, hf⟩ := bindE hf
  refine rx_copy hG (skX44 T) (skX99 T) hM9 kw_L_67 ⟨Nat.le_of_ble_eq_true rfl, Nat.le_of_ble_eq_true rfl⟩ dX3_copy_131 ?_
  refine rx_aload_n hG dX3_copy_134 1 rfl ?_
  refine gfX_L_39_35 l E T hG dX3_copy_135 ?_
  refine rx_iconst hG 0 dX3_copy_138 ic_0 ?_
  refine rx_aload_n hG dX3_copy_139 0 rfl ?_
  refine gfX_L_39_90 l E T hG dX3_copy_140 ?_
  refine rx_iconst hG 0 dX3_copy_143 ic_0 ?_
  refine rx_iconst hG 3 dX3_copy_144 ic_3 ?_
  obtain ⟨M10, hM10, hf⟩ := bindE hf
  refine rx_copy hG (skX45 T) (skX100 T) hM10 kw_L_67 ⟨Nat.le_of_ble_eq_true rfl, Nat.le_of_ble_eq_true rfl⟩ dX3_copy_145 ?_
  refine rx_aload_n hG dX3_copy_148 1 rfl ?_
  refine gfX_L_42_35 l E T hG dX3_copy_149 ?_
  refine rx_iconst hG 0 dX3_copy_152 ic_0 ?_
  refine rx_aload_n hG dX3_copy_153 0 rfl ?_
  refine gfX_L_42_90 l E T hG dX3_copy_154 ?_
  refine rx_iconst hG 0 dX3_copy_157 ic_0 ?_
  refine rx_iconst hG 3 dX3_copy_158 ic_3 ?_
  obtain ⟨M11, hM11, hf⟩ := bindE hf
  refine rx_copy hG (skX46 T) (skX101 T) hM11 kw_L_67 ⟨Nat.le_of_ble_eq_true rfl, Nat.le_of_ble_eq_true rfl⟩ dX3_copy_159 ?_
  refine rx_aload_n hG dX3_copy_162 1 rfl ?_
  refine gfX_L_45_35 l E T hG dX3_copy_163 ?_
  refine rx_iconst hG 0 dX3_copy_166 ic_0 ?_
  refine rx_aload_n hG dX3_copy_167 0 rfl ?_
  refine gfX_L_45_90 l E T hG dX3_copy_168 ?_
  refine rx_iconst hG 0 dX3_copy_171 ic_0 ?_
  refine rx_iconst hG 3 dX3_copy_172 ic_3 ?_
  obtain ⟨M12, hM12, hf⟩ := bindE hf
  refine rx_copy hG (skX47 T) (skX102 T) hM12 kw_L_67 ⟨Nat.le_of_ble_eq_true rfl, Nat.le_of_ble_eq_true rfl⟩ dX3_copy_173 ?_
  refine rx_aload_n hG dX3_copy_176 0 rfl ?_
  refine rx_aload_n hG dX3_copy_177 1 rfl ?_
  refine gfX_L_73_35 l E T hG dX3_copy_178 ?_
  obtain ⟨M13, hM13, hf⟩ := bindE hf
  refine pfX_L_73_90 l E T hG hM13 dX3_copy_181 ?_
  refine rx_aload_n hG dX3_copy_184 0 rfl ?_
  refine rx_aload_n hG dX3_copy_185 1 rfl ?_
  refine gfX_L_77_35 l E T hG dX3_copy_186 ?_
  obtain ⟨M14, hM14, hf⟩ := bindE hf
  refine pfX_L_77_90 l E T hG hM14 dX3_copy_189 ?_
  refine rx_aload_n hG dX3_copy_192 0 rfl ?_
  refine rx_aload_n hG dX3_copy_193 1 rfl ?_
  refine gfX_L_80_35 l E T hG dX3_copy_194 ?_
  obtain ⟨M15, hM15, hf⟩ := bindE hf
  refine pfX_L_80_90 l E T hG hM15 dX3_copy_197 ?_
  refine rx_aload_n hG dX3_copy_200 0 rfl ?_
  refine rx_aload_n hG dX3_copy_201 1 rfl ?_
  refine gfX_L_83_35 l E T hG dX3_copy_202 ?_
  obtain ⟨M16, hM16, hf⟩ := bindE hf
  refine pfX_L_83_90 l E T hG hM16 dX3_copy_205 ?_
  cases hf
  exact rx_vret hG dX3_copy_208
set_option maxHeartbeats 4000000 in
set_option maxRecDepth 100000 in
theorem c_V_copy_87_32 (l : Launch) (E : En) (T : List Sk)  {M M' : Mm} (h : f_V_copy_87_32 M = some M') : Ct l (SKX ++ T) E yX2_copy cX2_copy 2 none 1 18 [.ref (adr E 87), .ref (adr E 32)] M none M' := by
  refine ct_of (by decide) (Nat.le_of_ble_eq_true rfl) ?_
  intro G hG
  show G 0 [(0, .ref (adr E 87)), (1, .ref (adr E 32))] [] M
  have hf := h
  unfold f_V_copy_87_32 at hf
  refine rx_aload_n hG dX2_copy_0 1 rfl ?_
  refine gfX_V_9_32 l E T hG dX2_copy_1 ?_
  refine rx_iconst hG 0 dX2_copy_4 ic_0 ?_
  refine rx_aload_n hG dX2_copy_5 0 rfl ?_
  refine gfX_V_9_87 l E T hG dX2_copy_6 ?_
  refine rx_iconst hG 0 dX2_copy_9 ic_0 ?_
  refine rx_bipush hG 18 dX2_copy_10 bp_18 ?_
  obtain ⟨M1, hM1, hf⟩ := bindE hf
  refine rx_copy hG (skX33 T) (skX88 T) hM1 kw_V_28 ⟨Nat.le_of_ble_eq_true rfl, Nat.le_of_ble_eq_true rfl⟩ dX2_copy_12 ?_
  refine rx_aload_n hG dX2_copy_15 1 rfl ?_
  refine gfX_V_15_32 l E T hG dX2_copy_16 ?_
  refine rx_iconst hG 0 dX2_copy_19 ic_0 ?_
  refine rx_aload_n hG dX2_copy_20 0 rfl ?_
  refine gfX_V_15_87 l E T hG dX2_copy_21 ?_
  refine rx_iconst hG 0 dX2_copy_24 ic_0 ?_
  refine rx_bipush hG 18 dX2_copy_25 bp_18 ?_
  obtain ⟨M2, hM2, hf⟩ := bindE hf
  refine rx_copy hG (skX34 T) (skX89 T) hM2 kw_V_28 ⟨Nat.le_of_ble_eq_true rfl, Nat.le_of_ble_eq_true rfl⟩ dX2_copy_27 ?_
  refine rx_aload_n hG dX2_copy_30 0 rfl ?_
  refine rx_aload_n hG dX2_copy_31 1 rfl ?_
  refine gfX_V_24_32 l E T hG dX2_copy_32 ?_
  obtain ⟨M3, hM3, hf⟩ := bindE hf
  refine pfX_V_24_87 l E T hG hM3 dX2_copy_35 ?_
  cases hf
  exact rx_vret hG dX2_copy_38
set_option maxHeartbeats 4000000 in
set_option maxRecDepth 100000 in
theorem c_P_keep_0 (l : Launch) (E : En) (T : List Sk) (p0 : Int32) {M M' : Mm} {r : Int32} (h : f_P_keep_0 p0 M = some (r, M')) : Ct l (SKX ++ T) E yX9_keep cX9_keep 3 (some .boolean) 2 39 [.ref (adr E 0), .int p0] M (some (.int r)) M' := by
  refine ct_of (by decide) (Nat.le_of_ble_eq_true rfl) ?_
  intro G hG
  show G 0 [(0, .ref (adr E 0)), (1, .int p0)] [] M
  have hf := h
  unfold f_P_keep_0 at hf
  refine rx_aload_n hG dX9_keep_0 0 rfl ?_
  refine gfX_P_103_0 l E T hG dX9_keep_1 ?_
  refine rx_if_eq hG 15 dX9_keep_4 rfl (fun c1 => ?_) (fun c1 => ?_)
  · have hf := ifT hf c1
    refine rx_aload_n hG dX9_keep_15 0 rfl ?_
    refine rx_iconst hG 1 dX9_keep_16 ic_1 ?_
    obtain ⟨q2, hq2, hf⟩ := bindE hf
    refine rx_cVi hG (c_P_refused_0 l E T 1 hq2) (skX0 T) rfl rfl kw_P_79 ⟨Nat.le_of_ble_eq_true rfl, Nat.le_of_ble_eq_true rfl⟩ rfl (Nat.le_of_ble_eq_true rfl) dX9_keep_17 ?_
    refine rx_pop hG dX9_keep_20 rfl ?_
    refine rx_iconst hG 0 dX9_keep_21 ic_0 ?_
    cases hf
    exact rx_zret hG zr0 dX9_keep_22
  · have hf := ifF hf c1
    refine rx_iload_n hG dX9_keep_7 1 rfl ?_
    refine rx_iconst hG 1 dX9_keep_8 ic_1 ?_
    obtain ⟨v3, hv3, hf⟩ := bindE hf
    refine rx_cSi hG (c_P_within l E (SKX ++ T) p0 1 hv3) kw_P_128 ⟨Nat.le_of_ble_eq_true rfl, Nat.le_of_ble_eq_true rfl⟩ rfl (Nat.le_of_ble_eq_true rfl) dX9_keep_9 ?_
    refine rx_if_ne hG 23 dX9_keep_12 rfl (fun c4 => ?_) (fun c4 => ?_)
    · have hf := ifF hf c4
      refine rx_aload_n hG dX9_keep_23 0 rfl ?_
      refine gfX_P_61_0 l E T hG dX9_keep_24 ?_
      refine rx_iload_n hG dX9_keep_27 1 rfl ?_
      by_cases c5 : p0 = 0
      · have hf := ifT hf c5
        refine rx_aald (p := 69) hG (skX68 T) (by rw [c5]; decide) (by rw [c5]; rfl) dX9_keep_28 ?_
        refine rx_astore_n (lv2 := [(2, .ref (adr E 69)), (0, .ref (adr E 0)), (1, .int p0)]) hG dX9_keep_29 (Nat.le_of_ble_eq_true rfl) rfl ?_
        refine rx_aload_n hG dX9_keep_30 0 rfl ?_
        refine rx_iconst hG 1 dX9_keep_31 ic_1 ?_
        obtain ⟨M6, hM6, hf⟩ := bindE hf
        refine pfX_P_122_69 l E T hG hM6 (Or.inr rfl) dX9_keep_32 ?_
        refine rx_aload_n hG dX9_keep_35 0 rfl ?_
        refine gfX_P_287_69 l E T hG dX9_keep_36 ?_
        refine rx_aload_n hG dX9_keep_39 1 rfl ?_
        refine gfX_P_41_0 l E T hG dX9_keep_40 ?_
        obtain ⟨M7, hM7, hf⟩ := bindE hf
        refine rx_cVv hG (c_L_copy_73_35 l E T  hM7) (skX73 T) rfl rfl kw_P_288 ⟨Nat.le_of_ble_eq_true rfl, Nat.le_of_ble_eq_true rfl⟩ rfl (Nat.le_of_ble_eq_true rfl) dX9_keep_43 ?_
        refine rx_aload_n hG dX9_keep_46 0 rfl ?_
        refine gfX_P_291_69 l E T hG dX9_keep_47 ?_
        refine rx_aload_n hG dX9_keep_50 1 rfl ?_
        refine gfX_P_32_0 l E T hG dX9_keep_51 ?_
        obtain ⟨M8, hM8, hf⟩ := bindE hf
        refine rx_cVv hG (c_V_copy_70_32 l E T  hM8) (skX70 T) rfl rfl kw_P_100 ⟨Nat.le_of_ble_eq_true rfl, Nat.le_of_ble_eq_true rfl⟩ rfl (Nat.le_of_ble_eq_true rfl) dX9_keep_54 ?_
        refine rx_aload_n hG dX9_keep_57 1 rfl ?_
        refine rx_iconst hG 0 dX9_keep_58 ic_0 ?_
        obtain ⟨q9, hq9, hf⟩ := bindE hf
        refine rx_cVi hG (c_P_granted_0 l E T 0 hq9) (skX0 T) rfl rfl kw_P_116 ⟨Nat.le_of_ble_eq_true rfl, Nat.le_of_ble_eq_true rfl⟩ rfl (Nat.le_of_ble_eq_true rfl) dX9_keep_59 ?_
        refine rx_pop hG dX9_keep_62 rfl ?_
        refine rx_iconst hG 1 dX9_keep_63 ic_1 ?_
        cases hf
        exact rx_zret hG zr1 dX9_keep_64
      have hf := ifF hf c5
      by_cases c10 : p0 = 1
      · have hf := ifT hf c10
        refine rx_aald (p := 86) hG (skX68 T) (by rw [c10]; decide) (by rw [c10]; rfl) dX9_keep_28 ?_
        refine rx_astore_n (lv2 := [(2, .ref (adr E 86)), (0, .ref (adr E 0)), (1, .int p0)]) hG dX9_keep_29 (Nat.le_of_ble_eq_true rfl) rfl ?_
        refine rx_aload_n hG dX9_keep_30 0 rfl ?_
        refine rx_iconst hG 1 dX9_keep_31 ic_1 ?_
        obtain ⟨M11, hM11, hf⟩ := bindE hf
        refine pfX_P_122_86 l E T hG hM11 (Or.inr rfl) dX9_keep_32 ?_
        refine rx_aload_n hG dX9_keep_35 0 rfl ?_
        refine gfX_P_287_86 l E T hG dX9_keep_36 ?_
        refine rx_aload_n hG dX9_keep_39 1 rfl ?_
        refine gfX_P_41_0 l E T hG dX9_keep_40 ?_
        obtain ⟨M12, hM12, hf⟩ := bindE hf
        refine rx_cVv hG (c_L_copy_90_35 l E T  hM12) (skX90 T) rfl rfl kw_P_288 ⟨Nat.le_of_ble_eq_true rfl, Nat.le_of_ble_eq_true rfl⟩ rfl (Nat.le_of_ble_eq_true rfl) dX9_keep_43 ?_
        refine rx_aload_n hG dX9_keep_46 0 rfl ?_
        refine gfX_P_291_86 l E T hG dX9_keep_47 ?_
        refine rx_aload_n hG dX9_keep_50 1 rfl ?_
        refine gfX_P_32_0 l E T hG dX9_keep_51 ?_
        obtain ⟨M13, hM13, hf⟩ := bindE hf
        refine rx_cVv hG (c_V_copy_87_32 l E T  hM13) (skX87 T) rfl rfl kw_P_100 ⟨Nat.le_of_ble_eq_true rfl, Nat.le_of_ble_eq_true rfl⟩ rfl (Nat.le_of_ble_eq_true rfl) dX9_keep_54 ?_
        refine rx_aload_n hG dX9_keep_57 1 rfl ?_
        refine rx_iconst hG 0 dX9_keep_58 ic_0 ?_
        obtain ⟨q14, hq14, hf⟩ := bindE hf
        refine rx_cVi hG (c_P_granted_0 l E T 0 hq14) (skX0 T) rfl rfl kw_P_116 ⟨Nat.le_of_ble_eq_true rfl, Nat.le_of_ble_eq_true rfl⟩ rfl (Nat.le_of_ble_eq_true rfl) dX9_keep_59 ?_
        refine rx_pop hG dX9_keep_62 rfl ?_
        refine rx_iconst hG 1 dX9_keep_63 ic_1 ?_
        cases hf
        exact rx_zret hG zr1 dX9_keep_64
      have hf := ifF hf c10
      cases hf
    · have hf := ifT hf c4
      refine rx_aload_n hG dX9_keep_15 0 rfl ?_
      refine rx_iconst hG 1 dX9_keep_16 ic_1 ?_
      obtain ⟨q15, hq15, hf⟩ := bindE hf
      refine rx_cVi hG (c_P_refused_0 l E T 1 hq15) (skX0 T) rfl rfl kw_P_79 ⟨Nat.le_of_ble_eq_true rfl, Nat.le_of_ble_eq_true rfl⟩ rfl (Nat.le_of_ble_eq_true rfl) dX9_keep_17 ?_
      refine rx_pop hG dX9_keep_20 rfl ?_
      refine rx_iconst hG 0 dX9_keep_21 ic_0 ?_
      cases hf
      exact rx_zret hG zr0 dX9_keep_22
set_option maxHeartbeats 4000000 in
set_option maxRecDepth 100000 in
theorem c_L_copy_35_73 (l : Launch) (E : En) (T : List Sk)  {M M' : Mm} (h : f_L_copy_35_73 M = some M') : Ct l (SKX ++ T) E yX3_copy cX3_copy 2 none 1 18 [.ref (adr E 35), .ref (adr E 73)] M none M' := by
  refine ct_of (by decide) (Nat.le_of_ble_eq_true rfl) ?_
  intro G hG
  show G 0 [(0, .ref (adr E 35)), (1, .ref (adr E 73))] [] M
  have hf := h
  unfold f_L_copy_35_73 at hf
  refine rx_aload_n hG dX3_copy_0 1 rfl ?_
  refine gfX_L_9_73 l E T hG dX3_copy_1 ?_
  refine rx_iconst hG 0 dX3_copy_4 ic_0 ?_
  refine rx_aload_n hG dX3_copy_5 0 rfl ?_
  refine gfX_L_9_35 l E T hG dX3_copy_6 ?_
  refine rx_iconst hG 0 dX3_copy_9 ic_0 ?_
  refine rx_bipush hG 18 dX3_copy_10 bp_18 ?_
  obtain ⟨M1, hM1, hf⟩ := bindE hf
  refine rx_copy hG (skX74 T) (skX36 T) hM1 kw_L_67 ⟨Nat.le_of_ble_eq_true rfl, Nat.le_of_ble_eq_true rfl⟩ dX3_copy_12 ?_
  refine rx_aload_n hG dX3_copy_15 1 rfl ?_
  refine gfX_L_15_73 l E T hG dX3_copy_16 ?_
  refine rx_iconst hG 0 dX3_copy_19 ic_0 ?_
  refine rx_aload_n hG dX3_copy_20 0 rfl ?_
  refine gfX_L_15_35 l E T hG dX3_copy_21 ?_
  refine rx_iconst hG 0 dX3_copy_24 ic_0 ?_
  refine rx_bipush hG 18 dX3_copy_25 bp_18 ?_
  obtain ⟨M2, hM2, hf⟩ := bindE hf
  refine rx_copy hG (skX75 T) (skX37 T) hM2 kw_L_67 ⟨Nat.le_of_ble_eq_true rfl, Nat.le_of_ble_eq_true rfl⟩ dX3_copy_27 ?_
  refine rx_aload_n hG dX3_copy_30 1 rfl ?_
  refine gfX_L_18_73 l E T hG dX3_copy_31 ?_
  refine rx_iconst hG 0 dX3_copy_34 ic_0 ?_
  refine rx_aload_n hG dX3_copy_35 0 rfl ?_
  refine gfX_L_18_35 l E T hG dX3_copy_36 ?_
  refine rx_iconst hG 0 dX3_copy_39 ic_0 ?_
  refine rx_bipush hG 6 dX3_copy_40 bp_6 ?_
  obtain ⟨M3, hM3, hf⟩ := bindE hf
  refine rx_copy hG (skX76 T) (skX38 T) hM3 kw_L_67 ⟨Nat.le_of_ble_eq_true rfl, Nat.le_of_ble_eq_true rfl⟩ dX3_copy_42 ?_
  refine rx_aload_n hG dX3_copy_45 1 rfl ?_
  refine gfX_L_21_73 l E T hG dX3_copy_46 ?_
  refine rx_iconst hG 0 dX3_copy_49 ic_0 ?_
  refine rx_aload_n hG dX3_copy_50 0 rfl ?_
  refine gfX_L_21_35 l E T hG dX3_copy_51 ?_
  refine rx_iconst hG 0 dX3_copy_54 ic_0 ?_
  refine rx_bipush hG 6 dX3_copy_55 bp_6 ?_
  obtain ⟨M4, hM4, hf⟩ := bindE hf
  refine rx_copy hG (skX77 T) (skX39 T) hM4 kw_L_67 ⟨Nat.le_of_ble_eq_true rfl, Nat.le_of_ble_eq_true rfl⟩ dX3_copy_57 ?_
  refine rx_aload_n hG dX3_copy_60 1 rfl ?_
  refine gfX_L_24_73 l E T hG dX3_copy_61 ?_
  refine rx_iconst hG 0 dX3_copy_64 ic_0 ?_
  refine rx_aload_n hG dX3_copy_65 0 rfl ?_
  refine gfX_L_24_35 l E T hG dX3_copy_66 ?_
  refine rx_iconst hG 0 dX3_copy_69 ic_0 ?_
  refine rx_bipush hG 6 dX3_copy_70 bp_6 ?_
  obtain ⟨M5, hM5, hf⟩ := bindE hf
  refine rx_copy hG (skX78 T) (skX40 T) hM5 kw_L_67 ⟨Nat.le_of_ble_eq_true rfl, Nat.le_of_ble_eq_true rfl⟩ dX3_copy_72 ?_
  refine rx_aload_n hG dX3_copy_75 1 rfl ?_
  refine gfX_L_27_73 l E T hG dX3_copy_76 ?_
  refine rx_iconst hG 0 dX3_copy_79 ic_0 ?_
  refine rx_aload_n hG dX3_copy_80 0 rfl ?_
  refine gfX_L_27_35 l E T hG dX3_copy_81 ?_
  refine rx_iconst hG 0 dX3_copy_84 ic_0 ?_
  refine rx_bipush hG 6 dX3_copy_85 bp_6 ?_
  obtain ⟨M6, hM6, hf⟩ := bindE hf
  refine rx_copy hG (skX79 T) (skX41 T) hM6 kw_L_67 ⟨Nat.le_of_ble_eq_true rfl, Nat.le_of_ble_eq_true rfl⟩ dX3_copy_87 ?_
  refine rx_aload_n hG dX3_copy_90 1 rfl ?_
  refine gfX_L_30_73 l E T hG dX3_copy_91 ?_
  refine rx_iconst hG 0 dX3_copy_94 ic_0 ?_
  refine rx_aload_n hG dX3_copy_95 0 rfl ?_
  refine gfX_L_30_35 l E T hG dX3_copy_96 ?_
  refine rx_iconst hG 0 dX3_copy_99 ic_0 ?_
  refine rx_bipush hG 24 dX3_copy_100 bp_24 ?_
  obtain ⟨M7, hM7, hf⟩ := bindE hf
  refine rx_copy hG (skX80 T) (skX42 T) hM7 kw_L_67 ⟨Nat.le_of_ble_eq_true rfl, Nat.le_of_ble_eq_true rfl⟩ dX3_copy_102 ?_
  refine rx_aload_n hG dX3_copy_105 1 rfl ?_
  refine gfX_L_33_73 l E T hG dX3_copy_106 ?_
  refine rx_iconst hG 0 dX3_copy_109 ic_0 ?_
  refine rx_aload_n hG dX3_copy_110 0 rfl ?_
  refine gfX_L_33_35 l E T hG dX3_copy_111 ?_
  refine rx_iconst hG 0 dX3_copy_114 ic_0 ?_
  refine rx_bipush hG 6 dX3_copy_115 bp_6 ?_
  obtain ⟨M8, hM8, hf⟩ := bindE hf
  refine rx_copy hG (skX81 T) (skX43 T) hM8 kw_L_67 ⟨Nat.le_of_ble_eq_true rfl, Nat.le_of_ble_eq_true rfl⟩ dX3_copy_117 ?_
  refine rx_aload_n hG dX3_copy_120 1 rfl ?_
  refine gfX_L_36_73 l E T hG dX3_copy_121 ?_
  refine rx_iconst hG 0 dX3_copy_124 ic_0 ?_
  refine rx_aload_n hG dX3_copy_125 0 rfl ?_
  refine gfX_L_36_35 l E T hG dX3_copy_126 ?_
  refine rx_iconst hG 0 dX3_copy_129 ic_0 ?_
  refine rx_iconst hG 3 dX3_copy_130 ic_3 ?_
  obtain ⟨M9, hM9, hf⟩ := bindE hf
  refine rx_copy hG (skX82 T) (skX44 T) hM9 kw_L_67 ⟨Nat.le_of_ble_eq_true rfl, Nat.le_of_ble_eq_true rfl⟩ dX3_copy_131 ?_
  refine rx_aload_n hG dX3_copy_134 1 rfl ?_
  refine gfX_L_39_73 l E T hG dX3_copy_135 ?_
  refine rx_iconst hG 0 dX3_copy_138 ic_0 ?_
  refine rx_aload_n hG dX3_copy_139 0 rfl ?_
  refine gfX_L_39_35 l E T hG dX3_copy_140 ?_
  refine rx_iconst hG 0 dX3_copy_143 ic_0 ?_
  refine rx_iconst hG 3 dX3_copy_144 ic_3 ?_
  obtain ⟨M10, hM10, hf⟩ := bindE hf
  refine rx_copy hG (skX83 T) (skX45 T) hM10 kw_L_67 ⟨Nat.le_of_ble_eq_true rfl, Nat.le_of_ble_eq_true rfl⟩ dX3_copy_145 ?_
  refine rx_aload_n hG dX3_copy_148 1 rfl ?_
  refine gfX_L_42_73 l E T hG dX3_copy_149 ?_
  refine rx_iconst hG 0 dX3_copy_152 ic_0 ?_
  refine rx_aload_n hG dX3_copy_153 0 rfl ?_
  refine gfX_L_42_35 l E T hG dX3_copy_154 ?_
  refine rx_iconst hG 0 dX3_copy_157 ic_0 ?_
  refine rx_iconst hG 3 dX3_copy_158 ic_3 ?_
  obtain ⟨M11, hM11, hf⟩ := bindE hf
  refine rx_copy hG (skX84 T) (skX46 T) hM11 kw_L_67 ⟨Nat.le_of_ble_eq_true rfl, Nat.le_of_ble_eq_true rfl⟩ dX3_copy_159 ?_
  refine rx_aload_n hG dX3_copy_162 1 rfl ?_
  refine gfX_L_45_73 l E T hG dX3_copy_163 ?_
  refine rx_iconst hG 0 dX3_copy_166 ic_0 ?_
  refine rx_aload_n hG dX3_copy_167 0 rfl ?_
  refine gfX_L_45_35 l E T hG dX3_copy_168 ?_
  refine rx_iconst hG 0 dX3_copy_171 ic_0 ?_
  refine rx_iconst hG 3 dX3_copy_172 ic_3 ?_
  obtain ⟨M12, hM12, hf⟩ := bindE hf
  refine rx_copy hG (skX85 T) (skX47 T) hM12 kw_L_67 ⟨Nat.le_of_ble_eq_true rfl, Nat.le_of_ble_eq_true rfl⟩ dX3_copy_173 ?_
  refine rx_aload_n hG dX3_copy_176 0 rfl ?_
  refine rx_aload_n hG dX3_copy_177 1 rfl ?_
  refine gfX_L_73_73 l E T hG dX3_copy_178 ?_
  obtain ⟨M13, hM13, hf⟩ := bindE hf
  refine pfX_L_73_35 l E T hG hM13 dX3_copy_181 ?_
  refine rx_aload_n hG dX3_copy_184 0 rfl ?_
  refine rx_aload_n hG dX3_copy_185 1 rfl ?_
  refine gfX_L_77_73 l E T hG dX3_copy_186 ?_
  obtain ⟨M14, hM14, hf⟩ := bindE hf
  refine pfX_L_77_35 l E T hG hM14 dX3_copy_189 ?_
  refine rx_aload_n hG dX3_copy_192 0 rfl ?_
  refine rx_aload_n hG dX3_copy_193 1 rfl ?_
  refine gfX_L_80_73 l E T hG dX3_copy_194 ?_
  obtain ⟨M15, hM15, hf⟩ := bindE hf
  refine pfX_L_80_35 l E T hG hM15 dX3_copy_197 ?_
  refine rx_aload_n hG dX3_copy_200 0 rfl ?_
  refine rx_aload_n hG dX3_copy_201 1 rfl ?_
  refine gfX_L_83_73 l E T hG dX3_copy_202 ?_
  obtain ⟨M16, hM16, hf⟩ := bindE hf
  refine pfX_L_83_35 l E T hG hM16 dX3_copy_205 ?_
  cases hf
  exact rx_vret hG dX3_copy_208
set_option maxHeartbeats 4000000 in
set_option maxRecDepth 100000 in
theorem c_V_copy_32_70 (l : Launch) (E : En) (T : List Sk)  {M M' : Mm} (h : f_V_copy_32_70 M = some M') : Ct l (SKX ++ T) E yX2_copy cX2_copy 2 none 1 18 [.ref (adr E 32), .ref (adr E 70)] M none M' := by
  refine ct_of (by decide) (Nat.le_of_ble_eq_true rfl) ?_
  intro G hG
  show G 0 [(0, .ref (adr E 32)), (1, .ref (adr E 70))] [] M
  have hf := h
  unfold f_V_copy_32_70 at hf
  refine rx_aload_n hG dX2_copy_0 1 rfl ?_
  refine gfX_V_9_70 l E T hG dX2_copy_1 ?_
  refine rx_iconst hG 0 dX2_copy_4 ic_0 ?_
  refine rx_aload_n hG dX2_copy_5 0 rfl ?_
  refine gfX_V_9_32 l E T hG dX2_copy_6 ?_
  refine rx_iconst hG 0 dX2_copy_9 ic_0 ?_
  refine rx_bipush hG 18 dX2_copy_10 bp_18 ?_
  obtain ⟨M1, hM1, hf⟩ := bindE hf
  refine rx_copy hG (skX71 T) (skX33 T) hM1 kw_V_28 ⟨Nat.le_of_ble_eq_true rfl, Nat.le_of_ble_eq_true rfl⟩ dX2_copy_12 ?_
  refine rx_aload_n hG dX2_copy_15 1 rfl ?_
  refine gfX_V_15_70 l E T hG dX2_copy_16 ?_
  refine rx_iconst hG 0 dX2_copy_19 ic_0 ?_
  refine rx_aload_n hG dX2_copy_20 0 rfl ?_
  refine gfX_V_15_32 l E T hG dX2_copy_21 ?_
  refine rx_iconst hG 0 dX2_copy_24 ic_0 ?_
  refine rx_bipush hG 18 dX2_copy_25 bp_18 ?_
  obtain ⟨M2, hM2, hf⟩ := bindE hf
  refine rx_copy hG (skX72 T) (skX34 T) hM2 kw_V_28 ⟨Nat.le_of_ble_eq_true rfl, Nat.le_of_ble_eq_true rfl⟩ dX2_copy_27 ?_
  refine rx_aload_n hG dX2_copy_30 0 rfl ?_
  refine rx_aload_n hG dX2_copy_31 1 rfl ?_
  refine gfX_V_24_70 l E T hG dX2_copy_32 ?_
  obtain ⟨M3, hM3, hf⟩ := bindE hf
  refine pfX_V_24_32 l E T hG hM3 dX2_copy_35 ?_
  cases hf
  exact rx_vret hG dX2_copy_38
set_option maxHeartbeats 4000000 in
set_option maxRecDepth 100000 in
theorem c_L_copy_35_90 (l : Launch) (E : En) (T : List Sk)  {M M' : Mm} (h : f_L_copy_35_90 M = some M') : Ct l (SKX ++ T) E yX3_copy cX3_copy 2 none 1 18 [.ref (adr E 35), .ref (adr E 90)] M none M' := by
  refine ct_of (by decide) (Nat.le_of_ble_eq_true rfl) ?_
  intro G hG
  show G 0 [(0, .ref (adr E 35)), (1, .ref (adr E 90))] [] M
  have hf := h
  unfold f_L_copy_35_90 at hf
  refine rx_aload_n hG dX3_copy_0 1 rfl ?_
  refine gfX_L_9_90 l E T hG dX3_copy_1 ?_
  refine rx_iconst hG 0 dX3_copy_4 ic_0 ?_
  refine rx_aload_n hG dX3_copy_5 0 rfl ?_
  refine gfX_L_9_35 l E T hG dX3_copy_6 ?_
  refine rx_iconst hG 0 dX3_copy_9 ic_0 ?_
  refine rx_bipush hG 18 dX3_copy_10 bp_18 ?_
  obtain ⟨M1, hM1, hf⟩ := bindE hf
  refine rx_copy hG (skX91 T) (skX36 T) hM1 kw_L_67 ⟨Nat.le_of_ble_eq_true rfl, Nat.le_of_ble_eq_true rfl⟩ dX3_copy_12 ?_
  refine rx_aload_n hG dX3_copy_15 1 rfl ?_
  refine gfX_L_15_90 l E T hG dX3_copy_16 ?_
  refine rx_iconst hG 0 dX3_copy_19 ic_0 ?_
  refine rx_aload_n hG dX3_copy_20 0 rfl ?_
  refine gfX_L_15_35 l E T hG dX3_copy_21 ?_
  refine rx_iconst hG 0 dX3_copy_24 ic_0 ?_
  refine rx_bipush hG 18 dX3_copy_25 bp_18 ?_
  obtain ⟨M2, hM2, hf⟩ := bindE hf
  refine rx_copy hG (skX92 T) (skX37 T) hM2 kw_L_67 ⟨Nat.le_of_ble_eq_true rfl, Nat.le_of_ble_eq_true rfl⟩ dX3_copy_27 ?_
  refine rx_aload_n hG dX3_copy_30 1 rfl ?_
  refine gfX_L_18_90 l E T hG dX3_copy_31 ?_
  refine rx_iconst hG 0 dX3_copy_34 ic_0 ?_
  refine rx_aload_n hG dX3_copy_35 0 rfl ?_
  refine gfX_L_18_35 l E T hG dX3_copy_36 ?_
  refine rx_iconst hG 0 dX3_copy_39 ic_0 ?_
  refine rx_bipush hG 6 dX3_copy_40 bp_6 ?_
  obtain ⟨M3, hM3, hf⟩ := bindE hf
  refine rx_copy hG (skX93 T) (skX38 T) hM3 kw_L_67 ⟨Nat.le_of_ble_eq_true rfl, Nat.le_of_ble_eq_true rfl⟩ dX3_copy_42 ?_
  refine rx_aload_n hG dX3_copy_45 1 rfl ?_
  refine gfX_L_21_90 l E T hG dX3_copy_46 ?_
  refine rx_iconst hG 0 dX3_copy_49 ic_0 ?_
  refine rx_aload_n hG dX3_copy_50 0 rfl ?_
  refine gfX_L_21_35 l E T hG dX3_copy_51 ?_
  refine rx_iconst hG 0 dX3_copy_54 ic_0 ?_
  refine rx_bipush hG 6 dX3_copy_55 bp_6 ?_
  obtain ⟨M4, hM4, hf⟩ := bindE hf
  refine rx_copy hG (skX94 T) (skX39 T) hM4 kw_L_67 ⟨Nat.le_of_ble_eq_true rfl, Nat.le_of_ble_eq_true rfl⟩ dX3_copy_57 ?_
  refine rx_aload_n hG dX3_copy_60 1 rfl ?_
  refine gfX_L_24_90 l E T hG dX3_copy_61 ?_
  refine rx_iconst hG 0 dX3_copy_64 ic_0 ?_
  refine rx_aload_n hG dX3_copy_65 0 rfl ?_
  refine gfX_L_24_35 l E T hG dX3_copy_66 ?_
  refine rx_iconst hG 0 dX3_copy_69 ic_0 ?_
  refine rx_bipush hG 6 dX3_copy_70 bp_6 ?_
  obtain ⟨M5, hM5, hf⟩ := bindE hf
  refine rx_copy hG (skX95 T) (skX40 T) hM5 kw_L_67 ⟨Nat.le_of_ble_eq_true rfl, Nat.le_of_ble_eq_true rfl⟩ dX3_copy_72 ?_
  refine rx_aload_n hG dX3_copy_75 1 rfl ?_
  refine gfX_L_27_90 l E T hG dX3_copy_76 ?_
  refine rx_iconst hG 0 dX3_copy_79 ic_0 ?_
  refine rx_aload_n hG dX3_copy_80 0 rfl ?_
  refine gfX_L_27_35 l E T hG dX3_copy_81 ?_
  refine rx_iconst hG 0 dX3_copy_84 ic_0 ?_
  refine rx_bipush hG 6 dX3_copy_85 bp_6 ?_
  obtain ⟨M6, hM6, hf⟩ := bindE hf
  refine rx_copy hG (skX96 T) (skX41 T) hM6 kw_L_67 ⟨Nat.le_of_ble_eq_true rfl, Nat.le_of_ble_eq_true rfl⟩ dX3_copy_87 ?_
  refine rx_aload_n hG dX3_copy_90 1 rfl ?_
  refine gfX_L_30_90 l E T hG dX3_copy_91 ?_
  refine rx_iconst hG 0 dX3_copy_94 ic_0 ?_
  refine rx_aload_n hG dX3_copy_95 0 rfl ?_
  refine gfX_L_30_35 l E T hG dX3_copy_96 ?_
  refine rx_iconst hG 0 dX3_copy_99 ic_0 ?_
  refine rx_bipush hG 24 dX3_copy_100 bp_24 ?_
  obtain ⟨M7, hM7, hf⟩ := bindE hf
  refine rx_copy hG (skX97 T) (skX42 T) hM7 kw_L_67 ⟨Nat.le_of_ble_eq_true rfl, Nat.le_of_ble_eq_true rfl⟩ dX3_copy_102 ?_
  refine rx_aload_n hG dX3_copy_105 1 rfl ?_
  refine gfX_L_33_90 l E T hG dX3_copy_106 ?_
  refine rx_iconst hG 0 dX3_copy_109 ic_0 ?_
  refine rx_aload_n hG dX3_copy_110 0 rfl ?_
  refine gfX_L_33_35 l E T hG dX3_copy_111 ?_
  refine rx_iconst hG 0 dX3_copy_114 ic_0 ?_
  refine rx_bipush hG 6 dX3_copy_115 bp_6 ?_
  obtain ⟨M8, hM8, hf⟩ := bindE hf
  refine rx_copy hG (skX98 T) (skX43 T) hM8 kw_L_67 ⟨Nat.le_of_ble_eq_true rfl, Nat.le_of_ble_eq_true rfl⟩ dX3_copy_117 ?_
  refine rx_aload_n hG dX3_copy_120 1 rfl ?_
  refine gfX_L_36_90 l E T hG dX3_copy_121 ?_
  refine rx_iconst hG 0 dX3_copy_124 ic_0 ?_
  refine rx_aload_n hG dX3_copy_125 0 rfl ?_
  refine gfX_L_36_35 l E T hG dX3_copy_126 ?_
  refine rx_iconst hG 0 dX3_copy_129 ic_0 ?_
  refine rx_iconst hG 3 dX3_copy_130 ic_3 ?_
  obtain ⟨M9, hM9, hf⟩ := bindE hf
  refine rx_copy hG (skX99 T) (skX44 T) hM9 kw_L_67 ⟨Nat.le_of_ble_eq_true rfl, Nat.le_of_ble_eq_true rfl⟩ dX3_copy_131 ?_
  refine rx_aload_n hG dX3_copy_134 1 rfl ?_
  refine gfX_L_39_90 l E T hG dX3_copy_135 ?_
  refine rx_iconst hG 0 dX3_copy_138 ic_0 ?_
  refine rx_aload_n hG dX3_copy_139 0 rfl ?_
  refine gfX_L_39_35 l E T hG dX3_copy_140 ?_
  refine rx_iconst hG 0 dX3_copy_143 ic_0 ?_
  refine rx_iconst hG 3 dX3_copy_144 ic_3 ?_
  obtain ⟨M10, hM10, hf⟩ := bindE hf
  refine rx_copy hG (skX100 T) (skX45 T) hM10 kw_L_67 ⟨Nat.le_of_ble_eq_true rfl, Nat.le_of_ble_eq_true rfl⟩ dX3_copy_145 ?_
  refine rx_aload_n hG dX3_copy_148 1 rfl ?_
  refine gfX_L_42_90 l E T hG dX3_copy_149 ?_
  refine rx_iconst hG 0 dX3_copy_152 ic_0 ?_
  refine rx_aload_n hG dX3_copy_153 0 rfl ?_
  refine gfX_L_42_35 l E T hG dX3_copy_154 ?_
  refine rx_iconst hG 0 dX3_copy_157 ic_0 ?_
  refine rx_iconst hG 3 dX3_copy_158 ic_3 ?_
  obtain ⟨M11, hM11, hf⟩ := bindE hf
  refine rx_copy hG (skX101 T) (skX46 T) hM11 kw_L_67 ⟨Nat.le_of_ble_eq_true rfl, Nat.le_of_ble_eq_true rfl⟩ dX3_copy_159 ?_
  refine rx_aload_n hG dX3_copy_162 1 rfl ?_
  refine gfX_L_45_90 l E T hG dX3_copy_163 ?_
  refine rx_iconst hG 0 dX3_copy_166 ic_0 ?_
  refine rx_aload_n hG dX3_copy_167 0 rfl ?_
  refine gfX_L_45_35 l E T hG dX3_copy_168 ?_
  refine rx_iconst hG 0 dX3_copy_171 ic_0 ?_
  refine rx_iconst hG 3 dX3_copy_172 ic_3 ?_
  obtain ⟨M12, hM12, hf⟩ := bindE hf
  refine rx_copy hG (skX102 T) (skX47 T) hM12 kw_L_67 ⟨Nat.le_of_ble_eq_true rfl, Nat.le_of_ble_eq_true rfl⟩ dX3_copy_173 ?_
  refine rx_aload_n hG dX3_copy_176 0 rfl ?_
  refine rx_aload_n hG dX3_copy_177 1 rfl ?_
  refine gfX_L_73_90 l E T hG dX3_copy_178 ?_
  obtain ⟨M13, hM13, hf⟩ := bindE hf
  refine pfX_L_73_35 l E T hG hM13 dX3_copy_181 ?_
  refine rx_aload_n hG dX3_copy_184 0 rfl ?_
  refine rx_aload_n hG dX3_copy_185 1 rfl ?_
  refine gfX_L_77_90 l E T hG dX3_copy_186 ?_
  obtain ⟨M14, hM14, hf⟩ := bindE hf
  refine pfX_L_77_35 l E T hG hM14 dX3_copy_189 ?_
  refine rx_aload_n hG dX3_copy_192 0 rfl ?_
  refine rx_aload_n hG dX3_copy_193 1 rfl ?_
  refine gfX_L_80_90 l E T hG dX3_copy_194 ?_
  obtain ⟨M15, hM15, hf⟩ := bindE hf
  refine pfX_L_80_35 l E T hG hM15 dX3_copy_197 ?_
  refine rx_aload_n hG dX3_copy_200 0 rfl ?_
  refine rx_aload_n hG dX3_copy_201 1 rfl ?_
  refine gfX_L_83_90 l E T hG dX3_copy_202 ?_
  obtain ⟨M16, hM16, hf⟩ := bindE hf
  refine pfX_L_83_35 l E T hG hM16 dX3_copy_205 ?_
  cases hf
  exact rx_vret hG dX3_copy_208
set_option maxHeartbeats 4000000 in
set_option maxRecDepth 100000 in
theorem c_V_copy_32_87 (l : Launch) (E : En) (T : List Sk)  {M M' : Mm} (h : f_V_copy_32_87 M = some M') : Ct l (SKX ++ T) E yX2_copy cX2_copy 2 none 1 18 [.ref (adr E 32), .ref (adr E 87)] M none M' := by
  refine ct_of (by decide) (Nat.le_of_ble_eq_true rfl) ?_
  intro G hG
  show G 0 [(0, .ref (adr E 32)), (1, .ref (adr E 87))] [] M
  have hf := h
  unfold f_V_copy_32_87 at hf
  refine rx_aload_n hG dX2_copy_0 1 rfl ?_
  refine gfX_V_9_87 l E T hG dX2_copy_1 ?_
  refine rx_iconst hG 0 dX2_copy_4 ic_0 ?_
  refine rx_aload_n hG dX2_copy_5 0 rfl ?_
  refine gfX_V_9_32 l E T hG dX2_copy_6 ?_
  refine rx_iconst hG 0 dX2_copy_9 ic_0 ?_
  refine rx_bipush hG 18 dX2_copy_10 bp_18 ?_
  obtain ⟨M1, hM1, hf⟩ := bindE hf
  refine rx_copy hG (skX88 T) (skX33 T) hM1 kw_V_28 ⟨Nat.le_of_ble_eq_true rfl, Nat.le_of_ble_eq_true rfl⟩ dX2_copy_12 ?_
  refine rx_aload_n hG dX2_copy_15 1 rfl ?_
  refine gfX_V_15_87 l E T hG dX2_copy_16 ?_
  refine rx_iconst hG 0 dX2_copy_19 ic_0 ?_
  refine rx_aload_n hG dX2_copy_20 0 rfl ?_
  refine gfX_V_15_32 l E T hG dX2_copy_21 ?_
  refine rx_iconst hG 0 dX2_copy_24 ic_0 ?_
  refine rx_bipush hG 18 dX2_copy_25 bp_18 ?_
  obtain ⟨M2, hM2, hf⟩ := bindE hf
  refine rx_copy hG (skX89 T) (skX34 T) hM2 kw_V_28 ⟨Nat.le_of_ble_eq_true rfl, Nat.le_of_ble_eq_true rfl⟩ dX2_copy_27 ?_
  refine rx_aload_n hG dX2_copy_30 0 rfl ?_
  refine rx_aload_n hG dX2_copy_31 1 rfl ?_
  refine gfX_V_24_87 l E T hG dX2_copy_32 ?_
  obtain ⟨M3, hM3, hf⟩ := bindE hf
  refine pfX_V_24_32 l E T hG hM3 dX2_copy_35 ?_
  cases hf
  exact rx_vret hG dX2_copy_38
set_option maxHeartbeats 4000000 in
set_option maxRecDepth 100000 in
theorem c_P_back_0 (l : Launch) (E : En) (T : List Sk) (p0 : Int32) {M M' : Mm} {r : Int32} (h : f_P_back_0 p0 M = some (r, M')) : Ct l (SKX ++ T) E yX9_back cX9_back 3 (some .boolean) 2 39 [.ref (adr E 0), .int p0] M (some (.int r)) M' := by
  refine ct_of (by decide) (Nat.le_of_ble_eq_true rfl) ?_
  intro G hG
  show G 0 [(0, .ref (adr E 0)), (1, .int p0)] [] M
  have hf := h
  unfold f_P_back_0 at hf
  refine rx_aload_n hG dX9_back_0 0 rfl ?_
  refine gfX_P_103_0 l E T hG dX9_back_1 ?_
  refine rx_if_eq hG 27 dX9_back_4 rfl (fun c1 => ?_) (fun c1 => ?_)
  · have hf := ifT hf c1
    refine rx_aload_n hG dX9_back_27 0 rfl ?_
    refine rx_iconst hG 1 dX9_back_28 ic_1 ?_
    obtain ⟨q2, hq2, hf⟩ := bindE hf
    refine rx_cVi hG (c_P_refused_0 l E T 1 hq2) (skX0 T) rfl rfl kw_P_79 ⟨Nat.le_of_ble_eq_true rfl, Nat.le_of_ble_eq_true rfl⟩ rfl (Nat.le_of_ble_eq_true rfl) dX9_back_29 ?_
    refine rx_pop hG dX9_back_32 rfl ?_
    refine rx_iconst hG 0 dX9_back_33 ic_0 ?_
    cases hf
    exact rx_zret hG zr0 dX9_back_34
  · have hf := ifF hf c1
    refine rx_iload_n hG dX9_back_7 1 rfl ?_
    refine rx_iconst hG 1 dX9_back_8 ic_1 ?_
    obtain ⟨v3, hv3, hf⟩ := bindE hf
    refine rx_cSi hG (c_P_within l E (SKX ++ T) p0 1 hv3) kw_P_128 ⟨Nat.le_of_ble_eq_true rfl, Nat.le_of_ble_eq_true rfl⟩ rfl (Nat.le_of_ble_eq_true rfl) dX9_back_9 ?_
    refine rx_if_eq hG 27 dX9_back_12 rfl (fun c4 => ?_) (fun c4 => ?_)
    · have hf := ifT hf c4
      refine rx_aload_n hG dX9_back_27 0 rfl ?_
      refine rx_iconst hG 1 dX9_back_28 ic_1 ?_
      obtain ⟨q5, hq5, hf⟩ := bindE hf
      refine rx_cVi hG (c_P_refused_0 l E T 1 hq5) (skX0 T) rfl rfl kw_P_79 ⟨Nat.le_of_ble_eq_true rfl, Nat.le_of_ble_eq_true rfl⟩ rfl (Nat.le_of_ble_eq_true rfl) dX9_back_29 ?_
      refine rx_pop hG dX9_back_32 rfl ?_
      refine rx_iconst hG 0 dX9_back_33 ic_0 ?_
      cases hf
      exact rx_zret hG zr0 dX9_back_34
    · have hf := ifF hf c4
      refine rx_aload_n hG dX9_back_15 0 rfl ?_
      refine gfX_P_61_0 l E T hG dX9_back_16 ?_
      refine rx_iload_n hG dX9_back_19 1 rfl ?_
      by_cases c6 : p0 = 0
      · have hf := ifT hf c6
        refine rx_aald (p := 69) hG (skX68 T) (by rw [c6]; decide) (by rw [c6]; rfl) dX9_back_20 ?_
        refine gfX_P_122_69 l E T hG dX9_back_21 ?_
        refine rx_if_ne hG 35 dX9_back_24 rfl (fun c7 => ?_) (fun c7 => ?_)
        · have hf := ifF hf c7
          refine rx_aload_n hG dX9_back_35 0 rfl ?_
          refine gfX_P_61_0 l E T hG dX9_back_36 ?_
          refine rx_iload_n hG dX9_back_39 1 rfl ?_
          by_cases c8 : p0 = 0
          · have hf := ifT hf c8
            refine rx_aald (p := 69) hG (skX68 T) (by rw [c8]; decide) (by rw [c8]; rfl) dX9_back_40 ?_
            refine rx_astore_n (lv2 := [(2, .ref (adr E 69)), (0, .ref (adr E 0)), (1, .int p0)]) hG dX9_back_41 (Nat.le_of_ble_eq_true rfl) rfl ?_
            refine rx_aload_n hG dX9_back_42 1 rfl ?_
            refine gfX_P_41_0 l E T hG dX9_back_43 ?_
            refine rx_aload_n hG dX9_back_46 0 rfl ?_
            refine gfX_P_287_69 l E T hG dX9_back_47 ?_
            obtain ⟨M9, hM9, hf⟩ := bindE hf
            refine rx_cVv hG (c_L_copy_35_73 l E T  hM9) (skX35 T) rfl rfl kw_P_288 ⟨Nat.le_of_ble_eq_true rfl, Nat.le_of_ble_eq_true rfl⟩ rfl (Nat.le_of_ble_eq_true rfl) dX9_back_50 ?_
            refine rx_aload_n hG dX9_back_53 1 rfl ?_
            refine gfX_P_32_0 l E T hG dX9_back_54 ?_
            refine rx_aload_n hG dX9_back_57 0 rfl ?_
            refine gfX_P_291_69 l E T hG dX9_back_58 ?_
            obtain ⟨M10, hM10, hf⟩ := bindE hf
            refine rx_cVv hG (c_V_copy_32_70 l E T  hM10) (skX32 T) rfl rfl kw_P_100 ⟨Nat.le_of_ble_eq_true rfl, Nat.le_of_ble_eq_true rfl⟩ rfl (Nat.le_of_ble_eq_true rfl) dX9_back_61 ?_
            refine rx_aload_n hG dX9_back_64 1 rfl ?_
            refine gfX_P_55_0 l E T hG dX9_back_65 ?_
            refine rx_iconst hG 0 dX9_back_68 ic_0 ?_
            obtain ⟨M11, hM11, hf⟩ := bindE hf
            refine pfX_P_119_65 l E T hG hM11 dX9_back_69 ?_
            refine rx_aload_n hG dX9_back_72 1 rfl ?_
            refine rx_iconst hG 0 dX9_back_73 ic_0 ?_
            obtain ⟨q12, hq12, hf⟩ := bindE hf
            refine rx_cVi hG (c_P_granted_0 l E T 0 hq12) (skX0 T) rfl rfl kw_P_116 ⟨Nat.le_of_ble_eq_true rfl, Nat.le_of_ble_eq_true rfl⟩ rfl (Nat.le_of_ble_eq_true rfl) dX9_back_74 ?_
            refine rx_pop hG dX9_back_77 rfl ?_
            refine rx_iconst hG 1 dX9_back_78 ic_1 ?_
            cases hf
            exact rx_zret hG zr1 dX9_back_79
          have hf := ifF hf c8
          by_cases c13 : p0 = 1
          · have hf := ifT hf c13
            refine rx_aald (p := 86) hG (skX68 T) (by rw [c13]; decide) (by rw [c13]; rfl) dX9_back_40 ?_
            refine rx_astore_n (lv2 := [(2, .ref (adr E 86)), (0, .ref (adr E 0)), (1, .int p0)]) hG dX9_back_41 (Nat.le_of_ble_eq_true rfl) rfl ?_
            refine rx_aload_n hG dX9_back_42 1 rfl ?_
            refine gfX_P_41_0 l E T hG dX9_back_43 ?_
            refine rx_aload_n hG dX9_back_46 0 rfl ?_
            refine gfX_P_287_86 l E T hG dX9_back_47 ?_
            obtain ⟨M14, hM14, hf⟩ := bindE hf
            refine rx_cVv hG (c_L_copy_35_90 l E T  hM14) (skX35 T) rfl rfl kw_P_288 ⟨Nat.le_of_ble_eq_true rfl, Nat.le_of_ble_eq_true rfl⟩ rfl (Nat.le_of_ble_eq_true rfl) dX9_back_50 ?_
            refine rx_aload_n hG dX9_back_53 1 rfl ?_
            refine gfX_P_32_0 l E T hG dX9_back_54 ?_
            refine rx_aload_n hG dX9_back_57 0 rfl ?_
            refine gfX_P_291_86 l E T hG dX9_back_58 ?_
            obtain ⟨M15, hM15, hf⟩ := bindE hf
            refine rx_cVv hG (c_V_copy_32_87 l E T  hM15) (skX32 T) rfl rfl kw_P_100 ⟨Nat.le_of_ble_eq_true rfl, Nat.le_of_ble_eq_true rfl⟩ rfl (Nat.le_of_ble_eq_true rfl) dX9_back_61 ?_
            refine rx_aload_n hG dX9_back_64 1 rfl ?_
            refine gfX_P_55_0 l E T hG dX9_back_65 ?_
            refine rx_iconst hG 0 dX9_back_68 ic_0 ?_
            obtain ⟨M16, hM16, hf⟩ := bindE hf
            refine pfX_P_119_65 l E T hG hM16 dX9_back_69 ?_
            refine rx_aload_n hG dX9_back_72 1 rfl ?_
            refine rx_iconst hG 0 dX9_back_73 ic_0 ?_
            obtain ⟨q17, hq17, hf⟩ := bindE hf
            refine rx_cVi hG (c_P_granted_0 l E T 0 hq17) (skX0 T) rfl rfl kw_P_116 ⟨Nat.le_of_ble_eq_true rfl, Nat.le_of_ble_eq_true rfl⟩ rfl (Nat.le_of_ble_eq_true rfl) dX9_back_74 ?_
            refine rx_pop hG dX9_back_77 rfl ?_
            refine rx_iconst hG 1 dX9_back_78 ic_1 ?_
            cases hf
            exact rx_zret hG zr1 dX9_back_79
          have hf := ifF hf c13
          cases hf
        · have hf := ifT hf c7
          refine rx_aload_n hG dX9_back_27 0 rfl ?_
          refine rx_iconst hG 1 dX9_back_28 ic_1 ?_
          obtain ⟨q18, hq18, hf⟩ := bindE hf
          refine rx_cVi hG (c_P_refused_0 l E T 1 hq18) (skX0 T) rfl rfl kw_P_79 ⟨Nat.le_of_ble_eq_true rfl, Nat.le_of_ble_eq_true rfl⟩ rfl (Nat.le_of_ble_eq_true rfl) dX9_back_29 ?_
          refine rx_pop hG dX9_back_32 rfl ?_
          refine rx_iconst hG 0 dX9_back_33 ic_0 ?_
          cases hf
          exact rx_zret hG zr0 dX9_back_34
      have hf := ifF hf c6
      by_cases c19 : p0 = 1
      · have hf := ifT hf c19
        refine rx_aald (p := 86) hG (skX68 T) (by rw [c19]; decide) (by rw [c19]; rfl) dX9_back_20 ?_
        refine gfX_P_122_86 l E T hG dX9_back_21 ?_
        refine rx_if_ne hG 35 dX9_back_24 rfl (fun c20 => ?_) (fun c20 => ?_)
        · have hf := ifF hf c20
          refine rx_aload_n hG dX9_back_35 0 rfl ?_
          refine gfX_P_61_0 l E T hG dX9_back_36 ?_
          refine rx_iload_n hG dX9_back_39 1 rfl ?_
          by_cases c21 : p0 = 0
          · have hf := ifT hf c21
            refine rx_aald (p := 69) hG (skX68 T) (by rw [c21]; decide) (by rw [c21]; rfl) dX9_back_40 ?_
            refine rx_astore_n (lv2 := [(2, .ref (adr E 69)), (0, .ref (adr E 0)), (1, .int p0)]) hG dX9_back_41 (Nat.le_of_ble_eq_true rfl) rfl ?_
            refine rx_aload_n hG dX9_back_42 1 rfl ?_
            refine gfX_P_41_0 l E T hG dX9_back_43 ?_
            refine rx_aload_n hG dX9_back_46 0 rfl ?_
            refine gfX_P_287_69 l E T hG dX9_back_47 ?_
            obtain ⟨M22, hM22, hf⟩ := bindE hf
            refine rx_cVv hG (c_L_copy_35_73 l E T  hM22) (skX35 T) rfl rfl kw_P_288 ⟨Nat.le_of_ble_eq_true rfl, Nat.le_of_ble_eq_true rfl⟩ rfl (Nat.le_of_ble_eq_true rfl) dX9_back_50 ?_
            refine rx_aload_n hG dX9_back_53 1 rfl ?_
            refine gfX_P_32_0 l E T hG dX9_back_54 ?_
            refine rx_aload_n hG dX9_back_57 0 rfl ?_
            refine gfX_P_291_69 l E T hG dX9_back_58 ?_
            obtain ⟨M23, hM23, hf⟩ := bindE hf
            refine rx_cVv hG (c_V_copy_32_70 l E T  hM23) (skX32 T) rfl rfl kw_P_100 ⟨Nat.le_of_ble_eq_true rfl, Nat.le_of_ble_eq_true rfl⟩ rfl (Nat.le_of_ble_eq_true rfl) dX9_back_61 ?_
            refine rx_aload_n hG dX9_back_64 1 rfl ?_
            refine gfX_P_55_0 l E T hG dX9_back_65 ?_
            refine rx_iconst hG 0 dX9_back_68 ic_0 ?_
            obtain ⟨M24, hM24, hf⟩ := bindE hf
            refine pfX_P_119_65 l E T hG hM24 dX9_back_69 ?_
            refine rx_aload_n hG dX9_back_72 1 rfl ?_
            refine rx_iconst hG 0 dX9_back_73 ic_0 ?_
            obtain ⟨q25, hq25, hf⟩ := bindE hf
            refine rx_cVi hG (c_P_granted_0 l E T 0 hq25) (skX0 T) rfl rfl kw_P_116 ⟨Nat.le_of_ble_eq_true rfl, Nat.le_of_ble_eq_true rfl⟩ rfl (Nat.le_of_ble_eq_true rfl) dX9_back_74 ?_
            refine rx_pop hG dX9_back_77 rfl ?_
            refine rx_iconst hG 1 dX9_back_78 ic_1 ?_
            cases hf
            exact rx_zret hG zr1 dX9_back_79
          have hf := ifF hf c21
          by_cases c26 : p0 = 1
          · have hf := ifT hf c26
            refine rx_aald (p := 86) hG (skX68 T) (by rw [c26]; decide) (by rw [c26]; rfl) dX9_back_40 ?_
            refine rx_astore_n (lv2 := [(2, .ref (adr E 86)), (0, .ref (adr E 0)), (1, .int p0)]) hG dX9_back_41 (Nat.le_of_ble_eq_true rfl) rfl ?_
            refine rx_aload_n hG dX9_back_42 1 rfl ?_
            refine gfX_P_41_0 l E T hG dX9_back_43 ?_
            refine rx_aload_n hG dX9_back_46 0 rfl ?_
            refine gfX_P_287_86 l E T hG dX9_back_47 ?_
            obtain ⟨M27, hM27, hf⟩ := bindE hf
            refine rx_cVv hG (c_L_copy_35_90 l E T  hM27) (skX35 T) rfl rfl kw_P_288 ⟨Nat.le_of_ble_eq_true rfl, Nat.le_of_ble_eq_true rfl⟩ rfl (Nat.le_of_ble_eq_true rfl) dX9_back_50 ?_
            refine rx_aload_n hG dX9_back_53 1 rfl ?_
            refine gfX_P_32_0 l E T hG dX9_back_54 ?_
            refine rx_aload_n hG dX9_back_57 0 rfl ?_
            refine gfX_P_291_86 l E T hG dX9_back_58 ?_
            obtain ⟨M28, hM28, hf⟩ := bindE hf
            refine rx_cVv hG (c_V_copy_32_87 l E T  hM28) (skX32 T) rfl rfl kw_P_100 ⟨Nat.le_of_ble_eq_true rfl, Nat.le_of_ble_eq_true rfl⟩ rfl (Nat.le_of_ble_eq_true rfl) dX9_back_61 ?_
            refine rx_aload_n hG dX9_back_64 1 rfl ?_
            refine gfX_P_55_0 l E T hG dX9_back_65 ?_
            refine rx_iconst hG 0 dX9_back_68 ic_0 ?_
            obtain ⟨M29, hM29, hf⟩ := bindE hf
            refine pfX_P_119_65 l E T hG hM29 dX9_back_69 ?_
            refine rx_aload_n hG dX9_back_72 1 rfl ?_
            refine rx_iconst hG 0 dX9_back_73 ic_0 ?_
            obtain ⟨q30, hq30, hf⟩ := bindE hf
            refine rx_cVi hG (c_P_granted_0 l E T 0 hq30) (skX0 T) rfl rfl kw_P_116 ⟨Nat.le_of_ble_eq_true rfl, Nat.le_of_ble_eq_true rfl⟩ rfl (Nat.le_of_ble_eq_true rfl) dX9_back_74 ?_
            refine rx_pop hG dX9_back_77 rfl ?_
            refine rx_iconst hG 1 dX9_back_78 ic_1 ?_
            cases hf
            exact rx_zret hG zr1 dX9_back_79
          have hf := ifF hf c26
          cases hf
        · have hf := ifT hf c20
          refine rx_aload_n hG dX9_back_27 0 rfl ?_
          refine rx_iconst hG 1 dX9_back_28 ic_1 ?_
          obtain ⟨q31, hq31, hf⟩ := bindE hf
          refine rx_cVi hG (c_P_refused_0 l E T 1 hq31) (skX0 T) rfl rfl kw_P_79 ⟨Nat.le_of_ble_eq_true rfl, Nat.le_of_ble_eq_true rfl⟩ rfl (Nat.le_of_ble_eq_true rfl) dX9_back_29 ?_
          refine rx_pop hG dX9_back_32 rfl ?_
          refine rx_iconst hG 0 dX9_back_33 ic_0 ?_
          cases hf
          exact rx_zret hG zr0 dX9_back_34
      have hf := ifF hf c19
      cases hf
set_option maxHeartbeats 4000000 in
set_option maxRecDepth 100000 in
theorem c_P_bytes_0 (l : Launch) (E : En) (T : List Sk)  {M : Mm} {r : Int32} (h : f_P_bytes_0 M = some r) : Ct l (SKX ++ T) E yX9_bytes cX9_bytes 1 (some .int) 0 0 [.ref (adr E 0)] M (some (.int r)) M := by
  refine ct_of (by decide) (Nat.le_of_ble_eq_true rfl) ?_
  intro G hG
  show G 0 [(0, .ref (adr E 0))] [] M
  have hf := h
  unfold f_P_bytes_0 at hf
  refine rx_aload_n hG dX9_bytes_0 0 rfl ?_
  refine gfX_P_72_0 l E T hG dX9_bytes_1 ?_
  cases hf
  exact rx_iret hG dX9_bytes_4
set_option maxHeartbeats 4000000 in
set_option maxRecDepth 100000 in
theorem c_P_trouble_0 (l : Launch) (E : En) (T : List Sk)  {M : Mm} {r : Int32} (h : f_P_trouble_0 M = some r) : Ct l (SKX ++ T) E yX9_trouble cX9_trouble 1 (some .int) 0 0 [.ref (adr E 0)] M (some (.int r)) M := by
  refine ct_of (by decide) (Nat.le_of_ble_eq_true rfl) ?_
  intro G hG
  show G 0 [(0, .ref (adr E 0))] [] M
  have hf := h
  unfold f_P_trouble_0 at hf
  refine rx_aload_n hG dX9_trouble_0 0 rfl ?_
  refine gfX_P_125_0 l E T hG dX9_trouble_1 ?_
  cases hf
  exact rx_iret hG dX9_trouble_4
set_option maxHeartbeats 4000000 in
set_option maxRecDepth 100000 in
theorem Lj_P_letter_0_42 (l : Launch) (E : En) (T : List Sk) {a0 b0 kc ks : Nat} {r : Int32} {M : Mm} {G : Nat → List (Nat × Value) → List Value → Mm → Prop} (hG : RX l (SKX ++ T) E RX9 cX9_letter 5 (some .int) { frames := 2, cells := a0, slots := b0, locals := 42 } kc ks (some (.int r)) M G)  : ∀ (x3 : Int32) (t0 : Int32), j_P_letter_0_42  x3 t0 M = some r → G 42 [(0, .ref (adr E 0)), (3, .int x3)] [.int t0] M := by
  intro x3 t0 hf
  unfold j_P_letter_0_42 at hf
  refine rx_istore (lv2 := [(4, .int t0), (0, .ref (adr E 0)), (3, .int x3)]) hG dX9_letter_42 (Nat.le_of_ble_eq_true rfl) rfl ?_
  refine rx_iload_n hG dX9_letter_44 2 rfl ?_
  refine rx_aload_n hG dX9_letter_45 1 rfl ?_
  refine gfX_P_16_0 l E T hG dX9_letter_46 ?_
  refine gfX_P_295_2 l E T hG dX9_letter_49 ?_
  refine rx_iload hG dX9_letter_52 0 rfl ?_
  obtain ⟨v1, hv1, hf⟩ := bindE hf
  refine rx_iald hG (skX10 T) hv1 dX9_letter_54 ?_
  refine rx_iconst hG 1 dX9_letter_55 ic_1 ?_
  refine rx_isub hG dX9_letter_56 ?_
  obtain ⟨v2, hv2, hf⟩ := bindE hf
  refine rx_cSi hG (c_P_within l E (SKX ++ T) x3 (v1 - 1) hv2) kw_P_128 ⟨Nat.le_of_ble_eq_true rfl, Nat.le_of_ble_eq_true rfl⟩ rfl (Nat.le_of_ble_eq_true rfl) dX9_letter_57 ?_
  refine rx_if_ne hG 71 dX9_letter_60 rfl (fun c3 => ?_) (fun c3 => ?_)
  · have hf := ifF hf c3
    refine rx_aload_n hG dX9_letter_71 1 rfl ?_
    refine gfX_P_16_0 l E T hG dX9_letter_72 ?_
    refine gfX_P_298_2 l E T hG dX9_letter_75 ?_
    refine rx_bipush hG 6 dX9_letter_78 bp_6 ?_
    refine rx_iload hG dX9_letter_80 0 rfl ?_
    refine rx_imul hG dX9_letter_82 ?_
    refine rx_iload_n hG dX9_letter_83 2 rfl ?_
    refine rx_iadd hG dX9_letter_84 ?_
    obtain ⟨v4, hv4, hf⟩ := bindE hf
    refine rx_iald hG (skX9 T) hv4 dX9_letter_85 ?_
    cases hf
    exact rx_iret hG dX9_letter_86
  · have hf := ifT hf c3
    cases hf
set_option maxHeartbeats 4000000 in
set_option maxRecDepth 100000 in
theorem Lj_P_letter_0_31 (l : Launch) (E : En) (T : List Sk) {a0 b0 kc ks : Nat} {r : Int32} {M : Mm} {G : Nat → List (Nat × Value) → List Value → Mm → Prop} (hG : RX l (SKX ++ T) E RX9 cX9_letter 5 (some .int) { frames := 2, cells := a0, slots := b0, locals := 42 } kc ks (some (.int r)) M G)  : ∀ (x1 : Int32) (x2 : Int32) (x3 : Int32), j_P_letter_0_31  x1 x2 x3 M = some r → G 31 [(0, .ref (adr E 0)), (1, .int x1), (2, .int x2), (3, .int x3)] [] M := by
  intro x1 x2 x3 hf
  unfold j_P_letter_0_31 at hf
  refine rx_iload_n hG dX9_letter_31 1 rfl ?_
  refine rx_if_eq hG 39 dX9_letter_32 rfl (fun c1 => ?_) (fun c1 => ?_)
  · have hf := ifT hf c1
    refine rx_iconst hG 3 dX9_letter_39 ic_3 ?_
    refine rx_iload_n hG dX9_letter_40 2 rfl ?_
    refine rx_iadd hG dX9_letter_41 ?_
    refine rx_sub hG [0, 3] (lv' := [(0, .ref (adr E 0)), (3, .int x3)]) rfl ?_
    exact Lj_P_letter_0_42 l E T hG  x3 (3 + x2) hf
  · have hf := ifF hf c1
    refine rx_iload_n hG dX9_letter_35 2 rfl ?_
    refine rx_goto hG 42 dX9_letter_36 rfl ?_
    refine rx_sub hG [0, 3] (lv' := [(0, .ref (adr E 0)), (3, .int x3)]) rfl ?_
    exact Lj_P_letter_0_42 l E T hG  x3 x2 hf
set_option maxHeartbeats 4000000 in
set_option maxRecDepth 100000 in
theorem Lj_P_letter_0_23 (l : Launch) (E : En) (T : List Sk) {a0 b0 kc ks : Nat} {r : Int32} {M : Mm} {G : Nat → List (Nat × Value) → List Value → Mm → Prop} (hG : RX l (SKX ++ T) E RX9 cX9_letter 5 (some .int) { frames := 2, cells := a0, slots := b0, locals := 42 } kc ks (some (.int r)) M G)  : j_P_letter_0_23  M = some r → G 23 [] [] M := by
  intro  hf
  unfold j_P_letter_0_23 at hf
  cases hf
set_option maxHeartbeats 4000000 in
set_option maxRecDepth 100000 in
theorem c_P_letter_0 (l : Launch) (E : En) (T : List Sk) (p0 : Int32) (p1 : Int32) (p2 : Int32) {M : Mm} {r : Int32} (h : f_P_letter_0 p0 p1 p2 M = some r) : Ct l (SKX ++ T) E yX9_letter cX9_letter 5 (some .int) 2 42 [.ref (adr E 0), .int p0, .int p1, .int p2] M (some (.int r)) M := by
  refine ct_of (by decide) (Nat.le_of_ble_eq_true rfl) ?_
  intro G hG
  show G 0 [(0, .ref (adr E 0)), (1, .int p0), (2, .int p1), (3, .int p2)] [] M
  have hf := h
  unfold f_P_letter_0 at hf
  refine rx_iload_n hG dX9_letter_0 1 rfl ?_
  refine rx_if_eq hG 15 dX9_letter_1 rfl (fun c1 => ?_) (fun c1 => ?_)
  · have hf := ifT hf c1
    refine rx_aload_n hG dX9_letter_15 0 rfl ?_
    refine rx_iload_n hG dX9_letter_16 2 rfl ?_
    obtain ⟨v2, hv2, hf⟩ := bindE hf
    refine rx_cVi hG (c_P_isBench_0 l E T p1 hv2) (skX0 T) rfl rfl kw_P_150 ⟨Nat.le_of_ble_eq_true rfl, Nat.le_of_ble_eq_true rfl⟩ rfl (Nat.le_of_ble_eq_true rfl) dX9_letter_17 ?_
    refine rx_if_ne hG 31 dX9_letter_20 rfl (fun c3 => ?_) (fun c3 => ?_)
    · have hf := ifF hf c3
      exact Lj_P_letter_0_31 l E T hG  p0 p1 p2 hf
    · have hf := ifT hf c3
      refine rx_sub hG [] (lv' := []) rfl ?_
      exact Lj_P_letter_0_23 l E T hG   hf
  · have hf := ifF hf c1
    refine rx_aload_n hG dX9_letter_4 0 rfl ?_
    refine rx_iload_n hG dX9_letter_5 2 rfl ?_
    obtain ⟨v4, hv4, hf⟩ := bindE hf
    refine rx_cVi hG (c_P_isKind_0 l E T p1 hv4) (skX0 T) rfl rfl kw_P_167 ⟨Nat.le_of_ble_eq_true rfl, Nat.le_of_ble_eq_true rfl⟩ rfl (Nat.le_of_ble_eq_true rfl) dX9_letter_6 ?_
    refine rx_if_eq hG 23 dX9_letter_9 rfl (fun c5 => ?_) (fun c5 => ?_)
    · have hf := ifT hf c5
      refine rx_sub hG [] (lv' := []) rfl ?_
      exact Lj_P_letter_0_23 l E T hG   hf
    · have hf := ifF hf c5
      refine rx_goto hG 31 dX9_letter_12 rfl ?_
      exact Lj_P_letter_0_31 l E T hG  p0 p1 p2 hf
set_option maxHeartbeats 4000000 in
set_option maxRecDepth 100000 in
theorem c_M_thrown_0 (l : Launch) (E : En) (T : List Sk)  {M : Mm} {r : Int32} (h : f_M_thrown_0 M = some r) : Ct l (SKM ++ T) E yX10_thrown cX10_thrown 1 (some .int) 0 0 [.ref (adr E 0)] M (some (.int r)) M := by
  refine ct_of (by decide) (Nat.le_of_ble_eq_true rfl) ?_
  intro G hG
  show G 0 [(0, .ref (adr E 0))] [] M
  have hf := h
  unfold f_M_thrown_0 at hf
  refine rx_aload_n hG dX10_thrown_0 0 rfl ?_
  refine gfM_M_74_0 l E T hG dX10_thrown_1 ?_
  cases hf
  exact rx_iret hG dX10_thrown_4
set_option maxHeartbeats 4000000 in
set_option maxRecDepth 100000 in
theorem Lj_M_feed_0_113 (l : Launch) (E : En) (T : List Sk) {a0 b0 kc ks : Nat} {r : Int32} {M' : Mm} {G : Nat → List (Nat × Value) → List Value → Mm → Prop} (hG : RX l (SKM ++ T) E RX10 cX10_feed 8 (some .int) { frames := 0, cells := a0, slots := b0, locals := 0 } kc ks (some (.int r)) M' G)  : ∀  (M : Mm), j_M_feed_0_113  M = some (r, M') → G 113 [(0, .ref (adr E 0))] [] M := by
  intro M hf
  unfold j_M_feed_0_113 at hf
  refine rx_aload_n hG dX10_feed_113 0 rfl ?_
  refine rx_dup hG dX10_feed_114 rfl ?_
  refine gfM_M_80_0 l E T hG dX10_feed_115 ?_
  refine rx_bipush hG 20 dX10_feed_118 bp_20 ?_
  refine rx_iadd hG dX10_feed_120 ?_
  obtain ⟨M1, hM1, hf⟩ := bindE hf
  refine pfM_M_80_0 l E T hG hM1 dX10_feed_121 ?_
  refine rx_aload_n hG dX10_feed_124 0 rfl ?_
  refine gfM_M_80_0 l E T hG dX10_feed_125 ?_
  cases hf
  exact rx_iret hG dX10_feed_128
set_option maxHeartbeats 4000000 in
set_option maxRecDepth 100000 in
theorem Lj_M_feed_0_76 (l : Launch) (E : En) (T : List Sk) {a0 b0 kc ks : Nat} {r : Int32} {M' : Mm} {G : Nat → List (Nat × Value) → List Value → Mm → Prop} (hG : RX l (SKM ++ T) E RX10 cX10_feed 8 (some .int) { frames := 0, cells := a0, slots := b0, locals := 0 } kc ks (some (.int r)) M' G) (rc23 : Int32 → Int32 → Int32 → Int32 → Int32 → Int32 → Mm → Option (Int32 × Mm)) (hrc23 : ∀ (x1 : Int32) (x2 : Int32) (x3 : Int32) (x4 : Int32) (x5 : Int32) (x6 : Int32) (M : Mm), rc23 x1 x2 x3 x4 x5 x6 M = some (r, M') → G 23 [(0, .ref (adr E 0)), (1, .int x1), (2, .int x2), (3, .int x3), (4, .int x4), (5, .int x5), (6, .int x6)] [] M) : ∀ (x1 : Int32) (x2 : Int32) (x3 : Int32) (x4 : Int32) (x5 : Int32) (x6 : Int32) (t0 : Int32) (M : Mm), j_M_feed_0_76 rc23 x1 x2 x3 x4 x5 x6 t0 M = some (r, M') → G 76 [(0, .ref (adr E 0)), (1, .int x1), (2, .int x2), (3, .int x3), (4, .int x4), (5, .int x5), (6, .int x6)] [.int t0] M := by
  intro x1 x2 x3 x4 x5 x6 t0 M hf
  unfold j_M_feed_0_76 at hf
  refine rx_istore (lv2 := [(7, .int t0), (0, .ref (adr E 0)), (1, .int x1), (2, .int x2), (3, .int x3), (4, .int x4), (5, .int x5), (6, .int x6)]) hG dX10_feed_76 (Nat.le_of_ble_eq_true rfl) rfl ?_
  refine rx_aload_n hG dX10_feed_78 1 rfl ?_
  refine gfM_M_13_0 l E T hG dX10_feed_79 ?_
  refine rx_aload_n hG dX10_feed_82 1 rfl ?_
  refine gfM_M_80_0 l E T hG dX10_feed_83 ?_
  refine rx_iload hG dX10_feed_86 7 rfl ?_
  refine rx_iadd hG dX10_feed_88 ?_
  refine rx_iload hG dX10_feed_89 0 rfl ?_
  refine rx_bipush hG 24 dX10_feed_91 bp_24 ?_
  refine rx_bipush hG 8 dX10_feed_93 bp_8 ?_
  refine rx_iload hG dX10_feed_95 7 rfl ?_
  refine rx_iconst hG 4 dX10_feed_97 ic_4 ?_
  obtain ⟨v1, hv1, hf⟩ := bindE hf
  refine rx_irem hG hv1 dX10_feed_98 ?_
  refine rx_imul hG dX10_feed_99 ?_
  refine rx_isub hG dX10_feed_100 ?_
  refine rx_ishr hG dX10_feed_101 ?_
  refine rx_sipush hG 255 dX10_feed_102 sp_255 ?_
  refine rx_iand hG dX10_feed_105 ?_
  obtain ⟨M2, hM2, hf⟩ := bindE hf
  refine rx_iast hG (skM1 T) hM2 dX10_feed_106 ?_
  refine rx_iinc (lv2 := [(6, .int (x6 + 1)), (7, .int t0), (0, .ref (adr E 0)), (1, .int x1), (2, .int x2), (3, .int x3), (4, .int x4), (5, .int x5)]) hG 1 dX10_feed_107 ic_1 7 rfl (Nat.le_of_ble_eq_true rfl) rfl ?_
  refine rx_goto hG 23 dX10_feed_110 rfl ?_
  refine rx_sub hG [2, 3, 4, 5, 6, 7, 0] (lv' := [(0, .ref (adr E 0)), (1, .int x1), (2, .int x2), (3, .int x3), (4, .int x4), (5, .int x5), (6, .int (x6 + 1))]) rfl ?_
  exact hrc23 x1 x2 x3 x4 x5 (x6 + 1) M2 hf
set_option maxHeartbeats 4000000 in
set_option maxRecDepth 100000 in
theorem Lblp_M_feed_0_23 (l : Launch) (E : En) (T : List Sk) {a0 b0 kc ks : Nat} {r : Int32} {M' : Mm} {G : Nat → List (Nat × Value) → List Value → Mm → Prop} (hG : RX l (SKM ++ T) E RX10 cX10_feed 8 (some .int) { frames := 0, cells := a0, slots := b0, locals := 0 } kc ks (some (.int r)) M' G) (rc23 : Int32 → Int32 → Int32 → Int32 → Int32 → Int32 → Mm → Option (Int32 × Mm)) (hrc23 : ∀ (x1 : Int32) (x2 : Int32) (x3 : Int32) (x4 : Int32) (x5 : Int32) (x6 : Int32) (M : Mm), rc23 x1 x2 x3 x4 x5 x6 M = some (r, M') → G 23 [(0, .ref (adr E 0)), (1, .int x1), (2, .int x2), (3, .int x3), (4, .int x4), (5, .int x5), (6, .int x6)] [] M) : ∀ (x1 : Int32) (x2 : Int32) (x3 : Int32) (x4 : Int32) (x5 : Int32) (x6 : Int32) (M : Mm), blp_M_feed_0_23 rc23 x1 x2 x3 x4 x5 x6 M = some (r, M') → G 23 [(0, .ref (adr E 0)), (1, .int x1), (2, .int x2), (3, .int x3), (4, .int x4), (5, .int x5), (6, .int x6)] [] M := by
  intro x1 x2 x3 x4 x5 x6 M hf
  unfold blp_M_feed_0_23 at hf
  refine rx_iload hG dX10_feed_23 6 rfl ?_
  refine rx_bipush hG 20 dX10_feed_25 bp_20 ?_
  refine rx_icmp_ge hG 113 dX10_feed_27 rfl (fun c1 => ?_) (fun c1 => ?_)
  · have hf := ifT hf c1
    refine rx_sub hG [0] (lv' := [(0, .ref (adr E 0))]) rfl ?_
    exact Lj_M_feed_0_113 l E T hG  M hf
  · have hf := ifF hf c1
    refine rx_iload hG dX10_feed_30 6 rfl ?_
    refine rx_iconst hG 4 dX10_feed_32 ic_4 ?_
    refine rx_icmp_ge hG 40 dX10_feed_33 rfl (fun c2 => ?_) (fun c2 => ?_)
    · have hf := ifT hf c2
      refine rx_iload hG dX10_feed_40 6 rfl ?_
      refine rx_bipush hG 8 dX10_feed_42 bp_8 ?_
      refine rx_icmp_ge hG 51 dX10_feed_44 rfl (fun c3 => ?_) (fun c3 => ?_)
      · have hf := ifT hf c3
        refine rx_iload hG dX10_feed_51 6 rfl ?_
        refine rx_bipush hG 12 dX10_feed_53 bp_12 ?_
        refine rx_icmp_ge hG 62 dX10_feed_55 rfl (fun c4 => ?_) (fun c4 => ?_)
        · have hf := ifT hf c4
          refine rx_iload hG dX10_feed_62 6 rfl ?_
          refine rx_bipush hG 16 dX10_feed_64 bp_16 ?_
          refine rx_icmp_ge hG 74 dX10_feed_66 rfl (fun c5 => ?_) (fun c5 => ?_)
          · have hf := ifT hf c5
            refine rx_iload hG dX10_feed_74 5 rfl ?_
            exact Lj_M_feed_0_76 l E T hG rc23 hrc23 x1 x2 x3 x4 x5 x6 x5 M hf
          · have hf := ifF hf c5
            refine rx_iload hG dX10_feed_69 4 rfl ?_
            refine rx_goto hG 76 dX10_feed_71 rfl ?_
            exact Lj_M_feed_0_76 l E T hG rc23 hrc23 x1 x2 x3 x4 x5 x6 x4 M hf
        · have hf := ifF hf c4
          refine rx_iload_n hG dX10_feed_58 3 rfl ?_
          refine rx_goto hG 76 dX10_feed_59 rfl ?_
          exact Lj_M_feed_0_76 l E T hG rc23 hrc23 x1 x2 x3 x4 x5 x6 x3 M hf
      · have hf := ifF hf c3
        refine rx_iload_n hG dX10_feed_47 2 rfl ?_
        refine rx_goto hG 76 dX10_feed_48 rfl ?_
        exact Lj_M_feed_0_76 l E T hG rc23 hrc23 x1 x2 x3 x4 x5 x6 x2 M hf
    · have hf := ifF hf c2
      refine rx_iload_n hG dX10_feed_36 1 rfl ?_
      refine rx_goto hG 76 dX10_feed_37 rfl ?_
      exact Lj_M_feed_0_76 l E T hG rc23 hrc23 x1 x2 x3 x4 x5 x6 x1 M hf
theorem Llp_M_feed_0_23 (l : Launch) (E : En) (T : List Sk) {a0 b0 kc ks : Nat} {r : Int32} {M' : Mm} {G : Nat → List (Nat × Value) → List Value → Mm → Prop} (hG : RX l (SKM ++ T) E RX10 cX10_feed 8 (some .int) { frames := 0, cells := a0, slots := b0, locals := 0 } kc ks (some (.int r)) M' G)  : ∀ (n : Nat) (x1 : Int32) (x2 : Int32) (x3 : Int32) (x4 : Int32) (x5 : Int32) (x6 : Int32) (M : Mm), lp_M_feed_0_23  n x1 x2 x3 x4 x5 x6 M = some (r, M') → G 23 [(0, .ref (adr E 0)), (1, .int x1), (2, .int x2), (3, .int x3), (4, .int x4), (5, .int x5), (6, .int x6)] [] M := by
  intro n
  induction n with
  | zero => intro x1 x2 x3 x4 x5 x6 M hf; cases hf
  | succ n ih => intro x1 x2 x3 x4 x5 x6 M hf; exact Lblp_M_feed_0_23 l E T hG  (lp_M_feed_0_23  n) ih x1 x2 x3 x4 x5 x6 M hf
set_option maxHeartbeats 4000000 in
set_option maxRecDepth 100000 in
theorem c_M_feed_0 (l : Launch) (E : En) (T : List Sk) (p0 : Int32) (p1 : Int32) (p2 : Int32) (p3 : Int32) (p4 : Int32) {M M' : Mm} {r : Int32} (h : f_M_feed_0 p0 p1 p2 p3 p4 M = some (r, M')) : Ct l (SKM ++ T) E yX10_feed cX10_feed 8 (some .int) 0 0 [.ref (adr E 0), .int p0, .int p1, .int p2, .int p3, .int p4] M (some (.int r)) M' := by
  refine ct_of (by decide) (Nat.le_of_ble_eq_true rfl) ?_
  intro G hG
  show G 0 [(0, .ref (adr E 0)), (1, .int p0), (2, .int p1), (3, .int p2), (4, .int p3), (5, .int p4)] [] M
  have hf := h
  unfold f_M_feed_0 at hf
  refine rx_aload_n hG dX10_feed_0 0 rfl ?_
  refine rx_iconst hG 0 dX10_feed_1 ic_0 ?_
  obtain ⟨M1, hM1, hf⟩ := bindE hf
  refine pfM_M_74_0 l E T hG hM1 dX10_feed_2 ?_
  refine rx_aload_n hG dX10_feed_5 0 rfl ?_
  refine gfM_M_80_0 l E T hG dX10_feed_6 ?_
  refine rx_bipush hG 20 dX10_feed_9 bp_20 ?_
  refine rx_iadd hG dX10_feed_11 ?_
  refine rx_sipush hG 600 dX10_feed_12 sp_600 ?_
  refine rx_icmp_le hG 20 dX10_feed_15 rfl (fun c2 => ?_) (fun c2 => ?_)
  · have hf := ifT hf c2
    refine rx_iconst hG 0 dX10_feed_20 ic_0 ?_
    refine rx_istore (lv2 := [(6, .int 0), (0, .ref (adr E 0)), (1, .int p0), (2, .int p1), (3, .int p2), (4, .int p3), (5, .int p4)]) hG dX10_feed_21 (Nat.le_of_ble_eq_true rfl) rfl ?_
    refine rx_sub hG [1, 2, 3, 4, 5, 6, 0] (lv' := [(0, .ref (adr E 0)), (1, .int p0), (2, .int p1), (3, .int p2), (4, .int p3), (5, .int p4), (6, .int 0)]) rfl ?_
    exact Llp_M_feed_0_23 l E T hG  FW p0 p1 p2 p3 p4 0 M1 hf
  · have hf := ifF hf c2
    refine rx_iconst hG (-1) dX10_feed_18 ic_m1 ?_
    cases hf
    exact rx_iret hG dX10_feed_19
set_option maxHeartbeats 4000000 in
set_option maxRecDepth 100000 in
theorem c_M_fault_0 (l : Launch) (E : En) (T : List Sk)  {M M' : Mm} {r : Int32} (h : f_M_fault_0 M = some (r, M')) : Ct l (SKM ++ T) E yX10_fault cX10_fault 1 (some .int) 0 0 [.ref (adr E 0)] M (some (.int r)) M' := by
  refine ct_of (by decide) (Nat.le_of_ble_eq_true rfl) ?_
  intro G hG
  show G 0 [(0, .ref (adr E 0))] [] M
  have hf := h
  unfold f_M_fault_0 at hf
  refine rx_aload_n hG dX10_fault_0 0 rfl ?_
  refine rx_iconst hG 0 dX10_fault_1 ic_0 ?_
  obtain ⟨M1, hM1, hf⟩ := bindE hf
  refine pfM_M_74_0 l E T hG hM1 dX10_fault_2 ?_
  refine rx_aload_n hG dX10_fault_5 0 rfl ?_
  refine gfM_M_83_0 l E T hG dX10_fault_6 ?_
  cases hf
  exact rx_iret hG dX10_fault_9
set_option maxHeartbeats 4000000 in
set_option maxRecDepth 100000 in
theorem c_M_where_0 (l : Launch) (E : En) (T : List Sk)  {M M' : Mm} {r : Int32} (h : f_M_where_0 M = some (r, M')) : Ct l (SKM ++ T) E yX10_where cX10_where 1 (some .int) 0 0 [.ref (adr E 0)] M (some (.int r)) M' := by
  refine ct_of (by decide) (Nat.le_of_ble_eq_true rfl) ?_
  intro G hG
  show G 0 [(0, .ref (adr E 0))] [] M
  have hf := h
  unfold f_M_where_0 at hf
  refine rx_aload_n hG dX10_where_0 0 rfl ?_
  refine rx_iconst hG 0 dX10_where_1 ic_0 ?_
  obtain ⟨M1, hM1, hf⟩ := bindE hf
  refine pfM_M_74_0 l E T hG hM1 dX10_where_2 ?_
  refine rx_aload_n hG dX10_where_5 0 rfl ?_
  refine gfM_M_9_0 l E T hG dX10_where_6 ?_
  cases hf
  exact rx_iret hG dX10_where_9
set_option maxHeartbeats 4000000 in
set_option maxRecDepth 100000 in
theorem c_M_in (l : Launch) (E : En) (T : List Sk) (p0 : Int32) (p1 : Int32) (p2 : Int32) {M : Mm} {r : Int32} (h : f_M_in p0 p1 p2 = some r) : Ct l T E yX10_in cX10_in 3 (some .boolean) 0 0 [.int p0, .int p1, .int p2] M (some (.int r)) M := by
  refine ct_of (by decide) (Nat.le_of_ble_eq_true rfl) ?_
  intro G hG
  show G 0 [(0, .int p0), (1, .int p1), (2, .int p2)] [] M
  have hf := h
  unfold f_M_in at hf
  refine rx_iload_n hG dX10_in_0 0 rfl ?_
  refine rx_iload_n hG dX10_in_1 1 rfl ?_
  refine rx_icmp_lt hG 14 dX10_in_2 rfl (fun c1 => ?_) (fun c1 => ?_)
  · have hf := ifT hf c1
    refine rx_iconst hG 0 dX10_in_14 ic_0 ?_
    cases hf
    exact rx_zret hG zr0 dX10_in_15
  · have hf := ifF hf c1
    refine rx_iload_n hG dX10_in_5 0 rfl ?_
    refine rx_iload_n hG dX10_in_6 2 rfl ?_
    refine rx_icmp_gt hG 14 dX10_in_7 rfl (fun c2 => ?_) (fun c2 => ?_)
    · have hf := ifT hf c2
      refine rx_iconst hG 0 dX10_in_14 ic_0 ?_
      cases hf
      exact rx_zret hG zr0 dX10_in_15
    · have hf := ifF hf c2
      refine rx_iconst hG 1 dX10_in_10 ic_1 ?_
      refine rx_goto hG 15 dX10_in_11 rfl ?_
      cases hf
      exact rx_zret hG zr1 dX10_in_15
set_option maxHeartbeats 4000000 in
set_option maxRecDepth 100000 in
theorem c_M_isLetterAt_0 (l : Launch) (E : En) (T : List Sk) (p0 : Int32) {M : Mm} {r : Int32} (h : f_M_isLetterAt_0 p0 M = some r) : Ct l (SKM ++ T) E yX10_isLetterAt cX10_isLetterAt 2 (some .boolean) 1 22 [.ref (adr E 0), .int p0] M (some (.int r)) M := by
  refine ct_of (by decide) (Nat.le_of_ble_eq_true rfl) ?_
  intro G hG
  show G 0 [(0, .ref (adr E 0)), (1, .int p0)] [] M
  have hf := h
  unfold f_M_isLetterAt_0 at hf
  refine rx_iload_n hG dX10_isLetterAt_0 1 rfl ?_
  refine rx_aload_n hG dX10_isLetterAt_1 0 rfl ?_
  refine gfM_M_92_0 l E T hG dX10_isLetterAt_2 ?_
  refine rx_icmp_ge hG 28 dX10_isLetterAt_5 rfl (fun c1 => ?_) (fun c1 => ?_)
  · have hf := ifT hf c1
    refine rx_iconst hG 0 dX10_isLetterAt_28 ic_0 ?_
    cases hf
    exact rx_zret hG zr0 dX10_isLetterAt_29
  · have hf := ifF hf c1
    refine rx_aload_n hG dX10_isLetterAt_8 0 rfl ?_
    refine gfM_M_13_0 l E T hG dX10_isLetterAt_9 ?_
    refine rx_iload_n hG dX10_isLetterAt_12 1 rfl ?_
    obtain ⟨v2, hv2, hf⟩ := bindE hf
    refine rx_iald hG (skM1 T) hv2 dX10_isLetterAt_13 ?_
    refine rx_bipush hG 97 dX10_isLetterAt_14 bp_97 ?_
    refine rx_bipush hG 122 dX10_isLetterAt_16 bp_122 ?_
    obtain ⟨v3, hv3, hf⟩ := bindE hf
    refine rx_cSi hG (c_M_in l E (SKM ++ T) v2 97 122 hv3) kw_M_95 ⟨Nat.le_of_ble_eq_true rfl, Nat.le_of_ble_eq_true rfl⟩ rfl (Nat.le_of_ble_eq_true rfl) dX10_isLetterAt_18 ?_
    refine rx_if_eq hG 28 dX10_isLetterAt_21 rfl (fun c4 => ?_) (fun c4 => ?_)
    · have hf := ifT hf c4
      refine rx_iconst hG 0 dX10_isLetterAt_28 ic_0 ?_
      cases hf
      exact rx_zret hG zr0 dX10_isLetterAt_29
    · have hf := ifF hf c4
      refine rx_iconst hG 1 dX10_isLetterAt_24 ic_1 ?_
      refine rx_goto hG 29 dX10_isLetterAt_25 rfl ?_
      cases hf
      exact rx_zret hG zr1 dX10_isLetterAt_29
set_option maxHeartbeats 4000000 in
set_option maxRecDepth 100000 in
theorem c_M_isDigitAt_0 (l : Launch) (E : En) (T : List Sk) (p0 : Int32) {M : Mm} {r : Int32} (h : f_M_isDigitAt_0 p0 M = some r) : Ct l (SKM ++ T) E yX10_isDigitAt cX10_isDigitAt 2 (some .boolean) 1 22 [.ref (adr E 0), .int p0] M (some (.int r)) M := by
  refine ct_of (by decide) (Nat.le_of_ble_eq_true rfl) ?_
  intro G hG
  show G 0 [(0, .ref (adr E 0)), (1, .int p0)] [] M
  have hf := h
  unfold f_M_isDigitAt_0 at hf
  refine rx_iload_n hG dX10_isDigitAt_0 1 rfl ?_
  refine rx_aload_n hG dX10_isDigitAt_1 0 rfl ?_
  refine gfM_M_92_0 l E T hG dX10_isDigitAt_2 ?_
  refine rx_icmp_ge hG 28 dX10_isDigitAt_5 rfl (fun c1 => ?_) (fun c1 => ?_)
  · have hf := ifT hf c1
    refine rx_iconst hG 0 dX10_isDigitAt_28 ic_0 ?_
    cases hf
    exact rx_zret hG zr0 dX10_isDigitAt_29
  · have hf := ifF hf c1
    refine rx_aload_n hG dX10_isDigitAt_8 0 rfl ?_
    refine gfM_M_13_0 l E T hG dX10_isDigitAt_9 ?_
    refine rx_iload_n hG dX10_isDigitAt_12 1 rfl ?_
    obtain ⟨v2, hv2, hf⟩ := bindE hf
    refine rx_iald hG (skM1 T) hv2 dX10_isDigitAt_13 ?_
    refine rx_bipush hG 48 dX10_isDigitAt_14 bp_48 ?_
    refine rx_bipush hG 57 dX10_isDigitAt_16 bp_57 ?_
    obtain ⟨v3, hv3, hf⟩ := bindE hf
    refine rx_cSi hG (c_M_in l E (SKM ++ T) v2 48 57 hv3) kw_M_95 ⟨Nat.le_of_ble_eq_true rfl, Nat.le_of_ble_eq_true rfl⟩ rfl (Nat.le_of_ble_eq_true rfl) dX10_isDigitAt_18 ?_
    refine rx_if_eq hG 28 dX10_isDigitAt_21 rfl (fun c4 => ?_) (fun c4 => ?_)
    · have hf := ifT hf c4
      refine rx_iconst hG 0 dX10_isDigitAt_28 ic_0 ?_
      cases hf
      exact rx_zret hG zr0 dX10_isDigitAt_29
    · have hf := ifF hf c4
      refine rx_iconst hG 1 dX10_isDigitAt_24 ic_1 ?_
      refine rx_goto hG 29 dX10_isDigitAt_25 rfl ?_
      cases hf
      exact rx_zret hG zr1 dX10_isDigitAt_29

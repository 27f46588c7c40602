set_option maxHeartbeats 4000000 in
set_option maxRecDepth 100000 in
theorem Lblp_P_putBytes_0_3 (l : Launch) (E : En) (T : List Sk) {a0 b0 kc ks : Nat} {M' : Mm} {G : Nat → List (Nat × Value) → List Value → Mm → Prop} (hG : RX l (SKX ++ T) E RX9 cX9_putBytes 3 none { frames := 0, cells := a0, slots := b0, locals := 0 } kc ks none M' G) (rc3 : Int32 → Int32 → Mm → Option Mm) (hrc3 : ∀ (x1 : Int32) (x2 : Int32) (M : Mm), rc3 x1 x2 M = some M' → G 3 [(0, .ref (adr E 0)), (1, .int x1), (2, .int x2)] [] M) : ∀ (x1 : Int32) (x2 : Int32) (M : Mm), blp_P_putBytes_0_3 rc3 x1 x2 M = some M' → G 3 [(0, .ref (adr E 0)), (1, .int x1), (2, .int x2)] [] M := by
  intro x1 x2 M hf
  unfold blp_P_putBytes_0_3 at hf
  refine rx_iload_n hG dX9_putBytes_3 2 rfl ?_
  refine rx_if_lt hG 46 dX9_putBytes_4 rfl (fun c1 => ?_) (fun c1 => ?_)
  · have hf := ifT hf c1
    cases hf
    exact rx_vret hG dX9_putBytes_46
  · have hf := ifF hf c1
    refine rx_aload_n hG dX9_putBytes_7 0 rfl ?_
    refine gfX_P_72_0 l E T hG dX9_putBytes_8 ?_
    refine rx_sipush hG 600 dX9_putBytes_11 sp_600 ?_
    refine rx_icmp_ge hG 46 dX9_putBytes_14 rfl (fun c2 => ?_) (fun c2 => ?_)
    · have hf := ifT hf c2
      cases hf
      exact rx_vret hG dX9_putBytes_46
    · have hf := ifF hf c2
      refine rx_aload_n hG dX9_putBytes_17 0 rfl ?_
      refine gfX_P_9_0 l E T hG dX9_putBytes_18 ?_
      refine rx_aload_n hG dX9_putBytes_21 0 rfl ?_
      refine gfX_P_72_0 l E T hG dX9_putBytes_22 ?_
      refine rx_iload_n hG dX9_putBytes_25 1 rfl ?_
      refine rx_iload_n hG dX9_putBytes_26 2 rfl ?_
      refine rx_ishr hG dX9_putBytes_27 ?_
      refine rx_i2b hG dX9_putBytes_28 ?_
      obtain ⟨M3, hM3, hf⟩ := bindE hf
      refine rx_bast hG (skX1 T) hM3 dX9_putBytes_29 ?_
      refine rx_aload_n hG dX9_putBytes_30 0 rfl ?_
      refine rx_dup hG dX9_putBytes_31 rfl ?_
      refine gfX_P_72_0 l E T hG dX9_putBytes_32 ?_
      refine rx_iconst hG 1 dX9_putBytes_35 ic_1 ?_
      refine rx_iadd hG dX9_putBytes_36 ?_
      obtain ⟨M4, hM4, hf⟩ := bindE hf
      refine pfX_P_72_0 l E T hG hM4 dX9_putBytes_37 ?_
      refine rx_iinc (lv2 := [(2, .int (x2 + (-8))), (0, .ref (adr E 0)), (1, .int x1)]) hG (-8) dX9_putBytes_40 ic_m8 2 rfl (Nat.le_of_ble_eq_true rfl) rfl ?_
      refine rx_goto hG 3 dX9_putBytes_43 rfl ?_
      refine rx_sub hG [1, 2, 0] (lv' := [(0, .ref (adr E 0)), (1, .int x1), (2, .int (x2 + (-8)))]) rfl ?_
      exact hrc3 x1 (x2 + (-8)) M4 hf
theorem Llp_P_putBytes_0_3 (l : Launch) (E : En) (T : List Sk) {a0 b0 kc ks : Nat} {M' : Mm} {G : Nat → List (Nat × Value) → List Value → Mm → Prop} (hG : RX l (SKX ++ T) E RX9 cX9_putBytes 3 none { frames := 0, cells := a0, slots := b0, locals := 0 } kc ks none M' G)  : ∀ (n : Nat) (x1 : Int32) (x2 : Int32) (M : Mm), lp_P_putBytes_0_3  n x1 x2 M = some M' → G 3 [(0, .ref (adr E 0)), (1, .int x1), (2, .int x2)] [] M := by
  intro n
  induction n with
  | zero => intro x1 x2 M hf; cases hf
  | succ n ih => intro x1 x2 M hf; exact Lblp_P_putBytes_0_3 l E T hG  (lp_P_putBytes_0_3  n) ih x1 x2 M hf
set_option maxHeartbeats 4000000 in
set_option maxRecDepth 100000 in
theorem c_P_putBytes_0 (l : Launch) (E : En) (T : List Sk) (p0 : Int32) {M M' : Mm} (h : f_P_putBytes_0 p0 M = some M') : Ct l (SKX ++ T) E yX9_putBytes cX9_putBytes 3 none 0 0 [.ref (adr E 0), .int p0] M none M' := by
  refine ct_of (by decide) (Nat.le_of_ble_eq_true rfl) ?_
  intro G hG
  show G 0 [(0, .ref (adr E 0)), (1, .int p0)] [] M
  have hf := h
  unfold f_P_putBytes_0 at hf
  refine rx_bipush hG 24 dX9_putBytes_0 bp_24 ?_
  refine rx_istore_n (lv2 := [(2, .int 24), (0, .ref (adr E 0)), (1, .int p0)]) hG dX9_putBytes_2 (Nat.le_of_ble_eq_true rfl) rfl ?_
  refine rx_sub hG [1, 2, 0] (lv' := [(0, .ref (adr E 0)), (1, .int p0), (2, .int 24)]) rfl ?_
  exact Llp_P_putBytes_0_3 l E T hG  FW p0 24 M hf
set_option maxHeartbeats 4000000 in
set_option maxRecDepth 100000 in
theorem c_P_feed_0 (l : Launch) (E : En) (T : List Sk) (p0 : Int32) (p1 : Int32) (p2 : Int32) (p3 : Int32) (p4 : Int32) {M M' : Mm} {r : Int32} (h : f_P_feed_0 p0 p1 p2 p3 p4 M = some (r, M')) : Ct l (SKX ++ T) E yX9_feed cX9_feed 6 (some .int) 1 22 [.ref (adr E 0), .int p0, .int p1, .int p2, .int p3, .int p4] M (some (.int r)) M' := by
  refine ct_of (by decide) (Nat.le_of_ble_eq_true rfl) ?_
  intro G hG
  show G 0 [(0, .ref (adr E 0)), (1, .int p0), (2, .int p1), (3, .int p2), (4, .int p3), (5, .int p4)] [] M
  have hf := h
  unfold f_P_feed_0 at hf
  refine rx_aload_n hG dX9_feed_0 0 rfl ?_
  refine gfX_P_72_0 l E T hG dX9_feed_1 ?_
  refine rx_bipush hG 20 dX9_feed_4 bp_20 ?_
  refine rx_iadd hG dX9_feed_6 ?_
  refine rx_sipush hG 600 dX9_feed_7 sp_600 ?_
  refine rx_icmp_le hG 15 dX9_feed_10 rfl (fun c1 => ?_) (fun c1 => ?_)
  · have hf := ifT hf c1
    refine rx_aload_n hG dX9_feed_15 0 rfl ?_
    refine rx_iload_n hG dX9_feed_16 1 rfl ?_
    obtain ⟨M2, hM2, hf⟩ := bindE hf
    refine rx_cVv hG (c_P_putBytes_0 l E T p0 hM2) (skX0 T) rfl rfl kw_P_75 ⟨Nat.le_of_ble_eq_true rfl, Nat.le_of_ble_eq_true rfl⟩ rfl (Nat.le_of_ble_eq_true rfl) dX9_feed_17 ?_
    refine rx_aload_n hG dX9_feed_20 0 rfl ?_
    refine rx_iload_n hG dX9_feed_21 2 rfl ?_
    obtain ⟨M3, hM3, hf⟩ := bindE hf
    refine rx_cVv hG (c_P_putBytes_0 l E T p1 hM3) (skX0 T) rfl rfl kw_P_75 ⟨Nat.le_of_ble_eq_true rfl, Nat.le_of_ble_eq_true rfl⟩ rfl (Nat.le_of_ble_eq_true rfl) dX9_feed_22 ?_
    refine rx_aload_n hG dX9_feed_25 0 rfl ?_
    refine rx_iload_n hG dX9_feed_26 3 rfl ?_
    obtain ⟨M4, hM4, hf⟩ := bindE hf
    refine rx_cVv hG (c_P_putBytes_0 l E T p2 hM4) (skX0 T) rfl rfl kw_P_75 ⟨Nat.le_of_ble_eq_true rfl, Nat.le_of_ble_eq_true rfl⟩ rfl (Nat.le_of_ble_eq_true rfl) dX9_feed_27 ?_
    refine rx_aload_n hG dX9_feed_30 0 rfl ?_
    refine rx_iload hG dX9_feed_31 4 rfl ?_
    obtain ⟨M5, hM5, hf⟩ := bindE hf
    refine rx_cVv hG (c_P_putBytes_0 l E T p3 hM5) (skX0 T) rfl rfl kw_P_75 ⟨Nat.le_of_ble_eq_true rfl, Nat.le_of_ble_eq_true rfl⟩ rfl (Nat.le_of_ble_eq_true rfl) dX9_feed_33 ?_
    refine rx_aload_n hG dX9_feed_36 0 rfl ?_
    refine rx_iload hG dX9_feed_37 5 rfl ?_
    obtain ⟨M6, hM6, hf⟩ := bindE hf
    refine rx_cVv hG (c_P_putBytes_0 l E T p4 hM6) (skX0 T) rfl rfl kw_P_75 ⟨Nat.le_of_ble_eq_true rfl, Nat.le_of_ble_eq_true rfl⟩ rfl (Nat.le_of_ble_eq_true rfl) dX9_feed_39 ?_
    refine rx_aload_n hG dX9_feed_42 0 rfl ?_
    refine gfX_P_72_0 l E T hG dX9_feed_43 ?_
    cases hf
    exact rx_iret hG dX9_feed_46
  · have hf := ifF hf c1
    refine rx_iconst hG (-1) dX9_feed_13 ic_m1 ?_
    cases hf
    exact rx_iret hG dX9_feed_14
set_option maxHeartbeats 4000000 in
set_option maxRecDepth 100000 in
theorem c_P_refused_0 (l : Launch) (E : En) (T : List Sk) (p0 : Int32) {M M' : Mm} {r : Int32} (h : f_P_refused_0 p0 M = some (r, M')) : Ct l (SKX ++ T) E yX9_refused cX9_refused 2 (some .int) 0 0 [.ref (adr E 0), .int p0] M (some (.int r)) M' := by
  refine ct_of (by decide) (Nat.le_of_ble_eq_true rfl) ?_
  intro G hG
  show G 0 [(0, .ref (adr E 0)), (1, .int p0)] [] M
  have hf := h
  unfold f_P_refused_0 at hf
  refine rx_aload_n hG dX9_refused_0 0 rfl ?_
  refine rx_iload_n hG dX9_refused_1 1 rfl ?_
  obtain ⟨M1, hM1, hf⟩ := bindE hf
  refine pfX_P_125_0 l E T hG hM1 dX9_refused_2 ?_
  refine rx_aload_n hG dX9_refused_5 0 rfl ?_
  refine rx_iconst hG (-1) dX9_refused_6 ic_m1 ?_
  obtain ⟨M2, hM2, hf⟩ := bindE hf
  refine pfX_P_68_0 l E T hG hM2 dX9_refused_7 ?_
  refine rx_iconst hG (-1) dX9_refused_10 ic_m1 ?_
  cases hf
  exact rx_iret hG dX9_refused_11
set_option maxHeartbeats 4000000 in
set_option maxRecDepth 100000 in
theorem c_K_isLetter_27 (l : Launch) (E : En) (T : List Sk) (p0 : Int32) {M : Mm} {r : Int32} (h : f_K_isLetter_27 p0 M = some r) : Ct l (SKX ++ T) E yX7_isLetter cX7_isLetter 2 (some .boolean) 0 0 [.ref (adr E 27), .int p0] M (some (.int r)) M := by
  refine ct_of (by decide) (Nat.le_of_ble_eq_true rfl) ?_
  intro G hG
  show G 0 [(0, .ref (adr E 27)), (1, .int p0)] [] M
  have hf := h
  unfold f_K_isLetter_27 at hf
  refine rx_aload_n hG dX7_isLetter_0 0 rfl ?_
  refine gfX_K_24_27 l E T hG dX7_isLetter_1 ?_
  refine rx_iload_n hG dX7_isLetter_4 1 rfl ?_
  obtain ⟨v1, hv1, hf⟩ := bindE hf
  refine rx_bald hG (skX1 T) hv1 dX7_isLetter_5 ?_
  refine rx_bipush hG 97 dX7_isLetter_6 bp_97 ?_
  refine rx_icmp_lt hG 26 dX7_isLetter_8 rfl (fun c2 => ?_) (fun c2 => ?_)
  · have hf := ifT hf c2
    refine rx_iconst hG 0 dX7_isLetter_26 ic_0 ?_
    cases hf
    exact rx_zret hG zr0 dX7_isLetter_27
  · have hf := ifF hf c2
    refine rx_aload_n hG dX7_isLetter_11 0 rfl ?_
    refine gfX_K_24_27 l E T hG dX7_isLetter_12 ?_
    refine rx_iload_n hG dX7_isLetter_15 1 rfl ?_
    obtain ⟨v3, hv3, hf⟩ := bindE hf
    refine rx_bald hG (skX1 T) hv3 dX7_isLetter_16 ?_
    refine rx_bipush hG 122 dX7_isLetter_17 bp_122 ?_
    refine rx_icmp_gt hG 26 dX7_isLetter_19 rfl (fun c4 => ?_) (fun c4 => ?_)
    · have hf := ifT hf c4
      refine rx_iconst hG 0 dX7_isLetter_26 ic_0 ?_
      cases hf
      exact rx_zret hG zr0 dX7_isLetter_27
    · have hf := ifF hf c4
      refine rx_iconst hG 1 dX7_isLetter_22 ic_1 ?_
      refine rx_goto hG 27 dX7_isLetter_23 rfl ?_
      cases hf
      exact rx_zret hG zr1 dX7_isLetter_27
set_option maxHeartbeats 4000000 in
set_option maxRecDepth 100000 in
theorem c_K_isDigit_27 (l : Launch) (E : En) (T : List Sk) (p0 : Int32) {M : Mm} {r : Int32} (h : f_K_isDigit_27 p0 M = some r) : Ct l (SKX ++ T) E yX7_isDigit cX7_isDigit 2 (some .boolean) 0 0 [.ref (adr E 27), .int p0] M (some (.int r)) M := by
  refine ct_of (by decide) (Nat.le_of_ble_eq_true rfl) ?_
  intro G hG
  show G 0 [(0, .ref (adr E 27)), (1, .int p0)] [] M
  have hf := h
  unfold f_K_isDigit_27 at hf
  refine rx_aload_n hG dX7_isDigit_0 0 rfl ?_
  refine gfX_K_24_27 l E T hG dX7_isDigit_1 ?_
  refine rx_iload_n hG dX7_isDigit_4 1 rfl ?_
  obtain ⟨v1, hv1, hf⟩ := bindE hf
  refine rx_bald hG (skX1 T) hv1 dX7_isDigit_5 ?_
  refine rx_bipush hG 48 dX7_isDigit_6 bp_48 ?_
  refine rx_icmp_lt hG 26 dX7_isDigit_8 rfl (fun c2 => ?_) (fun c2 => ?_)
  · have hf := ifT hf c2
    refine rx_iconst hG 0 dX7_isDigit_26 ic_0 ?_
    cases hf
    exact rx_zret hG zr0 dX7_isDigit_27
  · have hf := ifF hf c2
    refine rx_aload_n hG dX7_isDigit_11 0 rfl ?_
    refine gfX_K_24_27 l E T hG dX7_isDigit_12 ?_
    refine rx_iload_n hG dX7_isDigit_15 1 rfl ?_
    obtain ⟨v3, hv3, hf⟩ := bindE hf
    refine rx_bald hG (skX1 T) hv3 dX7_isDigit_16 ?_
    refine rx_bipush hG 57 dX7_isDigit_17 bp_57 ?_
    refine rx_icmp_gt hG 26 dX7_isDigit_19 rfl (fun c4 => ?_) (fun c4 => ?_)
    · have hf := ifT hf c4
      refine rx_iconst hG 0 dX7_isDigit_26 ic_0 ?_
      cases hf
      exact rx_zret hG zr0 dX7_isDigit_27
    · have hf := ifF hf c4
      refine rx_iconst hG 1 dX7_isDigit_22 ic_1 ?_
      refine rx_goto hG 27 dX7_isDigit_23 rfl ?_
      cases hf
      exact rx_zret hG zr1 dX7_isDigit_27
set_option maxHeartbeats 4000000 in
set_option maxRecDepth 100000 in
theorem Lj_K_scanWhole_27_44 (l : Launch) (E : En) (T : List Sk) {a0 b0 kc ks : Nat} {M' : Mm} {G : Nat → List (Nat × Value) → List Value → Mm → Prop} (hG : RX l (SKX ++ T) E RX7 cX7_scanWhole 5 none { frames := 1, cells := a0, slots := b0, locals := 21 } kc ks none M' G)  : ∀ (x1 : Int32) (x2 : Int32) (x3 : Int32) (x4 : Int32) (M : Mm), j_K_scanWhole_27_44  x1 x2 x3 x4 M = some M' → G 44 [(0, .ref (adr E 27)), (1, .int x1), (2, .int x2), (3, .int x3), (4, .int x4)] [] M := by
  intro x1 x2 x3 x4 M hf
  unfold j_K_scanWhole_27_44 at hf
  refine rx_aload_n hG dX7_scanWhole_44 0 rfl ?_
  refine gfX_K_18_27 l E T hG dX7_scanWhole_45 ?_
  refine rx_iload_n hG dX7_scanWhole_48 1 rfl ?_
  refine rx_iload_n hG dX7_scanWhole_49 3 rfl ?_
  refine rx_iload_n hG dX7_scanWhole_50 2 rfl ?_
  refine rx_isub hG dX7_scanWhole_51 ?_
  obtain ⟨M1, hM1, hf⟩ := bindE hf
  refine rx_iast hG (skX30 T) hM1 dX7_scanWhole_52 ?_
  refine rx_aload_n hG dX7_scanWhole_53 0 rfl ?_
  refine gfX_K_9_27 l E T hG dX7_scanWhole_54 ?_
  refine rx_iload_n hG dX7_scanWhole_57 1 rfl ?_
  refine rx_aload_n hG dX7_scanWhole_58 0 rfl ?_
  refine gfX_K_18_27 l E T hG dX7_scanWhole_59 ?_
  refine rx_iload_n hG dX7_scanWhole_62 1 rfl ?_
  obtain ⟨v2, hv2, hf⟩ := bindE hf
  refine rx_iald hG (skX30 T) hv2 dX7_scanWhole_63 ?_
  refine rx_iconst hG 4 dX7_scanWhole_64 ic_4 ?_
  refine rx_icmp_gt hG 72 dX7_scanWhole_65 rfl (fun c3 => ?_) (fun c3 => ?_)
  · have hf := ifT hf c3
    refine rx_iconst hG 5 dX7_scanWhole_72 ic_5 ?_
    obtain ⟨M4, hM4, hf⟩ := bindE hf
    refine rx_iast hG (skX28 T) hM4 dX7_scanWhole_73 ?_
    refine rx_aload_n hG dX7_scanWhole_74 0 rfl ?_
    refine gfX_K_21_27 l E T hG dX7_scanWhole_75 ?_
    refine rx_iload_n hG dX7_scanWhole_78 1 rfl ?_
    refine rx_iload hG dX7_scanWhole_79 4 rfl ?_
    obtain ⟨M5, hM5, hf⟩ := bindE hf
    refine rx_iast hG (skX31 T) hM5 dX7_scanWhole_81 ?_
    cases hf
    exact rx_vret hG dX7_scanWhole_82
  · have hf := ifF hf c3
    refine rx_iconst hG 2 dX7_scanWhole_68 ic_2 ?_
    refine rx_goto hG 73 dX7_scanWhole_69 rfl ?_
    obtain ⟨M6, hM6, hf⟩ := bindE hf
    refine rx_iast hG (skX28 T) hM6 dX7_scanWhole_73 ?_
    refine rx_aload_n hG dX7_scanWhole_74 0 rfl ?_
    refine gfX_K_21_27 l E T hG dX7_scanWhole_75 ?_
    refine rx_iload_n hG dX7_scanWhole_78 1 rfl ?_
    refine rx_iload hG dX7_scanWhole_79 4 rfl ?_
    obtain ⟨M7, hM7, hf⟩ := bindE hf
    refine rx_iast hG (skX31 T) hM7 dX7_scanWhole_81 ?_
    cases hf
    exact rx_vret hG dX7_scanWhole_82
set_option maxHeartbeats 4000000 in
set_option maxRecDepth 100000 in
theorem Lblp_K_scanWhole_27_5 (l : Launch) (E : En) (T : List Sk) {a0 b0 kc ks : Nat} {M' : Mm} {G : Nat → List (Nat × Value) → List Value → Mm → Prop} (hG : RX l (SKX ++ T) E RX7 cX7_scanWhole 5 none { frames := 1, cells := a0, slots := b0, locals := 21 } kc ks none M' G) (rc5 : Int32 → Int32 → Int32 → Int32 → Mm → Option Mm) (hrc5 : ∀ (x1 : Int32) (x2 : Int32) (x3 : Int32) (x4 : Int32) (M : Mm), rc5 x1 x2 x3 x4 M = some M' → G 5 [(0, .ref (adr E 27)), (1, .int x1), (2, .int x2), (3, .int x3), (4, .int x4)] [] M) : ∀ (x1 : Int32) (x2 : Int32) (x3 : Int32) (x4 : Int32) (M : Mm), blp_K_scanWhole_27_5 rc5 x1 x2 x3 x4 M = some M' → G 5 [(0, .ref (adr E 27)), (1, .int x1), (2, .int x2), (3, .int x3), (4, .int x4)] [] M := by
  intro x1 x2 x3 x4 M hf
  unfold blp_K_scanWhole_27_5 at hf
  refine rx_iload_n hG dX7_scanWhole_5 3 rfl ?_
  refine rx_aload_n hG dX7_scanWhole_6 0 rfl ?_
  refine gfX_K_34_27 l E T hG dX7_scanWhole_7 ?_
  refine rx_icmp_ge hG 44 dX7_scanWhole_10 rfl (fun c1 => ?_) (fun c1 => ?_)
  · have hf := ifT hf c1
    exact Lj_K_scanWhole_27_44 l E T hG  x1 x2 x3 x4 M hf
  · have hf := ifF hf c1
    refine rx_aload_n hG dX7_scanWhole_13 0 rfl ?_
    refine rx_iload_n hG dX7_scanWhole_14 3 rfl ?_
    obtain ⟨v2, hv2, hf⟩ := bindE hf
    refine rx_cVi hG (c_K_isDigit_27 l E T x3 hv2) (skX27 T) rfl rfl kw_K_52 ⟨Nat.le_of_ble_eq_true rfl, Nat.le_of_ble_eq_true rfl⟩ rfl (Nat.le_of_ble_eq_true rfl) dX7_scanWhole_15 ?_
    refine rx_if_eq hG 44 dX7_scanWhole_18 rfl (fun c3 => ?_) (fun c3 => ?_)
    · have hf := ifT hf c3
      exact Lj_K_scanWhole_27_44 l E T hG  x1 x2 x3 x4 M hf
    · have hf := ifF hf c3
      refine rx_bipush hG 10 dX7_scanWhole_21 bp_10 ?_
      refine rx_iload hG dX7_scanWhole_23 4 rfl ?_
      refine rx_imul hG dX7_scanWhole_25 ?_
      refine rx_aload_n hG dX7_scanWhole_26 0 rfl ?_
      refine gfX_K_24_27 l E T hG dX7_scanWhole_27 ?_
      refine rx_iload_n hG dX7_scanWhole_30 3 rfl ?_
      obtain ⟨v4, hv4, hf⟩ := bindE hf
      refine rx_bald hG (skX1 T) hv4 dX7_scanWhole_31 ?_
      refine rx_iadd hG dX7_scanWhole_32 ?_
      refine rx_bipush hG 48 dX7_scanWhole_33 bp_48 ?_
      refine rx_isub hG dX7_scanWhole_35 ?_
      refine rx_istore (lv2 := [(4, .int (((10 * x4) + v4) - 48)), (0, .ref (adr E 27)), (1, .int x1), (2, .int x2), (3, .int x3)]) hG dX7_scanWhole_36 (Nat.le_of_ble_eq_true rfl) rfl ?_
      refine rx_iinc (lv2 := [(3, .int (x3 + 1)), (4, .int (((10 * x4) + v4) - 48)), (0, .ref (adr E 27)), (1, .int x1), (2, .int x2)]) hG 1 dX7_scanWhole_38 ic_1 4 rfl (Nat.le_of_ble_eq_true rfl) rfl ?_
      refine rx_goto hG 5 dX7_scanWhole_41 rfl ?_
      refine rx_sub hG [2, 3, 4, 0, 1] (lv' := [(0, .ref (adr E 27)), (1, .int x1), (2, .int x2), (3, .int (x3 + 1)), (4, .int (((10 * x4) + v4) - 48))]) rfl ?_
      exact hrc5 x1 x2 (x3 + 1) (((10 * x4) + v4) - 48) M hf
theorem Llp_K_scanWhole_27_5 (l : Launch) (E : En) (T : List Sk) {a0 b0 kc ks : Nat} {M' : Mm} {G : Nat → List (Nat × Value) → List Value → Mm → Prop} (hG : RX l (SKX ++ T) E RX7 cX7_scanWhole 5 none { frames := 1, cells := a0, slots := b0, locals := 21 } kc ks none M' G)  : ∀ (n : Nat) (x1 : Int32) (x2 : Int32) (x3 : Int32) (x4 : Int32) (M : Mm), lp_K_scanWhole_27_5  n x1 x2 x3 x4 M = some M' → G 5 [(0, .ref (adr E 27)), (1, .int x1), (2, .int x2), (3, .int x3), (4, .int x4)] [] M := by
  intro n
  induction n with
  | zero => intro x1 x2 x3 x4 M hf; cases hf
  | succ n ih => intro x1 x2 x3 x4 M hf; exact Lblp_K_scanWhole_27_5 l E T hG  (lp_K_scanWhole_27_5  n) ih x1 x2 x3 x4 M hf
set_option maxHeartbeats 4000000 in
set_option maxRecDepth 100000 in
theorem c_K_scanWhole_27 (l : Launch) (E : En) (T : List Sk) (p0 : Int32) (p1 : Int32) {M M' : Mm} (h : f_K_scanWhole_27 p0 p1 M = some M') : Ct l (SKX ++ T) E yX7_scanWhole cX7_scanWhole 5 none 1 21 [.ref (adr E 27), .int p0, .int p1] M none M' := by
  refine ct_of (by decide) (Nat.le_of_ble_eq_true rfl) ?_
  intro G hG
  show G 0 [(0, .ref (adr E 27)), (1, .int p0), (2, .int p1)] [] M
  have hf := h
  unfold f_K_scanWhole_27 at hf
  refine rx_iload_n hG dX7_scanWhole_0 2 rfl ?_
  refine rx_istore_n (lv2 := [(3, .int p1), (0, .ref (adr E 27)), (1, .int p0), (2, .int p1)]) hG dX7_scanWhole_1 (Nat.le_of_ble_eq_true rfl) rfl ?_
  refine rx_iconst hG 0 dX7_scanWhole_2 ic_0 ?_
  refine rx_istore (lv2 := [(4, .int 0), (3, .int p1), (0, .ref (adr E 27)), (1, .int p0), (2, .int p1)]) hG dX7_scanWhole_3 (Nat.le_of_ble_eq_true rfl) rfl ?_
  refine rx_sub hG [2, 3, 4, 1, 0] (lv' := [(0, .ref (adr E 27)), (1, .int p0), (2, .int p1), (3, .int p1), (4, .int 0)]) rfl ?_
  exact Llp_K_scanWhole_27_5 l E T hG  FW p0 p1 p1 0 M hf
set_option maxHeartbeats 4000000 in
set_option maxRecDepth 100000 in
theorem Lj_K_isSpelled_27_30 (l : Launch) (E : En) (T : List Sk) {a0 b0 kc ks : Nat} {r : Int32} {M : Mm} {G : Nat → List (Nat × Value) → List Value → Mm → Prop} (hG : RX l (SKX ++ T) E RX7 cX7_isSpelled 6 (some .boolean) { frames := 4, cells := a0, slots := b0, locals := 85 } kc ks (some (.int r)) M G) (rc3 : Int32 → Int32 → Int32 → Int32 → Mm → Option Int32) (hrc3 : ∀ (x1 : Int32) (x2 : Int32) (x3 : Int32) (x4 : Int32), rc3 x1 x2 x3 x4 M = some r → G 3 [(0, .ref (adr E 27)), (1, .int x1), (2, .int x2), (3, .int x3), (4, .int x4)] [] M) : ∀ (x1 : Int32) (x2 : Int32) (x3 : Int32) (x4 : Int32) (t0 : Int32), j_K_isSpelled_27_30 rc3 x1 x2 x3 x4 t0 M = some r → G 30 [(0, .ref (adr E 27)), (1, .int x1), (2, .int x2), (3, .int x3), (4, .int x4)] [.int t0] M := by
  intro x1 x2 x3 x4 t0 hf
  unfold j_K_isSpelled_27_30 at hf
  refine rx_istore (lv2 := [(5, .int t0), (0, .ref (adr E 27)), (1, .int x1), (2, .int x2), (3, .int x3), (4, .int x4)]) hG dX7_isSpelled_30 (Nat.le_of_ble_eq_true rfl) rfl ?_
  refine rx_ldcS hG 0 rfl dX7_isSpelled_32 ?_
  refine rx_iload_n hG dX7_isSpelled_34 4 rfl ?_
  refine rx_iload hG dX7_isSpelled_35 5 rfl ?_
  refine rx_iadd hG dX7_isSpelled_37 ?_
  obtain ⟨v1, hv1, hf⟩ := bindE hf
  refine rx_schr hG hv1 kw_K_64 ⟨Nat.le_of_ble_eq_true rfl, Nat.le_of_ble_eq_true rfl⟩ (Nat.le_of_ble_eq_true rfl) dX7_isSpelled_38 ?_
  refine rx_iload hG dX7_isSpelled_41 0 rfl ?_
  refine rx_icmp_eq hG 48 dX7_isSpelled_43 rfl (fun c2 => ?_) (fun c2 => ?_)
  · have hf := ifT hf c2
    refine rx_iinc (lv2 := [(4, .int (x4 + 1)), (5, .int t0), (0, .ref (adr E 27)), (1, .int x1), (2, .int x2), (3, .int x3)]) hG 1 dX7_isSpelled_48 ic_1 5 rfl (Nat.le_of_ble_eq_true rfl) rfl ?_
    refine rx_goto hG 3 dX7_isSpelled_51 rfl ?_
    refine rx_sub hG [2, 3, 4, 5, 0] (lv' := [(0, .ref (adr E 27)), (1, .int x1), (2, .int x2), (3, .int x3), (4, .int (x4 + 1))]) rfl ?_
    exact hrc3 x1 x2 x3 (x4 + 1) hf
  · have hf := ifF hf c2
    refine rx_iconst hG 0 dX7_isSpelled_46 ic_0 ?_
    cases hf
    exact rx_zret hG zr0 dX7_isSpelled_47
set_option maxHeartbeats 4000000 in
set_option maxRecDepth 100000 in
theorem Lblp_K_isSpelled_27_3 (l : Launch) (E : En) (T : List Sk) {a0 b0 kc ks : Nat} {r : Int32} {M : Mm} {G : Nat → List (Nat × Value) → List Value → Mm → Prop} (hG : RX l (SKX ++ T) E RX7 cX7_isSpelled 6 (some .boolean) { frames := 4, cells := a0, slots := b0, locals := 85 } kc ks (some (.int r)) M G) (rc3 : Int32 → Int32 → Int32 → Int32 → Mm → Option Int32) (hrc3 : ∀ (x1 : Int32) (x2 : Int32) (x3 : Int32) (x4 : Int32), rc3 x1 x2 x3 x4 M = some r → G 3 [(0, .ref (adr E 27)), (1, .int x1), (2, .int x2), (3, .int x3), (4, .int x4)] [] M) : ∀ (x1 : Int32) (x2 : Int32) (x3 : Int32) (x4 : Int32), blp_K_isSpelled_27_3 rc3 x1 x2 x3 x4 M = some r → G 3 [(0, .ref (adr E 27)), (1, .int x1), (2, .int x2), (3, .int x3), (4, .int x4)] [] M := by
  intro x1 x2 x3 x4 hf
  unfold blp_K_isSpelled_27_3 at hf
  refine rx_iload hG dX7_isSpelled_3 4 rfl ?_
  refine rx_bipush hG 6 dX7_isSpelled_5 bp_6 ?_
  refine rx_icmp_ge hG 54 dX7_isSpelled_7 rfl (fun c1 => ?_) (fun c1 => ?_)
  · have hf := ifT hf c1
    refine rx_iconst hG 1 dX7_isSpelled_54 ic_1 ?_
    cases hf
    exact rx_zret hG zr1 dX7_isSpelled_55
  · have hf := ifF hf c1
    refine rx_iload hG dX7_isSpelled_10 4 rfl ?_
    refine rx_iload_n hG dX7_isSpelled_12 2 rfl ?_
    refine rx_icmp_ge hG 28 dX7_isSpelled_13 rfl (fun c2 => ?_) (fun c2 => ?_)
    · have hf := ifT hf c2
      refine rx_bipush hG 32 dX7_isSpelled_28 bp_32 ?_
      exact Lj_K_isSpelled_27_30 l E T hG rc3 hrc3 x1 x2 x3 x4 32 hf
    · have hf := ifF hf c2
      refine rx_aload_n hG dX7_isSpelled_16 0 rfl ?_
      refine gfX_K_24_27 l E T hG dX7_isSpelled_17 ?_
      refine rx_iload_n hG dX7_isSpelled_20 1 rfl ?_
      refine rx_iload hG dX7_isSpelled_21 4 rfl ?_
      refine rx_iadd hG dX7_isSpelled_23 ?_
      obtain ⟨v3, hv3, hf⟩ := bindE hf
      refine rx_bald hG (skX1 T) hv3 dX7_isSpelled_24 ?_
      refine rx_goto hG 30 dX7_isSpelled_25 rfl ?_
      exact Lj_K_isSpelled_27_30 l E T hG rc3 hrc3 x1 x2 x3 x4 v3 hf
theorem Llp_K_isSpelled_27_3 (l : Launch) (E : En) (T : List Sk) {a0 b0 kc ks : Nat} {r : Int32} {M : Mm} {G : Nat → List (Nat × Value) → List Value → Mm → Prop} (hG : RX l (SKX ++ T) E RX7 cX7_isSpelled 6 (some .boolean) { frames := 4, cells := a0, slots := b0, locals := 85 } kc ks (some (.int r)) M G)  : ∀ (n : Nat) (x1 : Int32) (x2 : Int32) (x3 : Int32) (x4 : Int32), lp_K_isSpelled_27_3  n x1 x2 x3 x4 M = some r → G 3 [(0, .ref (adr E 27)), (1, .int x1), (2, .int x2), (3, .int x3), (4, .int x4)] [] M := by
  intro n
  induction n with
  | zero => intro x1 x2 x3 x4 hf; cases hf
  | succ n ih => intro x1 x2 x3 x4 hf; exact Lblp_K_isSpelled_27_3 l E T hG  (lp_K_isSpelled_27_3  n) ih x1 x2 x3 x4 hf
set_option maxHeartbeats 4000000 in
set_option maxRecDepth 100000 in
theorem c_K_isSpelled_27 (l : Launch) (E : En) (T : List Sk) (p0 : Int32) (p1 : Int32) (p2 : Int32) {M : Mm} {r : Int32} (h : f_K_isSpelled_27 p0 p1 p2 M = some r) : Ct l (SKX ++ T) E yX7_isSpelled cX7_isSpelled 6 (some .boolean) 4 85 [.ref (adr E 27), .int p0, .int p1, .int p2] M (some (.int r)) M := by
  refine ct_of (by decide) (Nat.le_of_ble_eq_true rfl) ?_
  intro G hG
  show G 0 [(0, .ref (adr E 27)), (1, .int p0), (2, .int p1), (3, .int p2)] [] M
  have hf := h
  unfold f_K_isSpelled_27 at hf
  refine rx_iconst hG 0 dX7_isSpelled_0 ic_0 ?_
  refine rx_istore (lv2 := [(4, .int 0), (0, .ref (adr E 27)), (1, .int p0), (2, .int p1), (3, .int p2)]) hG dX7_isSpelled_1 (Nat.le_of_ble_eq_true rfl) rfl ?_
  refine rx_sub hG [1, 2, 3, 4, 0] (lv' := [(0, .ref (adr E 27)), (1, .int p0), (2, .int p1), (3, .int p2), (4, .int 0)]) rfl ?_
  exact Llp_K_isSpelled_27_3 l E T hG  FW p0 p1 p2 0 hf
set_option maxHeartbeats 4000000 in
set_option maxRecDepth 100000 in
theorem Lj_K_scanWord_27_100 (l : Launch) (E : En) (T : List Sk) {a0 b0 kc ks : Nat} {M' : Mm} {G : Nat → List (Nat × Value) → List Value → Mm → Prop} (hG : RX l (SKX ++ T) E RX7 cX7_scanWord 5 none { frames := 5, cells := a0, slots := b0, locals := 110 } kc ks none M' G) (rc66 : Int32 → Int32 → Int32 → Mm → Option Mm) (hrc66 : ∀ (x1 : Int32) (x2 : Int32) (x4 : Int32) (M : Mm), rc66 x1 x2 x4 M = some M' → G 66 [(0, .ref (adr E 27)), (1, .int x1), (2, .int x2), (4, .int x4)] [] M) : ∀ (x1 : Int32) (x2 : Int32) (x4 : Int32) (M : Mm), j_K_scanWord_27_100 rc66 x1 x2 x4 M = some M' → G 100 [(0, .ref (adr E 27)), (1, .int x1), (2, .int x2), (4, .int x4)] [] M := by
  intro x1 x2 x4 M hf
  unfold j_K_scanWord_27_100 at hf
  refine rx_iinc (lv2 := [(4, .int (x4 + 1)), (0, .ref (adr E 27)), (1, .int x1), (2, .int x2)]) hG 1 dX7_scanWord_100 ic_1 3 rfl (Nat.le_of_ble_eq_true rfl) rfl ?_
  refine rx_goto hG 66 dX7_scanWord_103 rfl ?_
  refine rx_sub hG [1, 2, 3, 0] (lv' := [(0, .ref (adr E 27)), (1, .int x1), (2, .int x2), (4, .int (x4 + 1))]) rfl ?_
  exact hrc66 x1 x2 (x4 + 1) M hf
set_option maxHeartbeats 4000000 in
set_option maxRecDepth 100000 in
theorem Lblp_K_scanWord_27_66 (l : Launch) (E : En) (T : List Sk) {a0 b0 kc ks : Nat} {M' : Mm} {G : Nat → List (Nat × Value) → List Value → Mm → Prop} (hG : RX l (SKX ++ T) E RX7 cX7_scanWord 5 none { frames := 5, cells := a0, slots := b0, locals := 110 } kc ks none M' G) (rc66 : Int32 → Int32 → Int32 → Mm → Option Mm) (hrc66 : ∀ (x1 : Int32) (x2 : Int32) (x4 : Int32) (M : Mm), rc66 x1 x2 x4 M = some M' → G 66 [(0, .ref (adr E 27)), (1, .int x1), (2, .int x2), (4, .int x4)] [] M) : ∀ (x1 : Int32) (x2 : Int32) (x4 : Int32) (M : Mm), blp_K_scanWord_27_66 rc66 x1 x2 x4 M = some M' → G 66 [(0, .ref (adr E 27)), (1, .int x1), (2, .int x2), (4, .int x4)] [] M := by
  intro x1 x2 x4 M hf
  unfold blp_K_scanWord_27_66 at hf
  refine rx_iload hG dX7_scanWord_66 3 rfl ?_
  refine rx_bipush hG 12 dX7_scanWord_68 bp_12 ?_
  refine rx_icmp_ge hG 106 dX7_scanWord_70 rfl (fun c1 => ?_) (fun c1 => ?_)
  · have hf := ifT hf c1
    cases hf
    exact rx_vret hG dX7_scanWord_106
  · have hf := ifF hf c1
    refine rx_aload_n hG dX7_scanWord_73 0 rfl ?_
    refine rx_iload_n hG dX7_scanWord_74 2 rfl ?_
    refine rx_aload_n hG dX7_scanWord_75 0 rfl ?_
    refine gfX_K_18_27 l E T hG dX7_scanWord_76 ?_
    refine rx_iload_n hG dX7_scanWord_79 1 rfl ?_
    obtain ⟨v2, hv2, hf⟩ := bindE hf
    refine rx_iald hG (skX30 T) hv2 dX7_scanWord_80 ?_
    refine rx_bipush hG 6 dX7_scanWord_81 bp_6 ?_
    refine rx_iload hG dX7_scanWord_83 3 rfl ?_
    refine rx_imul hG dX7_scanWord_85 ?_
    obtain ⟨v3, hv3, hf⟩ := bindE hf
    refine rx_cVi hG (c_K_isSpelled_27 l E T x2 v2 (6 * x4) hv3) (skX27 T) rfl rfl kw_K_58 ⟨Nat.le_of_ble_eq_true rfl, Nat.le_of_ble_eq_true rfl⟩ rfl (Nat.le_of_ble_eq_true rfl) dX7_scanWord_86 ?_
    refine rx_if_eq hG 100 dX7_scanWord_89 rfl (fun c4 => ?_) (fun c4 => ?_)
    · have hf := ifT hf c4
      exact Lj_K_scanWord_27_100 l E T hG rc66 hrc66 x1 x2 x4 M hf
    · have hf := ifF hf c4
      refine rx_aload_n hG dX7_scanWord_92 0 rfl ?_
      refine gfX_K_21_27 l E T hG dX7_scanWord_93 ?_
      refine rx_iload_n hG dX7_scanWord_96 1 rfl ?_
      refine rx_iload hG dX7_scanWord_97 3 rfl ?_
      obtain ⟨M5, hM5, hf⟩ := bindE hf
      refine rx_iast hG (skX31 T) hM5 dX7_scanWord_99 ?_
      exact Lj_K_scanWord_27_100 l E T hG rc66 hrc66 x1 x2 x4 M5 hf
theorem Llp_K_scanWord_27_66 (l : Launch) (E : En) (T : List Sk) {a0 b0 kc ks : Nat} {M' : Mm} {G : Nat → List (Nat × Value) → List Value → Mm → Prop} (hG : RX l (SKX ++ T) E RX7 cX7_scanWord 5 none { frames := 5, cells := a0, slots := b0, locals := 110 } kc ks none M' G)  : ∀ (n : Nat) (x1 : Int32) (x2 : Int32) (x4 : Int32) (M : Mm), lp_K_scanWord_27_66  n x1 x2 x4 M = some M' → G 66 [(0, .ref (adr E 27)), (1, .int x1), (2, .int x2), (4, .int x4)] [] M := by
  intro n
  induction n with
  | zero => intro x1 x2 x4 M hf; cases hf
  | succ n ih => intro x1 x2 x4 M hf; exact Lblp_K_scanWord_27_66 l E T hG  (lp_K_scanWord_27_66  n) ih x1 x2 x4 M hf
set_option maxHeartbeats 4000000 in
set_option maxRecDepth 100000 in
theorem Lj_K_scanWord_27_54 (l : Launch) (E : En) (T : List Sk) {a0 b0 kc ks : Nat} {M' : Mm} {G : Nat → List (Nat × Value) → List Value → Mm → Prop} (hG : RX l (SKX ++ T) E RX7 cX7_scanWord 5 none { frames := 5, cells := a0, slots := b0, locals := 110 } kc ks none M' G)  : ∀ (x1 : Int32) (x2 : Int32) (t0 : Int32) (t1 : Int32) (M : Mm), j_K_scanWord_27_54  x1 x2 t0 t1 M = some M' → G 54 [(0, .ref (adr E 27)), (1, .int x1), (2, .int x2)] [.int t0, .int t1, .ref (adr E 28)] M := by
  intro x1 x2 t0 t1 M hf
  unfold j_K_scanWord_27_54 at hf
  obtain ⟨M1, hM1, hf⟩ := bindE hf
  refine rx_iast hG (skX28 T) hM1 dX7_scanWord_54 ?_
  refine rx_aload_n hG dX7_scanWord_55 0 rfl ?_
  refine gfX_K_21_27 l E T hG dX7_scanWord_56 ?_
  refine rx_iload_n hG dX7_scanWord_59 1 rfl ?_
  refine rx_bipush hG 12 dX7_scanWord_60 bp_12 ?_
  obtain ⟨M2, hM2, hf⟩ := bindE hf
  refine rx_iast hG (skX31 T) hM2 dX7_scanWord_62 ?_
  refine rx_iconst hG 0 dX7_scanWord_63 ic_0 ?_
  refine rx_istore (lv2 := [(4, .int 0), (0, .ref (adr E 27)), (1, .int x1), (2, .int x2)]) hG dX7_scanWord_64 (Nat.le_of_ble_eq_true rfl) rfl ?_
  refine rx_sub hG [1, 2, 3, 0] (lv' := [(0, .ref (adr E 27)), (1, .int x1), (2, .int x2), (4, .int 0)]) rfl ?_
  exact Llp_K_scanWord_27_66 l E T hG  FW x1 x2 0 M2 hf
set_option maxHeartbeats 4000000 in
set_option maxRecDepth 100000 in
theorem Lj_K_scanWord_27_24 (l : Launch) (E : En) (T : List Sk) {a0 b0 kc ks : Nat} {M' : Mm} {G : Nat → List (Nat × Value) → List Value → Mm → Prop} (hG : RX l (SKX ++ T) E RX7 cX7_scanWord 5 none { frames := 5, cells := a0, slots := b0, locals := 110 } kc ks none M' G)  : ∀ (x1 : Int32) (x2 : Int32) (x3 : Int32) (M : Mm), j_K_scanWord_27_24  x1 x2 x3 M = some M' → G 24 [(0, .ref (adr E 27)), (1, .int x1), (2, .int x2), (3, .int x3)] [] M := by
  intro x1 x2 x3 M hf
  unfold j_K_scanWord_27_24 at hf
  refine rx_aload_n hG dX7_scanWord_24 0 rfl ?_
  refine gfX_K_18_27 l E T hG dX7_scanWord_25 ?_
  refine rx_iload_n hG dX7_scanWord_28 1 rfl ?_
  refine rx_iload_n hG dX7_scanWord_29 3 rfl ?_
  refine rx_iload_n hG dX7_scanWord_30 2 rfl ?_
  refine rx_isub hG dX7_scanWord_31 ?_
  obtain ⟨M1, hM1, hf⟩ := bindE hf
  refine rx_iast hG (skX30 T) hM1 dX7_scanWord_32 ?_
  refine rx_aload_n hG dX7_scanWord_33 0 rfl ?_
  refine gfX_K_9_27 l E T hG dX7_scanWord_34 ?_
  refine rx_iload_n hG dX7_scanWord_37 1 rfl ?_
  refine rx_aload_n hG dX7_scanWord_38 0 rfl ?_
  refine gfX_K_18_27 l E T hG dX7_scanWord_39 ?_
  refine rx_iload_n hG dX7_scanWord_42 1 rfl ?_
  obtain ⟨v2, hv2, hf⟩ := bindE hf
  refine rx_iald hG (skX30 T) hv2 dX7_scanWord_43 ?_
  refine rx_bipush hG 6 dX7_scanWord_44 bp_6 ?_
  refine rx_icmp_gt hG 53 dX7_scanWord_46 rfl (fun c3 => ?_) (fun c3 => ?_)
  · have hf := ifT hf c3
    refine rx_iconst hG 5 dX7_scanWord_53 ic_5 ?_
    refine rx_sub hG [0, 1, 2] (lv' := [(0, .ref (adr E 27)), (1, .int x1), (2, .int x2)]) rfl ?_
    exact Lj_K_scanWord_27_54 l E T hG  x1 x2 5 x1 M1 hf
  · have hf := ifF hf c3
    refine rx_iconst hG 1 dX7_scanWord_49 ic_1 ?_
    refine rx_goto hG 54 dX7_scanWord_50 rfl ?_
    refine rx_sub hG [0, 1, 2] (lv' := [(0, .ref (adr E 27)), (1, .int x1), (2, .int x2)]) rfl ?_
    exact Lj_K_scanWord_27_54 l E T hG  x1 x2 1 x1 M1 hf
set_option maxHeartbeats 4000000 in
set_option maxRecDepth 100000 in
theorem Lblp_K_scanWord_27_2 (l : Launch) (E : En) (T : List Sk) {a0 b0 kc ks : Nat} {M' : Mm} {G : Nat → List (Nat × Value) → List Value → Mm → Prop} (hG : RX l (SKX ++ T) E RX7 cX7_scanWord 5 none { frames := 5, cells := a0, slots := b0, locals := 110 } kc ks none M' G) (rc2 : Int32 → Int32 → Int32 → Mm → Option Mm) (hrc2 : ∀ (x1 : Int32) (x2 : Int32) (x3 : Int32) (M : Mm), rc2 x1 x2 x3 M = some M' → G 2 [(0, .ref (adr E 27)), (1, .int x1), (2, .int x2), (3, .int x3)] [] M) : ∀ (x1 : Int32) (x2 : Int32) (x3 : Int32) (M : Mm), blp_K_scanWord_27_2 rc2 x1 x2 x3 M = some M' → G 2 [(0, .ref (adr E 27)), (1, .int x1), (2, .int x2), (3, .int x3)] [] M := by
  intro x1 x2 x3 M hf
  unfold blp_K_scanWord_27_2 at hf
  refine rx_iload_n hG dX7_scanWord_2 3 rfl ?_
  refine rx_aload_n hG dX7_scanWord_3 0 rfl ?_
  refine gfX_K_34_27 l E T hG dX7_scanWord_4 ?_
  refine rx_icmp_ge hG 24 dX7_scanWord_7 rfl (fun c1 => ?_) (fun c1 => ?_)
  · have hf := ifT hf c1
    exact Lj_K_scanWord_27_24 l E T hG  x1 x2 x3 M hf
  · have hf := ifF hf c1
    refine rx_aload_n hG dX7_scanWord_10 0 rfl ?_
    refine rx_iload_n hG dX7_scanWord_11 3 rfl ?_
    obtain ⟨v2, hv2, hf⟩ := bindE hf
    refine rx_cVi hG (c_K_isLetter_27 l E T x3 hv2) (skX27 T) rfl rfl kw_K_45 ⟨Nat.le_of_ble_eq_true rfl, Nat.le_of_ble_eq_true rfl⟩ rfl (Nat.le_of_ble_eq_true rfl) dX7_scanWord_12 ?_
    refine rx_if_eq hG 24 dX7_scanWord_15 rfl (fun c3 => ?_) (fun c3 => ?_)
    · have hf := ifT hf c3
      exact Lj_K_scanWord_27_24 l E T hG  x1 x2 x3 M hf
    · have hf := ifF hf c3
      refine rx_iinc (lv2 := [(3, .int (x3 + 1)), (0, .ref (adr E 27)), (1, .int x1), (2, .int x2)]) hG 1 dX7_scanWord_18 ic_1 3 rfl (Nat.le_of_ble_eq_true rfl) rfl ?_
      refine rx_goto hG 2 dX7_scanWord_21 rfl ?_
      refine rx_sub hG [1, 2, 3, 0] (lv' := [(0, .ref (adr E 27)), (1, .int x1), (2, .int x2), (3, .int (x3 + 1))]) rfl ?_
      exact hrc2 x1 x2 (x3 + 1) M hf
theorem Llp_K_scanWord_27_2 (l : Launch) (E : En) (T : List Sk) {a0 b0 kc ks : Nat} {M' : Mm} {G : Nat → List (Nat × Value) → List Value → Mm → Prop} (hG : RX l (SKX ++ T) E RX7 cX7_scanWord 5 none { frames := 5, cells := a0, slots := b0, locals := 110 } kc ks none M' G)  : ∀ (n : Nat) (x1 : Int32) (x2 : Int32) (x3 : Int32) (M : Mm), lp_K_scanWord_27_2  n x1 x2 x3 M = some M' → G 2 [(0, .ref (adr E 27)), (1, .int x1), (2, .int x2), (3, .int x3)] [] M := by
  intro n
  induction n with
  | zero => intro x1 x2 x3 M hf; cases hf
  | succ n ih => intro x1 x2 x3 M hf; exact Lblp_K_scanWord_27_2 l E T hG  (lp_K_scanWord_27_2  n) ih x1 x2 x3 M hf
set_option maxHeartbeats 4000000 in
set_option maxRecDepth 100000 in
theorem c_K_scanWord_27 (l : Launch) (E : En) (T : List Sk) (p0 : Int32) (p1 : Int32) {M M' : Mm} (h : f_K_scanWord_27 p0 p1 M = some M') : Ct l (SKX ++ T) E yX7_scanWord cX7_scanWord 5 none 5 110 [.ref (adr E 27), .int p0, .int p1] M none M' := by
  refine ct_of (by decide) (Nat.le_of_ble_eq_true rfl) ?_
  intro G hG
  show G 0 [(0, .ref (adr E 27)), (1, .int p0), (2, .int p1)] [] M
  have hf := h
  unfold f_K_scanWord_27 at hf
  refine rx_iload_n hG dX7_scanWord_0 2 rfl ?_
  refine rx_istore_n (lv2 := [(3, .int p1), (0, .ref (adr E 27)), (1, .int p0), (2, .int p1)]) hG dX7_scanWord_1 (Nat.le_of_ble_eq_true rfl) rfl ?_
  refine rx_sub hG [1, 2, 3, 0] (lv' := [(0, .ref (adr E 27)), (1, .int p0), (2, .int p1), (3, .int p1)]) rfl ?_
  exact Llp_K_scanWord_27_2 l E T hG  FW p0 p1 p1 M hf
set_option maxHeartbeats 4000000 in
set_option maxRecDepth 100000 in
theorem c_K_scanToken_27 (l : Launch) (E : En) (T : List Sk) (p0 : Int32) (p1 : Int32) {M M' : Mm} (h : f_K_scanToken_27 p0 p1 M = some M') : Ct l (SKX ++ T) E yX7_scanToken cX7_scanToken 3 none 6 134 [.ref (adr E 27), .int p0, .int p1] M none M' := by
  refine ct_of (by decide) (Nat.le_of_ble_eq_true rfl) ?_
  intro G hG
  show G 0 [(0, .ref (adr E 27)), (1, .int p0), (2, .int p1)] [] M
  have hf := h
  unfold f_K_scanToken_27 at hf
  refine rx_aload_n hG dX7_scanToken_0 0 rfl ?_
  refine gfX_K_15_27 l E T hG dX7_scanToken_1 ?_
  refine rx_iload_n hG dX7_scanToken_4 1 rfl ?_
  refine rx_iload_n hG dX7_scanToken_5 2 rfl ?_
  obtain ⟨M1, hM1, hf⟩ := bindE hf
  refine rx_iast hG (skX29 T) hM1 dX7_scanToken_6 ?_
  refine rx_aload_n hG dX7_scanToken_7 0 rfl ?_
  refine rx_iload_n hG dX7_scanToken_8 2 rfl ?_
  obtain ⟨v2, hv2, hf⟩ := bindE hf
  refine rx_cVi hG (c_K_isLetter_27 l E T p1 hv2) (skX27 T) rfl rfl kw_K_45 ⟨Nat.le_of_ble_eq_true rfl, Nat.le_of_ble_eq_true rfl⟩ rfl (Nat.le_of_ble_eq_true rfl) dX7_scanToken_9 ?_
  refine rx_if_eq hG 24 dX7_scanToken_12 rfl (fun c3 => ?_) (fun c3 => ?_)
  · have hf := ifT hf c3
    refine rx_aload_n hG dX7_scanToken_24 0 rfl ?_
    refine rx_iload_n hG dX7_scanToken_25 2 rfl ?_
    obtain ⟨v4, hv4, hf⟩ := bindE hf
    refine rx_cVi hG (c_K_isDigit_27 l E T p1 hv4) (skX27 T) rfl rfl kw_K_52 ⟨Nat.le_of_ble_eq_true rfl, Nat.le_of_ble_eq_true rfl⟩ rfl (Nat.le_of_ble_eq_true rfl) dX7_scanToken_26 ?_
    refine rx_if_eq hG 41 dX7_scanToken_29 rfl (fun c5 => ?_) (fun c5 => ?_)
    · have hf := ifT hf c5
      refine rx_aload_n hG dX7_scanToken_41 0 rfl ?_
      refine gfX_K_9_27 l E T hG dX7_scanToken_42 ?_
      refine rx_iload_n hG dX7_scanToken_45 1 rfl ?_
      refine rx_aload_n hG dX7_scanToken_46 0 rfl ?_
      refine gfX_K_24_27 l E T hG dX7_scanToken_47 ?_
      refine rx_iload_n hG dX7_scanToken_50 2 rfl ?_
      obtain ⟨v6, hv6, hf⟩ := bindE hf
      refine rx_bald hG (skX1 T) hv6 dX7_scanToken_51 ?_
      refine rx_bipush hG 59 dX7_scanToken_52 bp_59 ?_
      refine rx_icmp_ne hG 61 dX7_scanToken_54 rfl (fun c7 => ?_) (fun c7 => ?_)
      · have hf := ifF hf c7
        refine rx_aload_n hG dX7_scanToken_61 0 rfl ?_
        refine gfX_K_24_27 l E T hG dX7_scanToken_62 ?_
        refine rx_iload_n hG dX7_scanToken_65 2 rfl ?_
        obtain ⟨v8, hv8, hf⟩ := bindE hf
        refine rx_bald hG (skX1 T) hv8 dX7_scanToken_66 ?_
        refine rx_bipush hG 44 dX7_scanToken_67 bp_44 ?_
        refine rx_icmp_ne hG 76 dX7_scanToken_69 rfl (fun c9 => ?_) (fun c9 => ?_)
        · have hf := ifF hf c9
          refine rx_iconst hG 5 dX7_scanToken_76 ic_5 ?_
          obtain ⟨M10, hM10, hf⟩ := bindE hf
          refine rx_iast hG (skX28 T) hM10 dX7_scanToken_77 ?_
          refine rx_aload_n hG dX7_scanToken_78 0 rfl ?_
          refine gfX_K_18_27 l E T hG dX7_scanToken_79 ?_
          refine rx_iload_n hG dX7_scanToken_82 1 rfl ?_
          refine rx_iconst hG 1 dX7_scanToken_83 ic_1 ?_
          obtain ⟨M11, hM11, hf⟩ := bindE hf
          refine rx_iast hG (skX30 T) hM11 dX7_scanToken_84 ?_
          cases hf
          exact rx_vret hG dX7_scanToken_85
        · have hf := ifT hf c9
          refine rx_iconst hG 4 dX7_scanToken_72 ic_4 ?_
          refine rx_goto hG 77 dX7_scanToken_73 rfl ?_
          obtain ⟨M12, hM12, hf⟩ := bindE hf
          refine rx_iast hG (skX28 T) hM12 dX7_scanToken_77 ?_
          refine rx_aload_n hG dX7_scanToken_78 0 rfl ?_
          refine gfX_K_18_27 l E T hG dX7_scanToken_79 ?_
          refine rx_iload_n hG dX7_scanToken_82 1 rfl ?_
          refine rx_iconst hG 1 dX7_scanToken_83 ic_1 ?_
          obtain ⟨M13, hM13, hf⟩ := bindE hf
          refine rx_iast hG (skX30 T) hM13 dX7_scanToken_84 ?_
          cases hf
          exact rx_vret hG dX7_scanToken_85
      · have hf := ifT hf c7
        refine rx_iconst hG 3 dX7_scanToken_57 ic_3 ?_
        refine rx_goto hG 77 dX7_scanToken_58 rfl ?_
        obtain ⟨M14, hM14, hf⟩ := bindE hf
        refine rx_iast hG (skX28 T) hM14 dX7_scanToken_77 ?_
        refine rx_aload_n hG dX7_scanToken_78 0 rfl ?_
        refine gfX_K_18_27 l E T hG dX7_scanToken_79 ?_
        refine rx_iload_n hG dX7_scanToken_82 1 rfl ?_
        refine rx_iconst hG 1 dX7_scanToken_83 ic_1 ?_
        obtain ⟨M15, hM15, hf⟩ := bindE hf
        refine rx_iast hG (skX30 T) hM15 dX7_scanToken_84 ?_
        cases hf
        exact rx_vret hG dX7_scanToken_85
    · have hf := ifF hf c5
      refine rx_aload_n hG dX7_scanToken_32 0 rfl ?_
      refine rx_iload_n hG dX7_scanToken_33 1 rfl ?_
      refine rx_iload_n hG dX7_scanToken_34 2 rfl ?_
      obtain ⟨M16, hM16, hf⟩ := bindE hf
      refine rx_cVv hG (c_K_scanWhole_27 l E T p0 p1 hM16) (skX27 T) rfl rfl kw_K_55 ⟨Nat.le_of_ble_eq_true rfl, Nat.le_of_ble_eq_true rfl⟩ rfl (Nat.le_of_ble_eq_true rfl) dX7_scanToken_35 ?_
      refine rx_goto hG 85 dX7_scanToken_38 rfl ?_
      cases hf
      exact rx_vret hG dX7_scanToken_85
  · have hf := ifF hf c3
    refine rx_aload_n hG dX7_scanToken_15 0 rfl ?_
    refine rx_iload_n hG dX7_scanToken_16 1 rfl ?_
    refine rx_iload_n hG dX7_scanToken_17 2 rfl ?_
    obtain ⟨M17, hM17, hf⟩ := bindE hf
    refine rx_cVv hG (c_K_scanWord_27 l E T p0 p1 hM17) (skX27 T) rfl rfl kw_K_49 ⟨Nat.le_of_ble_eq_true rfl, Nat.le_of_ble_eq_true rfl⟩ rfl (Nat.le_of_ble_eq_true rfl) dX7_scanToken_18 ?_
    refine rx_goto hG 85 dX7_scanToken_21 rfl ?_
    cases hf
    exact rx_vret hG dX7_scanToken_85
set_option maxHeartbeats 4000000 in
set_option maxRecDepth 100000 in
theorem Lj_K_scan_27_65 (l : Launch) (E : En) (T : List Sk) {a0 b0 kc ks : Nat} {M' : Mm} {G : Nat → List (Nat × Value) → List Value → Mm → Prop} (hG : RX l (SKX ++ T) E RX7 cX7_scan 4 none { frames := 7, cells := a0, slots := b0, locals := 156 } kc ks none M' G)  : ∀ (x2 : Int32) (M : Mm), j_K_scan_27_65  x2 M = some M' → G 65 [(0, .ref (adr E 27)), (2, .int x2)] [] M := by
  intro x2 M hf
  unfold j_K_scan_27_65 at hf
  refine rx_aload_n hG dX7_scan_65 0 rfl ?_
  refine gfX_K_9_27 l E T hG dX7_scan_66 ?_
  refine rx_iload_n hG dX7_scan_69 1 rfl ?_
  refine rx_iconst hG 0 dX7_scan_70 ic_0 ?_
  obtain ⟨M1, hM1, hf⟩ := bindE hf
  refine rx_iast hG (skX28 T) hM1 dX7_scan_71 ?_
  refine rx_aload_n hG dX7_scan_72 0 rfl ?_
  refine gfX_K_15_27 l E T hG dX7_scan_73 ?_
  refine rx_iload_n hG dX7_scan_76 1 rfl ?_
  refine rx_aload_n hG dX7_scan_77 0 rfl ?_
  refine gfX_K_34_27 l E T hG dX7_scan_78 ?_
  obtain ⟨M2, hM2, hf⟩ := bindE hf
  refine rx_iast hG (skX29 T) hM2 dX7_scan_81 ?_
  cases hf
  exact rx_vret hG dX7_scan_82
set_option maxHeartbeats 4000000 in
set_option maxRecDepth 100000 in
theorem Lblp_K_scan_27_15 (l : Launch) (E : En) (T : List Sk) {a0 b0 kc ks : Nat} {M' : Mm} {G : Nat → List (Nat × Value) → List Value → Mm → Prop} (hG : RX l (SKX ++ T) E RX7 cX7_scan 4 none { frames := 7, cells := a0, slots := b0, locals := 156 } kc ks none M' G) (rc15 : Int32 → Int32 → Mm → Option Mm) (hrc15 : ∀ (x2 : Int32) (x3 : Int32) (M : Mm), rc15 x2 x3 M = some M' → G 15 [(0, .ref (adr E 27)), (2, .int x2), (3, .int x3)] [] M) : ∀ (x2 : Int32) (x3 : Int32) (M : Mm), blp_K_scan_27_15 rc15 x2 x3 M = some M' → G 15 [(0, .ref (adr E 27)), (2, .int x2), (3, .int x3)] [] M := by
  intro x2 x3 M hf
  unfold blp_K_scan_27_15 at hf
  refine rx_iload_n hG dX7_scan_15 2 rfl ?_
  refine rx_aload_n hG dX7_scan_16 0 rfl ?_
  refine gfX_K_34_27 l E T hG dX7_scan_17 ?_
  refine rx_icmp_ge hG 65 dX7_scan_20 rfl (fun c1 => ?_) (fun c1 => ?_)
  · have hf := ifT hf c1
    refine rx_sub hG [0, 1] (lv' := [(0, .ref (adr E 27)), (2, .int x2)]) rfl ?_
    exact Lj_K_scan_27_65 l E T hG  x2 M hf
  · have hf := ifF hf c1
    refine rx_aload_n hG dX7_scan_23 0 rfl ?_
    refine gfX_K_24_27 l E T hG dX7_scan_24 ?_
    refine rx_iload_n hG dX7_scan_27 2 rfl ?_
    obtain ⟨v2, hv2, hf⟩ := bindE hf
    refine rx_bald hG (skX1 T) hv2 dX7_scan_28 ?_
    refine rx_bipush hG 32 dX7_scan_29 bp_32 ?_
    refine rx_icmp_ne hG 40 dX7_scan_31 rfl (fun c3 => ?_) (fun c3 => ?_)
    · have hf := ifF hf c3
      refine rx_aload_n hG dX7_scan_40 0 rfl ?_
      refine rx_iload_n hG dX7_scan_41 1 rfl ?_
      refine rx_iload_n hG dX7_scan_42 2 rfl ?_
      obtain ⟨M4, hM4, hf⟩ := bindE hf
      refine rx_cVv hG (c_K_scanToken_27 l E T x2 x3 hM4) (skX27 T) rfl rfl kw_K_38 ⟨Nat.le_of_ble_eq_true rfl, Nat.le_of_ble_eq_true rfl⟩ rfl (Nat.le_of_ble_eq_true rfl) dX7_scan_43 ?_
      refine rx_iload_n hG dX7_scan_46 2 rfl ?_
      refine rx_iconst hG 1 dX7_scan_47 ic_1 ?_
      refine rx_aload_n hG dX7_scan_48 0 rfl ?_
      refine gfX_K_18_27 l E T hG dX7_scan_49 ?_
      refine rx_iload_n hG dX7_scan_52 1 rfl ?_
      obtain ⟨v5, hv5, hf⟩ := bindE hf
      refine rx_iald hG (skX30 T) hv5 dX7_scan_53 ?_
      refine rx_max hG kw_K_42 ⟨Nat.le_of_ble_eq_true rfl, Nat.le_of_ble_eq_true rfl⟩ dX7_scan_54 ?_
      refine rx_iadd hG dX7_scan_57 ?_
      refine rx_istore_n (lv2 := [(3, .int (x3 + (mx 1 v5))), (0, .ref (adr E 27)), (2, .int x2)]) hG dX7_scan_58 (Nat.le_of_ble_eq_true rfl) rfl ?_
      refine rx_iinc (lv2 := [(2, .int (x2 + 1)), (3, .int (x3 + (mx 1 v5))), (0, .ref (adr E 27))]) hG 1 dX7_scan_59 ic_1 2 rfl (Nat.le_of_ble_eq_true rfl) rfl ?_
      refine rx_goto hG 15 dX7_scan_62 rfl ?_
      refine rx_sub hG [2, 0, 1] (lv' := [(0, .ref (adr E 27)), (2, .int (x2 + 1)), (3, .int (x3 + (mx 1 v5)))]) rfl ?_
      exact hrc15 (x2 + 1) (x3 + (mx 1 v5)) M4 hf
    · have hf := ifT hf c3
      refine rx_iinc (lv2 := [(3, .int (x3 + 1)), (0, .ref (adr E 27)), (2, .int x2)]) hG 1 dX7_scan_34 ic_1 2 rfl (Nat.le_of_ble_eq_true rfl) rfl ?_
      refine rx_goto hG 15 dX7_scan_37 rfl ?_
      refine rx_sub hG [1, 2, 0] (lv' := [(0, .ref (adr E 27)), (2, .int x2), (3, .int (x3 + 1))]) rfl ?_
      exact hrc15 x2 (x3 + 1) M hf
theorem Llp_K_scan_27_15 (l : Launch) (E : En) (T : List Sk) {a0 b0 kc ks : Nat} {M' : Mm} {G : Nat → List (Nat × Value) → List Value → Mm → Prop} (hG : RX l (SKX ++ T) E RX7 cX7_scan 4 none { frames := 7, cells := a0, slots := b0, locals := 156 } kc ks none M' G)  : ∀ (n : Nat) (x2 : Int32) (x3 : Int32) (M : Mm), lp_K_scan_27_15  n x2 x3 M = some M' → G 15 [(0, .ref (adr E 27)), (2, .int x2), (3, .int x3)] [] M := by
  intro n
  induction n with
  | zero => intro x2 x3 M hf; cases hf
  | succ n ih => intro x2 x3 M hf; exact Lblp_K_scan_27_15 l E T hG  (lp_K_scan_27_15  n) ih x2 x3 M hf
set_option maxHeartbeats 4000000 in
set_option maxRecDepth 100000 in
theorem c_K_scan_27 (l : Launch) (E : En) (T : List Sk) (p0 : Int32) {M M' : Mm} (h : f_K_scan_27 p0 M = some M') : Ct l (SKX ++ T) E yX7_scan cX7_scan 4 none 7 156 [.ref (adr E 27), .int p0] M none M' := by
  refine ct_of (by decide) (Nat.le_of_ble_eq_true rfl) ?_
  intro G hG
  show G 0 [(0, .ref (adr E 27)), (1, .int p0)] [] M
  have hf := h
  unfold f_K_scan_27 at hf
  refine rx_aload_n hG dX7_scan_0 0 rfl ?_
  refine rx_iload_n hG dX7_scan_1 1 rfl ?_
  refine rx_sipush hG 600 dX7_scan_2 sp_600 ?_
  refine rx_min hG kw_K_28 ⟨Nat.le_of_ble_eq_true rfl, Nat.le_of_ble_eq_true rfl⟩ dX7_scan_5 ?_
  obtain ⟨M1, hM1, hf⟩ := bindE hf
  refine pfX_K_34_27 l E T hG hM1 dX7_scan_8 ?_
  refine rx_iconst hG 0 dX7_scan_11 ic_0 ?_
  refine rx_istore_n (lv2 := [(2, .int 0), (0, .ref (adr E 27)), (1, .int p0)]) hG dX7_scan_12 (Nat.le_of_ble_eq_true rfl) rfl ?_
  refine rx_iconst hG 0 dX7_scan_13 ic_0 ?_
  refine rx_istore_n (lv2 := [(3, .int 0), (2, .int 0), (0, .ref (adr E 27)), (1, .int p0)]) hG dX7_scan_14 (Nat.le_of_ble_eq_true rfl) rfl ?_
  refine rx_sub hG [2, 1, 0] (lv' := [(0, .ref (adr E 27)), (2, .int 0), (3, .int 0)]) rfl ?_
  exact Llp_K_scan_27_15 l E T hG  FW 0 0 M1 hf
set_option maxHeartbeats 4000000 in
set_option maxRecDepth 100000 in
theorem c_V_clear_24 (l : Launch) (E : En) (T : List Sk)  {M M' : Mm} (h : f_V_clear_24 M = some M') : Ct l (SKX ++ T) E yX2_clear cX2_clear 1 none 1 23 [.ref (adr E 24)] M none M' := by
  refine ct_of (by decide) (Nat.le_of_ble_eq_true rfl) ?_
  intro G hG
  show G 0 [(0, .ref (adr E 24))] [] M
  have hf := h
  unfold f_V_clear_24 at hf
  refine rx_aload_n hG dX2_clear_0 0 rfl ?_
  refine gfX_V_9_24 l E T hG dX2_clear_1 ?_
  refine rx_iconst hG 0 dX2_clear_4 ic_0 ?_
  obtain ⟨M1, hM1, hf⟩ := bindE hf
  refine rx_cSv hG (c_fill l E _ (skX25 T) (Nat.le_of_ble_eq_true rfl) 0 hM1) kw_V_18 ⟨Nat.le_of_ble_eq_true rfl, Nat.le_of_ble_eq_true rfl⟩ rfl (Nat.le_of_ble_eq_true rfl) dX2_clear_5 ?_
  refine rx_aload_n hG dX2_clear_8 0 rfl ?_
  refine gfX_V_15_24 l E T hG dX2_clear_9 ?_
  refine rx_iconst hG 0 dX2_clear_12 ic_0 ?_
  obtain ⟨M2, hM2, hf⟩ := bindE hf
  refine rx_cSv hG (c_fill l E _ (skX26 T) (Nat.le_of_ble_eq_true rfl) 0 hM2) kw_V_18 ⟨Nat.le_of_ble_eq_true rfl, Nat.le_of_ble_eq_true rfl⟩ rfl (Nat.le_of_ble_eq_true rfl) dX2_clear_13 ?_
  refine rx_aload_n hG dX2_clear_16 0 rfl ?_
  refine rx_iconst hG 0 dX2_clear_17 ic_0 ?_
  obtain ⟨M3, hM3, hf⟩ := bindE hf
  refine pfX_V_24_24 l E T hG hM3 dX2_clear_18 ?_
  cases hf
  exact rx_vret hG dX2_clear_21
set_option maxHeartbeats 4000000 in
set_option maxRecDepth 100000 in
theorem c_N_clear_15 (l : Launch) (E : En) (T : List Sk)  {M M' : Mm} (h : f_N_clear_15 M = some M') : Ct l (SKX ++ T) E yX5_clear cX5_clear 1 none 2 43 [.ref (adr E 15)] M none M' := by
  refine ct_of (by decide) (Nat.le_of_ble_eq_true rfl) ?_
  intro G hG
  show G 0 [(0, .ref (adr E 15))] [] M
  have hf := h
  unfold f_N_clear_15 at hf
  refine rx_aload_n hG dX5_clear_0 0 rfl ?_
  refine rx_iconst hG 0 dX5_clear_1 ic_0 ?_
  obtain ⟨M1, hM1, hf⟩ := bindE hf
  refine pfX_N_43_15 l E T hG hM1 dX5_clear_2 ?_
  refine rx_aload_n hG dX5_clear_5 0 rfl ?_
  refine rx_iconst hG 0 dX5_clear_6 ic_0 ?_
  obtain ⟨M2, hM2, hf⟩ := bindE hf
  refine pfX_N_47_15 l E T hG hM2 dX5_clear_7 ?_
  refine rx_aload_n hG dX5_clear_10 0 rfl ?_
  refine rx_iconst hG 0 dX5_clear_11 ic_0 ?_
  obtain ⟨M3, hM3, hf⟩ := bindE hf
  refine pfX_N_50_15 l E T hG hM3 dX5_clear_12 ?_
  refine rx_aload_n hG dX5_clear_15 0 rfl ?_
  refine gfX_N_9_15 l E T hG dX5_clear_16 ?_
  refine rx_iconst hG 0 dX5_clear_19 ic_0 ?_
  obtain ⟨M4, hM4, hf⟩ := bindE hf
  refine rx_cSv hG (c_fill l E _ (skX16 T) (Nat.le_of_ble_eq_true rfl) 0 hM4) kw_N_53 ⟨Nat.le_of_ble_eq_true rfl, Nat.le_of_ble_eq_true rfl⟩ rfl (Nat.le_of_ble_eq_true rfl) dX5_clear_20 ?_
  refine rx_aload_n hG dX5_clear_23 0 rfl ?_
  refine gfX_N_15_15 l E T hG dX5_clear_24 ?_
  refine rx_iconst hG 0 dX5_clear_27 ic_0 ?_
  obtain ⟨M5, hM5, hf⟩ := bindE hf
  refine rx_cSv hG (c_fill l E _ (skX17 T) (Nat.le_of_ble_eq_true rfl) 0 hM5) kw_N_53 ⟨Nat.le_of_ble_eq_true rfl, Nat.le_of_ble_eq_true rfl⟩ rfl (Nat.le_of_ble_eq_true rfl) dX5_clear_28 ?_
  refine rx_aload_n hG dX5_clear_31 0 rfl ?_
  refine gfX_N_18_15 l E T hG dX5_clear_32 ?_
  refine rx_iconst hG 0 dX5_clear_35 ic_0 ?_
  obtain ⟨M6, hM6, hf⟩ := bindE hf
  refine rx_cSv hG (c_fill l E _ (skX18 T) (Nat.le_of_ble_eq_true rfl) 0 hM6) kw_N_53 ⟨Nat.le_of_ble_eq_true rfl, Nat.le_of_ble_eq_true rfl⟩ rfl (Nat.le_of_ble_eq_true rfl) dX5_clear_36 ?_
  refine rx_aload_n hG dX5_clear_39 0 rfl ?_
  refine gfX_N_39_15 l E T hG dX5_clear_40 ?_
  obtain ⟨M7, hM7, hf⟩ := bindE hf
  refine rx_cVv hG (c_V_clear_24 l E T  hM7) (skX24 T) rfl rfl kw_N_59 ⟨Nat.le_of_ble_eq_true rfl, Nat.le_of_ble_eq_true rfl⟩ rfl (Nat.le_of_ble_eq_true rfl) dX5_clear_43 ?_
  cases hf
  exact rx_vret hG dX5_clear_46
set_option maxHeartbeats 4000000 in
set_option maxRecDepth 100000 in
theorem c_R_isSort_14 (l : Launch) (E : En) (T : List Sk) (p0 : Int32) {M : Mm} {r : Int32} (h : f_R_isSort_14 p0 M = some r) : Ct l (SKX ++ T) E yX6_isSort cX6_isSort 2 (some .boolean) 0 0 [.ref (adr E 14), .int p0] M (some (.int r)) M := by
  refine ct_of (by decide) (Nat.le_of_ble_eq_true rfl) ?_
  intro G hG
  show G 0 [(0, .ref (adr E 14)), (1, .int p0)] [] M
  have hf := h
  unfold f_R_isSort_14 at hf
  refine rx_aload_n hG dX6_isSort_0 0 rfl ?_
  refine gfX_R_23_14 l E T hG dX6_isSort_1 ?_
  refine gfX_R_174_27 l E T hG dX6_isSort_4 ?_
  refine rx_aload_n hG dX6_isSort_7 0 rfl ?_
  refine gfX_R_31_14 l E T hG dX6_isSort_8 ?_
  obtain ⟨v1, hv1, hf⟩ := bindE hf
  refine rx_iald hG (skX28 T) hv1 dX6_isSort_11 ?_
  refine rx_iload_n hG dX6_isSort_12 1 rfl ?_
  refine rx_icmp_ne hG 20 dX6_isSort_13 rfl (fun c2 => ?_) (fun c2 => ?_)
  · have hf := ifF hf c2
    refine rx_iconst hG 0 dX6_isSort_20 ic_0 ?_
    cases hf
    exact rx_zret hG zr0 dX6_isSort_21
  · have hf := ifT hf c2
    refine rx_iconst hG 1 dX6_isSort_16 ic_1 ?_
    refine rx_goto hG 21 dX6_isSort_17 rfl ?_
    cases hf
    exact rx_zret hG zr1 dX6_isSort_21
set_option maxHeartbeats 4000000 in
set_option maxRecDepth 100000 in
theorem c_R_blame_14 (l : Launch) (E : En) (T : List Sk) (p0 : Int32) {M M' : Mm} {r : Int32} (h : f_R_blame_14 p0 M = some (r, M')) : Ct l (SKX ++ T) E yX6_blame cX6_blame 2 (some .boolean) 0 0 [.ref (adr E 14), .int p0] M (some (.int r)) M' := by
  refine ct_of (by decide) (Nat.le_of_ble_eq_true rfl) ?_
  intro G hG
  show G 0 [(0, .ref (adr E 14)), (1, .int p0)] [] M
  have hf := h
  unfold f_R_blame_14 at hf
  refine rx_aload_n hG dX6_blame_0 0 rfl ?_
  refine rx_iload_n hG dX6_blame_1 1 rfl ?_
  obtain ⟨M1, hM1, hf⟩ := bindE hf
  refine pfX_R_35_14 l E T hG hM1 dX6_blame_2 ?_
  refine rx_iconst hG 0 dX6_blame_5 ic_0 ?_
  cases hf
  exact rx_zret hG zr0 dX6_blame_6
set_option maxHeartbeats 4000000 in
set_option maxRecDepth 100000 in
theorem c_R_step_14 (l : Launch) (E : En) (T : List Sk)  {M M' : Mm} (h : f_R_step_14 M = some M') : Ct l (SKX ++ T) E yX6_step cX6_step 1 none 0 0 [.ref (adr E 14)] M none M' := by
  refine ct_of (by decide) (Nat.le_of_ble_eq_true rfl) ?_
  intro G hG
  show G 0 [(0, .ref (adr E 14))] [] M
  have hf := h
  unfold f_R_step_14 at hf
  refine rx_aload_n hG dX6_step_0 0 rfl ?_
  refine gfX_R_23_14 l E T hG dX6_step_1 ?_
  refine gfX_R_174_27 l E T hG dX6_step_4 ?_
  refine rx_aload_n hG dX6_step_7 0 rfl ?_
  refine gfX_R_31_14 l E T hG dX6_step_8 ?_
  obtain ⟨v1, hv1, hf⟩ := bindE hf
  refine rx_iald hG (skX28 T) hv1 dX6_step_11 ?_
  refine rx_if_eq hG 35 dX6_step_12 rfl (fun c2 => ?_) (fun c2 => ?_)
  · have hf := ifT hf c2
    cases hf
    exact rx_vret hG dX6_step_35
  · have hf := ifF hf c2
    refine rx_aload_n hG dX6_step_15 0 rfl ?_
    refine gfX_R_31_14 l E T hG dX6_step_16 ?_
    refine rx_sipush hG 600 dX6_step_19 sp_600 ?_
    refine rx_icmp_ge hG 35 dX6_step_22 rfl (fun c3 => ?_) (fun c3 => ?_)
    · have hf := ifT hf c3
      cases hf
      exact rx_vret hG dX6_step_35
    · have hf := ifF hf c3
      refine rx_aload_n hG dX6_step_25 0 rfl ?_
      refine rx_dup hG dX6_step_26 rfl ?_
      refine gfX_R_31_14 l E T hG dX6_step_27 ?_
      refine rx_iconst hG 1 dX6_step_30 ic_1 ?_
      refine rx_iadd hG dX6_step_31 ?_
      obtain ⟨M4, hM4, hf⟩ := bindE hf
      refine pfX_R_31_14 l E T hG hM4 dX6_step_32 ?_
      cases hf
      exact rx_vret hG dX6_step_35
set_option maxHeartbeats 4000000 in
set_option maxRecDepth 100000 in
theorem c_R_isWord_14 (l : Launch) (E : En) (T : List Sk) (p0 : Int32) {M : Mm} {r : Int32} (h : f_R_isWord_14 p0 M = some r) : Ct l (SKX ++ T) E yX6_isWord cX6_isWord 2 (some .boolean) 0 0 [.ref (adr E 14), .int p0] M (some (.int r)) M := by
  refine ct_of (by decide) (Nat.le_of_ble_eq_true rfl) ?_
  intro G hG
  show G 0 [(0, .ref (adr E 14)), (1, .int p0)] [] M
  have hf := h
  unfold f_R_isWord_14 at hf
  refine rx_aload_n hG dX6_isWord_0 0 rfl ?_
  refine gfX_R_23_14 l E T hG dX6_isWord_1 ?_
  refine gfX_R_174_27 l E T hG dX6_isWord_4 ?_
  refine rx_aload_n hG dX6_isWord_7 0 rfl ?_
  refine gfX_R_31_14 l E T hG dX6_isWord_8 ?_
  obtain ⟨v1, hv1, hf⟩ := bindE hf
  refine rx_iald hG (skX28 T) hv1 dX6_isWord_11 ?_
  refine rx_iconst hG 1 dX6_isWord_12 ic_1 ?_
  refine rx_icmp_ne hG 36 dX6_isWord_13 rfl (fun c2 => ?_) (fun c2 => ?_)
  · have hf := ifF hf c2
    refine rx_iconst hG 0 dX6_isWord_36 ic_0 ?_
    cases hf
    exact rx_zret hG zr0 dX6_isWord_37
  · have hf := ifT hf c2
    refine rx_aload_n hG dX6_isWord_16 0 rfl ?_
    refine gfX_R_23_14 l E T hG dX6_isWord_17 ?_
    refine gfX_R_69_27 l E T hG dX6_isWord_20 ?_
    refine rx_aload_n hG dX6_isWord_23 0 rfl ?_
    refine gfX_R_31_14 l E T hG dX6_isWord_24 ?_
    obtain ⟨v3, hv3, hf⟩ := bindE hf
    refine rx_iald hG (skX31 T) hv3 dX6_isWord_27 ?_
    refine rx_iload_n hG dX6_isWord_28 1 rfl ?_
    refine rx_icmp_ne hG 36 dX6_isWord_29 rfl (fun c4 => ?_) (fun c4 => ?_)
    · have hf := ifF hf c4
      refine rx_iconst hG 0 dX6_isWord_36 ic_0 ?_
      cases hf
      exact rx_zret hG zr0 dX6_isWord_37
    · have hf := ifT hf c4
      refine rx_iconst hG 1 dX6_isWord_32 ic_1 ?_
      refine rx_goto hG 37 dX6_isWord_33 rfl ?_
      cases hf
      exact rx_zret hG zr1 dX6_isWord_37
set_option maxHeartbeats 4000000 in
set_option maxRecDepth 100000 in
theorem c_K_letterAt_27 (l : Launch) (E : En) (T : List Sk) (p0 : Int32) (p1 : Int32) {M : Mm} {r : Int32} (h : f_K_letterAt_27 p0 p1 M = some r) : Ct l (SKX ++ T) E yX7_letterAt cX7_letterAt 4 (some .int) 0 0 [.ref (adr E 27), .int p0, .int p1] M (some (.int r)) M := by
  refine ct_of (by decide) (Nat.le_of_ble_eq_true rfl) ?_
  intro G hG
  show G 0 [(0, .ref (adr E 27)), (1, .int p0), (2, .int p1)] [] M
  have hf := h
  unfold f_K_letterAt_27 at hf
  refine rx_aload_n hG dX7_letterAt_0 0 rfl ?_
  refine gfX_K_15_27 l E T hG dX7_letterAt_1 ?_
  refine rx_iload_n hG dX7_letterAt_4 1 rfl ?_
  obtain ⟨v1, hv1, hf⟩ := bindE hf
  refine rx_iald hG (skX29 T) hv1 dX7_letterAt_5 ?_
  refine rx_iload_n hG dX7_letterAt_6 2 rfl ?_
  refine rx_iadd hG dX7_letterAt_7 ?_
  refine rx_istore_n (lv2 := [(3, .int (v1 + p1)), (0, .ref (adr E 27)), (1, .int p0), (2, .int p1)]) hG dX7_letterAt_8 (Nat.le_of_ble_eq_true rfl) rfl ?_
  refine rx_iload_n hG dX7_letterAt_9 0 rfl ?_
  refine rx_if_lt hG 32 dX7_letterAt_10 rfl (fun c2 => ?_) (fun c2 => ?_)
  · have hf := ifT hf c2
    refine rx_iconst hG (-1) dX7_letterAt_32 ic_m1 ?_
    cases hf
    exact rx_iret hG dX7_letterAt_33
  · have hf := ifF hf c2
    refine rx_iload_n hG dX7_letterAt_13 0 rfl ?_
    refine rx_sipush hG 600 dX7_letterAt_14 sp_600 ?_
    refine rx_icmp_ge hG 32 dX7_letterAt_17 rfl (fun c3 => ?_) (fun c3 => ?_)
    · have hf := ifT hf c3
      refine rx_iconst hG (-1) dX7_letterAt_32 ic_m1 ?_
      cases hf
      exact rx_iret hG dX7_letterAt_33
    · have hf := ifF hf c3
      refine rx_aload_n hG dX7_letterAt_20 1 rfl ?_
      refine gfX_K_24_27 l E T hG dX7_letterAt_21 ?_
      refine rx_iload_n hG dX7_letterAt_24 0 rfl ?_
      obtain ⟨v4, hv4, hf⟩ := bindE hf
      refine rx_bald hG (skX1 T) hv4 dX7_letterAt_25 ?_
      refine rx_bipush hG 97 dX7_letterAt_26 bp_97 ?_
      refine rx_isub hG dX7_letterAt_28 ?_
      refine rx_goto hG 33 dX7_letterAt_29 rfl ?_
      cases hf
      exact rx_iret hG dX7_letterAt_33
set_option maxHeartbeats 4000000 in
set_option maxRecDepth 100000 in
theorem Lblp_R_isNameIn_14_30 (l : Launch) (E : En) (T : List Sk) {a0 b0 kc ks : Nat} {r : Int32} {M : Mm} {G : Nat → List (Nat × Value) → List Value → Mm → Prop} (hG : RX l (SKX ++ T) E RX6 cX6_isNameIn 4 (some .boolean) { frames := 1, cells := a0, slots := b0, locals := 23 } kc ks (some (.int r)) M G) (rc30 : Int32 → Int32 → Int32 → Mm → Option Int32) (hrc30 : ∀ (x1 : Int32) (x2 : Int32) (x3 : Int32), rc30 x1 x2 x3 M = some r → G 30 [(0, .ref (adr E 14)), (1, .int x1), (2, .int x2), (3, .int x3)] [] M) : ∀ (x1 : Int32) (x2 : Int32) (x3 : Int32), blp_R_isNameIn_14_30 rc30 x1 x2 x3 M = some r → G 30 [(0, .ref (adr E 14)), (1, .int x1), (2, .int x2), (3, .int x3)] [] M := by
  intro x1 x2 x3 hf
  unfold blp_R_isNameIn_14_30 at hf
  refine rx_iload_n hG dX6_isNameIn_30 3 rfl ?_
  refine rx_iload_n hG dX6_isNameIn_31 2 rfl ?_
  refine rx_icmp_ge hG 72 dX6_isNameIn_32 rfl (fun c1 => ?_) (fun c1 => ?_)
  · have hf := ifT hf c1
    refine rx_iconst hG 1 dX6_isNameIn_72 ic_1 ?_
    cases hf
    exact rx_zret hG zr1 dX6_isNameIn_73
  · have hf := ifF hf c1
    refine rx_aload_n hG dX6_isNameIn_35 0 rfl ?_
    refine gfX_R_12_14 l E T hG dX6_isNameIn_36 ?_
    refine gfX_R_165_15 l E T hG dX6_isNameIn_39 ?_
    refine rx_bipush hG 6 dX6_isNameIn_42 bp_6 ?_
    refine rx_iload_n hG dX6_isNameIn_44 1 rfl ?_
    refine rx_imul hG dX6_isNameIn_45 ?_
    refine rx_iload_n hG dX6_isNameIn_46 3 rfl ?_
    refine rx_iadd hG dX6_isNameIn_47 ?_
    obtain ⟨v2, hv2, hf⟩ := bindE hf
    refine rx_iald hG (skX22 T) hv2 dX6_isNameIn_48 ?_
    refine rx_aload_n hG dX6_isNameIn_49 0 rfl ?_
    refine gfX_R_23_14 l E T hG dX6_isNameIn_50 ?_
    refine rx_aload_n hG dX6_isNameIn_53 0 rfl ?_
    refine gfX_R_31_14 l E T hG dX6_isNameIn_54 ?_
    refine rx_iload_n hG dX6_isNameIn_57 3 rfl ?_
    obtain ⟨v3, hv3, hf⟩ := bindE hf
    refine rx_cVi hG (c_K_letterAt_27 l E T (M.1 14 2) x3 hv3) (skX27 T) rfl rfl kw_R_168 ⟨Nat.le_of_ble_eq_true rfl, Nat.le_of_ble_eq_true rfl⟩ rfl (Nat.le_of_ble_eq_true rfl) dX6_isNameIn_58 ?_
    refine rx_icmp_eq hG 66 dX6_isNameIn_61 rfl (fun c4 => ?_) (fun c4 => ?_)
    · have hf := ifT hf c4
      refine rx_iinc (lv2 := [(3, .int (x3 + 1)), (0, .ref (adr E 14)), (1, .int x1), (2, .int x2)]) hG 1 dX6_isNameIn_66 ic_1 3 rfl (Nat.le_of_ble_eq_true rfl) rfl ?_
      refine rx_goto hG 30 dX6_isNameIn_69 rfl ?_
      refine rx_sub hG [1, 2, 3, 0] (lv' := [(0, .ref (adr E 14)), (1, .int x1), (2, .int x2), (3, .int (x3 + 1))]) rfl ?_
      exact hrc30 x1 x2 (x3 + 1) hf
    · have hf := ifF hf c4
      refine rx_iconst hG 0 dX6_isNameIn_64 ic_0 ?_
      cases hf
      exact rx_zret hG zr0 dX6_isNameIn_65
theorem Llp_R_isNameIn_14_30 (l : Launch) (E : En) (T : List Sk) {a0 b0 kc ks : Nat} {r : Int32} {M : Mm} {G : Nat → List (Nat × Value) → List Value → Mm → Prop} (hG : RX l (SKX ++ T) E RX6 cX6_isNameIn 4 (some .boolean) { frames := 1, cells := a0, slots := b0, locals := 23 } kc ks (some (.int r)) M G)  : ∀ (n : Nat) (x1 : Int32) (x2 : Int32) (x3 : Int32), lp_R_isNameIn_14_30  n x1 x2 x3 M = some r → G 30 [(0, .ref (adr E 14)), (1, .int x1), (2, .int x2), (3, .int x3)] [] M := by
  intro n
  induction n with
  | zero => intro x1 x2 x3 hf; cases hf
  | succ n ih => intro x1 x2 x3 hf; exact Lblp_R_isNameIn_14_30 l E T hG  (lp_R_isNameIn_14_30  n) ih x1 x2 x3 hf
set_option maxHeartbeats 4000000 in
set_option maxRecDepth 100000 in
theorem c_R_isNameIn_14 (l : Launch) (E : En) (T : List Sk) (p0 : Int32) {M : Mm} {r : Int32} (h : f_R_isNameIn_14 p0 M = some r) : Ct l (SKX ++ T) E yX6_isNameIn cX6_isNameIn 4 (some .boolean) 1 23 [.ref (adr E 14), .int p0] M (some (.int r)) M := by
  refine ct_of (by decide) (Nat.le_of_ble_eq_true rfl) ?_
  intro G hG
  show G 0 [(0, .ref (adr E 14)), (1, .int p0)] [] M
  have hf := h
  unfold f_R_isNameIn_14 at hf
  refine rx_aload_n hG dX6_isNameIn_0 0 rfl ?_
  refine gfX_R_23_14 l E T hG dX6_isNameIn_1 ?_
  refine gfX_R_154_27 l E T hG dX6_isNameIn_4 ?_
  refine rx_aload_n hG dX6_isNameIn_7 0 rfl ?_
  refine gfX_R_31_14 l E T hG dX6_isNameIn_8 ?_
  obtain ⟨v1, hv1, hf⟩ := bindE hf
  refine rx_iald hG (skX30 T) hv1 dX6_isNameIn_11 ?_
  refine rx_istore_n (lv2 := [(2, .int v1), (0, .ref (adr E 14)), (1, .int p0)]) hG dX6_isNameIn_12 (Nat.le_of_ble_eq_true rfl) rfl ?_
  refine rx_aload_n hG dX6_isNameIn_13 1 rfl ?_
  refine gfX_R_12_14 l E T hG dX6_isNameIn_14 ?_
  refine gfX_R_162_15 l E T hG dX6_isNameIn_17 ?_
  refine rx_iload_n hG dX6_isNameIn_20 2 rfl ?_
  obtain ⟨v2, hv2, hf⟩ := bindE hf
  refine rx_iald hG (skX23 T) hv2 dX6_isNameIn_21 ?_
  refine rx_iload_n hG dX6_isNameIn_22 0 rfl ?_
  refine rx_icmp_eq hG 28 dX6_isNameIn_23 rfl (fun c3 => ?_) (fun c3 => ?_)
  · have hf := ifT hf c3
    refine rx_iconst hG 0 dX6_isNameIn_28 ic_0 ?_
    refine rx_istore_n (lv2 := [(3, .int 0), (2, .int v1), (0, .ref (adr E 14)), (1, .int p0)]) hG dX6_isNameIn_29 (Nat.le_of_ble_eq_true rfl) rfl ?_
    refine rx_sub hG [2, 3, 1, 0] (lv' := [(0, .ref (adr E 14)), (1, .int p0), (2, .int v1), (3, .int 0)]) rfl ?_
    exact Llp_R_isNameIn_14_30 l E T hG  FW p0 v1 0 hf
  · have hf := ifF hf c3
    refine rx_iconst hG 0 dX6_isNameIn_26 ic_0 ?_
    cases hf
    exact rx_zret hG zr0 dX6_isNameIn_27
set_option maxHeartbeats 4000000 in
set_option maxRecDepth 100000 in
theorem Lblp_R_placeOfName_14_2 (l : Launch) (E : En) (T : List Sk) {a0 b0 kc ks : Nat} {r : Int32} {M : Mm} {G : Nat → List (Nat × Value) → List Value → Mm → Prop} (hG : RX l (SKX ++ T) E RX6 cX6_placeOfName 4 (some .int) { frames := 2, cells := a0, slots := b0, locals := 46 } kc ks (some (.int r)) M G) (rc2 : Int32 → Int32 → Int32 → Mm → Option Int32) (hrc2 : ∀ (x1 : Int32) (x2 : Int32) (x3 : Int32), rc2 x1 x2 x3 M = some r → G 2 [(0, .ref (adr E 14)), (1, .int x1), (2, .int x2), (3, .int x3)] [] M) : ∀ (x1 : Int32) (x2 : Int32) (x3 : Int32), blp_R_placeOfName_14_2 rc2 x1 x2 x3 M = some r → G 2 [(0, .ref (adr E 14)), (1, .int x1), (2, .int x2), (3, .int x3)] [] M := by
  intro x1 x2 x3 hf
  unfold blp_R_placeOfName_14_2 at hf
  refine rx_iload_n hG dX6_placeOfName_2 3 rfl ?_
  refine rx_iload_n hG dX6_placeOfName_3 2 rfl ?_
  refine rx_icmp_ge hG 25 dX6_placeOfName_4 rfl (fun c1 => ?_) (fun c1 => ?_)
  · have hf := ifT hf c1
    refine rx_iconst hG (-1) dX6_placeOfName_25 ic_m1 ?_
    cases hf
    exact rx_iret hG dX6_placeOfName_26
  · have hf := ifF hf c1
    refine rx_aload_n hG dX6_placeOfName_7 0 rfl ?_
    refine rx_iload_n hG dX6_placeOfName_8 1 rfl ?_
    refine rx_iload_n hG dX6_placeOfName_9 3 rfl ?_
    refine rx_iadd hG dX6_placeOfName_10 ?_
    obtain ⟨v2, hv2, hf⟩ := bindE hf
    refine rx_cVi hG (c_R_isNameIn_14 l E T (x1 + x3) hv2) (skX14 T) rfl rfl kw_R_171 ⟨Nat.le_of_ble_eq_true rfl, Nat.le_of_ble_eq_true rfl⟩ rfl (Nat.le_of_ble_eq_true rfl) dX6_placeOfName_11 ?_
    refine rx_if_eq hG 19 dX6_placeOfName_14 rfl (fun c3 => ?_) (fun c3 => ?_)
    · have hf := ifT hf c3
      refine rx_iinc (lv2 := [(3, .int (x3 + 1)), (0, .ref (adr E 14)), (1, .int x1), (2, .int x2)]) hG 1 dX6_placeOfName_19 ic_1 3 rfl (Nat.le_of_ble_eq_true rfl) rfl ?_
      refine rx_goto hG 2 dX6_placeOfName_22 rfl ?_
      refine rx_sub hG [1, 2, 3, 0] (lv' := [(0, .ref (adr E 14)), (1, .int x1), (2, .int x2), (3, .int (x3 + 1))]) rfl ?_
      exact hrc2 x1 x2 (x3 + 1) hf
    · have hf := ifF hf c3
      refine rx_iload_n hG dX6_placeOfName_17 3 rfl ?_
      cases hf
      exact rx_iret hG dX6_placeOfName_18
theorem Llp_R_placeOfName_14_2 (l : Launch) (E : En) (T : List Sk) {a0 b0 kc ks : Nat} {r : Int32} {M : Mm} {G : Nat → List (Nat × Value) → List Value → Mm → Prop} (hG : RX l (SKX ++ T) E RX6 cX6_placeOfName 4 (some .int) { frames := 2, cells := a0, slots := b0, locals := 46 } kc ks (some (.int r)) M G)  : ∀ (n : Nat) (x1 : Int32) (x2 : Int32) (x3 : Int32), lp_R_placeOfName_14_2  n x1 x2 x3 M = some r → G 2 [(0, .ref (adr E 14)), (1, .int x1), (2, .int x2), (3, .int x3)] [] M := by
  intro n
  induction n with
  | zero => intro x1 x2 x3 hf; cases hf
  | succ n ih => intro x1 x2 x3 hf; exact Lblp_R_placeOfName_14_2 l E T hG  (lp_R_placeOfName_14_2  n) ih x1 x2 x3 hf
set_option maxHeartbeats 4000000 in
set_option maxRecDepth 100000 in
theorem c_R_placeOfName_14 (l : Launch) (E : En) (T : List Sk) (p0 : Int32) (p1 : Int32) {M : Mm} {r : Int32} (h : f_R_placeOfName_14 p0 p1 M = some r) : Ct l (SKX ++ T) E yX6_placeOfName cX6_placeOfName 4 (some .int) 2 46 [.ref (adr E 14), .int p0, .int p1] M (some (.int r)) M := by
  refine ct_of (by decide) (Nat.le_of_ble_eq_true rfl) ?_
  intro G hG
  show G 0 [(0, .ref (adr E 14)), (1, .int p0), (2, .int p1)] [] M
  have hf := h
  unfold f_R_placeOfName_14 at hf
  refine rx_iconst hG 0 dX6_placeOfName_0 ic_0 ?_
  refine rx_istore_n (lv2 := [(3, .int 0), (0, .ref (adr E 14)), (1, .int p0), (2, .int p1)]) hG dX6_placeOfName_1 (Nat.le_of_ble_eq_true rfl) rfl ?_
  refine rx_sub hG [1, 2, 3, 0] (lv' := [(0, .ref (adr E 14)), (1, .int p0), (2, .int p1), (3, .int 0)]) rfl ?_
  exact Llp_R_placeOfName_14_2 l E T hG  FW p0 p1 0 hf
set_option maxHeartbeats 4000000 in
set_option maxRecDepth 100000 in
theorem Lblp_R_readNewName_14_81 (l : Launch) (E : En) (T : List Sk) {a0 b0 kc ks : Nat} {r : Int32} {M' : Mm} {G : Nat → List (Nat × Value) → List Value → Mm → Prop} (hG : RX l (SKX ++ T) E RX6 cX6_readNewName 4 (some .boolean) { frames := 3, cells := a0, slots := b0, locals := 69 } kc ks (some (.int r)) M' G) (rc81 : Int32 → Int32 → Int32 → Mm → Option (Int32 × Mm)) (hrc81 : ∀ (x1 : Int32) (x2 : Int32) (x3 : Int32) (M : Mm), rc81 x1 x2 x3 M = some (r, M') → G 81 [(0, .ref (adr E 14)), (1, .int x1), (2, .int x2), (3, .int x3)] [] M) : ∀ (x1 : Int32) (x2 : Int32) (x3 : Int32) (M : Mm), blp_R_readNewName_14_81 rc81 x1 x2 x3 M = some (r, M') → G 81 [(0, .ref (adr E 14)), (1, .int x1), (2, .int x2), (3, .int x3)] [] M := by
  intro x1 x2 x3 M hf
  unfold blp_R_readNewName_14_81 at hf
  refine rx_iload_n hG dX6_readNewName_81 3 rfl ?_
  refine rx_iload_n hG dX6_readNewName_82 2 rfl ?_
  refine rx_icmp_ge hG 118 dX6_readNewName_83 rfl (fun c1 => ?_) (fun c1 => ?_)
  · have hf := ifT hf c1
    refine rx_aload_n hG dX6_readNewName_118 0 rfl ?_
    obtain ⟨M2, hM2, hf⟩ := bindE hf
    refine rx_cVv hG (c_R_step_14 l E T  hM2) (skX14 T) rfl rfl kw_R_62 ⟨Nat.le_of_ble_eq_true rfl, Nat.le_of_ble_eq_true rfl⟩ rfl (Nat.le_of_ble_eq_true rfl) dX6_readNewName_119 ?_
    refine rx_iconst hG 1 dX6_readNewName_122 ic_1 ?_
    cases hf
    exact rx_zret hG zr1 dX6_readNewName_123
  · have hf := ifF hf c1
    refine rx_aload_n hG dX6_readNewName_86 0 rfl ?_
    refine gfX_R_12_14 l E T hG dX6_readNewName_87 ?_
    refine gfX_R_165_15 l E T hG dX6_readNewName_90 ?_
    refine rx_bipush hG 6 dX6_readNewName_93 bp_6 ?_
    refine rx_iload_n hG dX6_readNewName_95 1 rfl ?_
    refine rx_imul hG dX6_readNewName_96 ?_
    refine rx_iload_n hG dX6_readNewName_97 3 rfl ?_
    refine rx_iadd hG dX6_readNewName_98 ?_
    refine rx_aload_n hG dX6_readNewName_99 0 rfl ?_
    refine gfX_R_23_14 l E T hG dX6_readNewName_100 ?_
    refine rx_aload_n hG dX6_readNewName_103 0 rfl ?_
    refine gfX_R_31_14 l E T hG dX6_readNewName_104 ?_
    refine rx_iload_n hG dX6_readNewName_107 3 rfl ?_
    obtain ⟨v3, hv3, hf⟩ := bindE hf
    refine rx_cVi hG (c_K_letterAt_27 l E T (M.1 14 2) x3 hv3) (skX27 T) rfl rfl kw_R_168 ⟨Nat.le_of_ble_eq_true rfl, Nat.le_of_ble_eq_true rfl⟩ rfl (Nat.le_of_ble_eq_true rfl) dX6_readNewName_108 ?_
    obtain ⟨M4, hM4, hf⟩ := bindE hf
    refine rx_iast hG (skX22 T) hM4 dX6_readNewName_111 ?_
    refine rx_iinc (lv2 := [(3, .int (x3 + 1)), (0, .ref (adr E 14)), (1, .int x1), (2, .int x2)]) hG 1 dX6_readNewName_112 ic_1 3 rfl (Nat.le_of_ble_eq_true rfl) rfl ?_
    refine rx_goto hG 81 dX6_readNewName_115 rfl ?_
    refine rx_sub hG [1, 2, 3, 0] (lv' := [(0, .ref (adr E 14)), (1, .int x1), (2, .int x2), (3, .int (x3 + 1))]) rfl ?_
    exact hrc81 x1 x2 (x3 + 1) M4 hf
theorem Llp_R_readNewName_14_81 (l : Launch) (E : En) (T : List Sk) {a0 b0 kc ks : Nat} {r : Int32} {M' : Mm} {G : Nat → List (Nat × Value) → List Value → Mm → Prop} (hG : RX l (SKX ++ T) E RX6 cX6_readNewName 4 (some .boolean) { frames := 3, cells := a0, slots := b0, locals := 69 } kc ks (some (.int r)) M' G)  : ∀ (n : Nat) (x1 : Int32) (x2 : Int32) (x3 : Int32) (M : Mm), lp_R_readNewName_14_81  n x1 x2 x3 M = some (r, M') → G 81 [(0, .ref (adr E 14)), (1, .int x1), (2, .int x2), (3, .int x3)] [] M := by
  intro n
  induction n with
  | zero => intro x1 x2 x3 M hf; cases hf
  | succ n ih => intro x1 x2 x3 M hf; exact Lblp_R_readNewName_14_81 l E T hG  (lp_R_readNewName_14_81  n) ih x1 x2 x3 M hf
set_option maxHeartbeats 4000000 in
set_option maxRecDepth 100000 in
theorem c_R_readNewName_14 (l : Launch) (E : En) (T : List Sk) (p0 : Int32) {M M' : Mm} {r : Int32} (h : f_R_readNewName_14 p0 M = some (r, M')) : Ct l (SKX ++ T) E yX6_readNewName cX6_readNewName 4 (some .boolean) 3 69 [.ref (adr E 14), .int p0] M (some (.int r)) M' := by
  refine ct_of (by decide) (Nat.le_of_ble_eq_true rfl) ?_
  intro G hG
  show G 0 [(0, .ref (adr E 14)), (1, .int p0)] [] M
  have hf := h
  unfold f_R_readNewName_14 at hf
  refine rx_aload_n hG dX6_readNewName_0 0 rfl ?_
  refine rx_bipush hG 12 dX6_readNewName_1 bp_12 ?_
  obtain ⟨v1, hv1, hf⟩ := bindE hf
  refine rx_cVi hG (c_R_isWord_14 l E T 12 hv1) (skX14 T) rfl rfl kw_R_118 ⟨Nat.le_of_ble_eq_true rfl, Nat.le_of_ble_eq_true rfl⟩ rfl (Nat.le_of_ble_eq_true rfl) dX6_readNewName_3 ?_
  refine rx_if_ne hG 15 dX6_readNewName_6 rfl (fun c2 => ?_) (fun c2 => ?_)
  · have hf := ifF hf c2
    refine rx_aload_n hG dX6_readNewName_15 0 rfl ?_
    refine rx_iconst hG 0 dX6_readNewName_16 ic_0 ?_
    refine rx_aload_n hG dX6_readNewName_17 0 rfl ?_
    refine gfX_R_12_14 l E T hG dX6_readNewName_18 ?_
    refine gfX_R_53_15 l E T hG dX6_readNewName_21 ?_
    obtain ⟨v3, hv3, hf⟩ := bindE hf
    refine rx_cVi hG (c_R_placeOfName_14 l E T 0 (M.1 15 0) hv3) (skX14 T) rfl rfl kw_R_151 ⟨Nat.le_of_ble_eq_true rfl, Nat.le_of_ble_eq_true rfl⟩ rfl (Nat.le_of_ble_eq_true rfl) dX6_readNewName_24 ?_
    refine rx_if_ge hG 45 dX6_readNewName_27 rfl (fun c4 => ?_) (fun c4 => ?_)
    · have hf := ifT hf c4
      refine rx_aload_n hG dX6_readNewName_45 0 rfl ?_
      refine rx_iconst hG 3 dX6_readNewName_46 ic_3 ?_
      obtain ⟨q5, hq5, hf⟩ := bindE hf
      refine rx_cVi hG (c_R_blame_14 l E T 3 hq5) (skX14 T) rfl rfl kw_R_59 ⟨Nat.le_of_ble_eq_true rfl, Nat.le_of_ble_eq_true rfl⟩ rfl (Nat.le_of_ble_eq_true rfl) dX6_readNewName_47 ?_
      obtain ⟨z6, hz6, hf⟩ := bindE hf
      cases hf
      exact rx_zret hG hz6 dX6_readNewName_50
    · have hf := ifF hf c4
      refine rx_aload_n hG dX6_readNewName_30 0 rfl ?_
      refine rx_iconst hG 3 dX6_readNewName_31 ic_3 ?_
      refine rx_aload_n hG dX6_readNewName_32 0 rfl ?_
      refine gfX_R_12_14 l E T hG dX6_readNewName_33 ?_
      refine gfX_R_56_15 l E T hG dX6_readNewName_36 ?_
      obtain ⟨v7, hv7, hf⟩ := bindE hf
      refine rx_cVi hG (c_R_placeOfName_14 l E T 3 (M.1 15 1) hv7) (skX14 T) rfl rfl kw_R_151 ⟨Nat.le_of_ble_eq_true rfl, Nat.le_of_ble_eq_true rfl⟩ rfl (Nat.le_of_ble_eq_true rfl) dX6_readNewName_39 ?_
      refine rx_if_lt hG 51 dX6_readNewName_42 rfl (fun c8 => ?_) (fun c8 => ?_)
      · have hf := ifT hf c8
        refine rx_aload_n hG dX6_readNewName_51 0 rfl ?_
        refine gfX_R_23_14 l E T hG dX6_readNewName_52 ?_
        refine gfX_R_154_27 l E T hG dX6_readNewName_55 ?_
        refine rx_aload_n hG dX6_readNewName_58 0 rfl ?_
        refine gfX_R_31_14 l E T hG dX6_readNewName_59 ?_
        obtain ⟨v9, hv9, hf⟩ := bindE hf
        refine rx_iald hG (skX30 T) hv9 dX6_readNewName_62 ?_
        refine rx_bipush hG 6 dX6_readNewName_63 bp_6 ?_
        refine rx_min hG kw_R_157 ⟨Nat.le_of_ble_eq_true rfl, Nat.le_of_ble_eq_true rfl⟩ dX6_readNewName_65 ?_
        refine rx_istore_n (lv2 := [(2, .int (mn v9 6)), (0, .ref (adr E 14)), (1, .int p0)]) hG dX6_readNewName_68 (Nat.le_of_ble_eq_true rfl) rfl ?_
        refine rx_aload_n hG dX6_readNewName_69 1 rfl ?_
        refine gfX_R_12_14 l E T hG dX6_readNewName_70 ?_
        refine gfX_R_162_15 l E T hG dX6_readNewName_73 ?_
        refine rx_iload_n hG dX6_readNewName_76 2 rfl ?_
        refine rx_iload_n hG dX6_readNewName_77 0 rfl ?_
        obtain ⟨M10, hM10, hf⟩ := bindE hf
        refine rx_iast hG (skX23 T) hM10 dX6_readNewName_78 ?_
        refine rx_iconst hG 0 dX6_readNewName_79 ic_0 ?_
        refine rx_istore_n (lv2 := [(3, .int 0), (2, .int (mn v9 6)), (0, .ref (adr E 14)), (1, .int p0)]) hG dX6_readNewName_80 (Nat.le_of_ble_eq_true rfl) rfl ?_
        refine rx_sub hG [2, 3, 1, 0] (lv' := [(0, .ref (adr E 14)), (1, .int p0), (2, .int (mn v9 6)), (3, .int 0)]) rfl ?_
        exact Llp_R_readNewName_14_81 l E T hG  FW p0 (mn v9 6) 0 M10 hf
      · have hf := ifF hf c8
        refine rx_aload_n hG dX6_readNewName_45 0 rfl ?_
        refine rx_iconst hG 3 dX6_readNewName_46 ic_3 ?_
        obtain ⟨q11, hq11, hf⟩ := bindE hf
        refine rx_cVi hG (c_R_blame_14 l E T 3 hq11) (skX14 T) rfl rfl kw_R_59 ⟨Nat.le_of_ble_eq_true rfl, Nat.le_of_ble_eq_true rfl⟩ rfl (Nat.le_of_ble_eq_true rfl) dX6_readNewName_47 ?_
        obtain ⟨z12, hz12, hf⟩ := bindE hf
        cases hf
        exact rx_zret hG hz12 dX6_readNewName_50
  · have hf := ifT hf c2
    refine rx_aload_n hG dX6_readNewName_9 0 rfl ?_
    refine rx_iconst hG 1 dX6_readNewName_10 ic_1 ?_
    obtain ⟨q13, hq13, hf⟩ := bindE hf
    refine rx_cVi hG (c_R_blame_14 l E T 1 hq13) (skX14 T) rfl rfl kw_R_59 ⟨Nat.le_of_ble_eq_true rfl, Nat.le_of_ble_eq_true rfl⟩ rfl (Nat.le_of_ble_eq_true rfl) dX6_readNewName_11 ?_
    obtain ⟨z14, hz14, hf⟩ := bindE hf
    cases hf
    exact rx_zret hG hz14 dX6_readNewName_14
set_option maxHeartbeats 4000000 in
set_option maxRecDepth 100000 in
theorem c_R_readWare_14 (l : Launch) (E : En) (T : List Sk)  {M M' : Mm} {r : Int32} (h : f_R_readWare_14 M = some (r, M')) : Ct l (SKX ++ T) E yX6_readWare cX6_readWare 1 (some .boolean) 4 92 [.ref (adr E 14)] M (some (.int r)) M' := by
  refine ct_of (by decide) (Nat.le_of_ble_eq_true rfl) ?_
  intro G hG
  show G 0 [(0, .ref (adr E 14))] [] M
  have hf := h
  unfold f_R_readWare_14 at hf
  refine rx_aload_n hG dX6_readWare_0 0 rfl ?_
  refine gfX_R_12_14 l E T hG dX6_readWare_1 ?_
  refine gfX_R_53_15 l E T hG dX6_readWare_4 ?_
  refine rx_iconst hG 3 dX6_readWare_7 ic_3 ?_
  refine rx_icmp_ge hG 21 dX6_readWare_8 rfl (fun c1 => ?_) (fun c1 => ?_)
  · have hf := ifT hf c1
    refine rx_aload_n hG dX6_readWare_21 0 rfl ?_
    refine rx_iconst hG 4 dX6_readWare_22 ic_4 ?_
    obtain ⟨q2, hq2, hf⟩ := bindE hf
    refine rx_cVi hG (c_R_blame_14 l E T 4 hq2) (skX14 T) rfl rfl kw_R_59 ⟨Nat.le_of_ble_eq_true rfl, Nat.le_of_ble_eq_true rfl⟩ rfl (Nat.le_of_ble_eq_true rfl) dX6_readWare_23 ?_
    obtain ⟨z3, hz3, hf⟩ := bindE hf
    cases hf
    exact rx_zret hG hz3 dX6_readWare_26
  · have hf := ifF hf c1
    refine rx_aload_n hG dX6_readWare_11 0 rfl ?_
    refine gfX_R_12_14 l E T hG dX6_readWare_12 ?_
    refine gfX_R_56_15 l E T hG dX6_readWare_15 ?_
    refine rx_if_le hG 27 dX6_readWare_18 rfl (fun c4 => ?_) (fun c4 => ?_)
    · have hf := ifT hf c4
      refine rx_aload_n hG dX6_readWare_27 0 rfl ?_
      obtain ⟨M5, hM5, hf⟩ := bindE hf
      refine rx_cVv hG (c_R_step_14 l E T  hM5) (skX14 T) rfl rfl kw_R_62 ⟨Nat.le_of_ble_eq_true rfl, Nat.le_of_ble_eq_true rfl⟩ rfl (Nat.le_of_ble_eq_true rfl) dX6_readWare_28 ?_
      refine rx_aload_n hG dX6_readWare_31 0 rfl ?_
      refine rx_aload_n hG dX6_readWare_32 0 rfl ?_
      refine gfX_R_12_14 l E T hG dX6_readWare_33 ?_
      refine gfX_R_53_15 l E T hG dX6_readWare_36 ?_
      obtain ⟨q6, hq6, hf⟩ := bindE hf
      refine rx_cVi hG (c_R_readNewName_14 l E T (M5.1 15 0) hq6) (skX14 T) rfl rfl kw_R_87 ⟨Nat.le_of_ble_eq_true rfl, Nat.le_of_ble_eq_true rfl⟩ rfl (Nat.le_of_ble_eq_true rfl) dX6_readWare_39 ?_
      refine rx_if_ne hG 47 dX6_readWare_42 rfl (fun c7 => ?_) (fun c7 => ?_)
      · have hf := ifF hf c7
        refine rx_aload_n hG dX6_readWare_47 0 rfl ?_
        refine gfX_R_12_14 l E T hG dX6_readWare_48 ?_
        refine rx_dup hG dX6_readWare_51 rfl ?_
        refine gfX_R_53_15 l E T hG dX6_readWare_52 ?_
        refine rx_iconst hG 1 dX6_readWare_55 ic_1 ?_
        refine rx_iadd hG dX6_readWare_56 ?_
        obtain ⟨M8, hM8, hf⟩ := bindE hf
        refine pfX_R_53_15 l E T hG hM8 dX6_readWare_57 ?_
        refine rx_iconst hG 1 dX6_readWare_60 ic_1 ?_
        cases hf
        exact rx_zret hG zr1 dX6_readWare_61
      · have hf := ifT hf c7
        refine rx_iconst hG 0 dX6_readWare_45 ic_0 ?_
        cases hf
        exact rx_zret hG zr0 dX6_readWare_46
    · have hf := ifF hf c4
      refine rx_aload_n hG dX6_readWare_21 0 rfl ?_
      refine rx_iconst hG 4 dX6_readWare_22 ic_4 ?_
      obtain ⟨q9, hq9, hf⟩ := bindE hf
      refine rx_cVi hG (c_R_blame_14 l E T 4 hq9) (skX14 T) rfl rfl kw_R_59 ⟨Nat.le_of_ble_eq_true rfl, Nat.le_of_ble_eq_true rfl⟩ rfl (Nat.le_of_ble_eq_true rfl) dX6_readWare_23 ?_
      obtain ⟨z10, hz10, hf⟩ := bindE hf
      cases hf
      exact rx_zret hG hz10 dX6_readWare_26
set_option maxHeartbeats 4000000 in
set_option maxRecDepth 100000 in
theorem c_R_readWhole_14 (l : Launch) (E : En) (T : List Sk) (p0 : Int32) (p1 : Int32) {M M' : Mm} {r : Int32} (h : f_R_readWhole_14 p0 p1 M = some (r, M')) : Ct l (SKX ++ T) E yX6_readWhole cX6_readWhole 4 (some .int) 1 21 [.ref (adr E 14), .int p0, .int p1] M (some (.int r)) M' := by
  refine ct_of (by decide) (Nat.le_of_ble_eq_true rfl) ?_
  intro G hG
  show G 0 [(0, .ref (adr E 14)), (1, .int p0), (2, .int p1)] [] M
  have hf := h
  unfold f_R_readWhole_14 at hf
  refine rx_aload_n hG dX6_readWhole_0 0 rfl ?_
  refine rx_iconst hG 2 dX6_readWhole_1 ic_2 ?_
  obtain ⟨v1, hv1, hf⟩ := bindE hf
  refine rx_cVi hG (c_R_isSort_14 l E T 2 hv1) (skX14 T) rfl rfl kw_R_49 ⟨Nat.le_of_ble_eq_true rfl, Nat.le_of_ble_eq_true rfl⟩ rfl (Nat.le_of_ble_eq_true rfl) dX6_readWhole_2 ?_
  refine rx_if_ne hG 16 dX6_readWhole_5 rfl (fun c2 => ?_) (fun c2 => ?_)
  · have hf := ifF hf c2
    refine rx_aload_n hG dX6_readWhole_16 0 rfl ?_
    refine gfX_R_23_14 l E T hG dX6_readWhole_17 ?_
    refine gfX_R_69_27 l E T hG dX6_readWhole_20 ?_
    refine rx_aload_n hG dX6_readWhole_23 0 rfl ?_
    refine gfX_R_31_14 l E T hG dX6_readWhole_24 ?_
    obtain ⟨v3, hv3, hf⟩ := bindE hf
    refine rx_iald hG (skX31 T) hv3 dX6_readWhole_27 ?_
    refine rx_istore_n (lv2 := [(3, .int v3), (0, .ref (adr E 14)), (1, .int p0), (2, .int p1)]) hG dX6_readWhole_28 (Nat.le_of_ble_eq_true rfl) rfl ?_
    refine rx_iload_n hG dX6_readWhole_29 0 rfl ?_
    refine rx_iload_n hG dX6_readWhole_30 2 rfl ?_
    refine rx_icmp_lt hG 39 dX6_readWhole_31 rfl (fun c4 => ?_) (fun c4 => ?_)
    · have hf := ifT hf c4
      refine rx_aload_n hG dX6_readWhole_39 1 rfl ?_
      refine rx_iconst hG 2 dX6_readWhole_40 ic_2 ?_
      obtain ⟨q5, hq5, hf⟩ := bindE hf
      refine rx_cVi hG (c_R_blame_14 l E T 2 hq5) (skX14 T) rfl rfl kw_R_59 ⟨Nat.le_of_ble_eq_true rfl, Nat.le_of_ble_eq_true rfl⟩ rfl (Nat.le_of_ble_eq_true rfl) dX6_readWhole_41 ?_
      refine rx_pop hG dX6_readWhole_44 rfl ?_
      refine rx_iconst hG (-1) dX6_readWhole_45 ic_m1 ?_
      cases hf
      exact rx_iret hG dX6_readWhole_46
    · have hf := ifF hf c4
      refine rx_iload_n hG dX6_readWhole_34 0 rfl ?_
      refine rx_iload_n hG dX6_readWhole_35 3 rfl ?_
      refine rx_icmp_le hG 47 dX6_readWhole_36 rfl (fun c6 => ?_) (fun c6 => ?_)
      · have hf := ifT hf c6
        refine rx_aload_n hG dX6_readWhole_47 1 rfl ?_
        obtain ⟨M7, hM7, hf⟩ := bindE hf
        refine rx_cVv hG (c_R_step_14 l E T  hM7) (skX14 T) rfl rfl kw_R_62 ⟨Nat.le_of_ble_eq_true rfl, Nat.le_of_ble_eq_true rfl⟩ rfl (Nat.le_of_ble_eq_true rfl) dX6_readWhole_48 ?_
        refine rx_iload_n hG dX6_readWhole_51 0 rfl ?_
        cases hf
        exact rx_iret hG dX6_readWhole_52
      · have hf := ifF hf c6
        refine rx_aload_n hG dX6_readWhole_39 1 rfl ?_
        refine rx_iconst hG 2 dX6_readWhole_40 ic_2 ?_
        obtain ⟨q8, hq8, hf⟩ := bindE hf
        refine rx_cVi hG (c_R_blame_14 l E T 2 hq8) (skX14 T) rfl rfl kw_R_59 ⟨Nat.le_of_ble_eq_true rfl, Nat.le_of_ble_eq_true rfl⟩ rfl (Nat.le_of_ble_eq_true rfl) dX6_readWhole_41 ?_
        refine rx_pop hG dX6_readWhole_44 rfl ?_
        refine rx_iconst hG (-1) dX6_readWhole_45 ic_m1 ?_
        cases hf
        exact rx_iret hG dX6_readWhole_46
  · have hf := ifT hf c2
    refine rx_aload_n hG dX6_readWhole_8 0 rfl ?_
    refine rx_iconst hG 1 dX6_readWhole_9 ic_1 ?_
    obtain ⟨q9, hq9, hf⟩ := bindE hf
    refine rx_cVi hG (c_R_blame_14 l E T 1 hq9) (skX14 T) rfl rfl kw_R_59 ⟨Nat.le_of_ble_eq_true rfl, Nat.le_of_ble_eq_true rfl⟩ rfl (Nat.le_of_ble_eq_true rfl) dX6_readWhole_10 ?_
    refine rx_pop hG dX6_readWhole_13 rfl ?_
    refine rx_iconst hG (-1) dX6_readWhole_14 ic_m1 ?_
    cases hf
    exact rx_iret hG dX6_readWhole_15
set_option maxHeartbeats 4000000 in
set_option maxRecDepth 100000 in
theorem c_P_cell (l : Launch) (E : En) (T : List Sk) (p0 : Int32) (p1 : Int32) {M : Mm} {r : Int32} (h : f_P_cell p0 p1 = some r) : Ct l T E yX9_cell cX9_cell 2 (some .int) 0 0 [.int p0, .int p1] M (some (.int r)) M := by
  refine ct_of (by decide) (Nat.le_of_ble_eq_true rfl) ?_
  intro G hG
  show G 0 [(0, .int p0), (1, .int p1)] [] M
  have hf := h
  unfold f_P_cell at hf
  refine rx_iconst hG 3 dX9_cell_0 ic_3 ?_
  refine rx_iload_n hG dX9_cell_1 0 rfl ?_
  refine rx_imul hG dX9_cell_2 ?_
  refine rx_iload_n hG dX9_cell_3 1 rfl ?_
  refine rx_iadd hG dX9_cell_4 ?_
  cases hf
  exact rx_iret hG dX9_cell_5
set_option maxHeartbeats 4000000 in
set_option maxRecDepth 100000 in
theorem Lj_R_readTimes_14_51 (l : Launch) (E : En) (T : List Sk) {a0 b0 kc ks : Nat} {r : Int32} {M' : Mm} {G : Nat → List (Nat × Value) → List Value → Mm → Prop} (hG : RX l (SKX ++ T) E RX6 cX6_readTimes 4 (some .boolean) { frames := 2, cells := a0, slots := b0, locals := 44 } kc ks (some (.int r)) M' G) (rc18 : Int32 → Int32 → Mm → Option (Int32 × Mm)) (hrc18 : ∀ (x1 : Int32) (x2 : Int32) (M : Mm), rc18 x1 x2 M = some (r, M') → G 18 [(0, .ref (adr E 14)), (1, .int x1), (2, .int x2)] [] M) : ∀ (x1 : Int32) (x2 : Int32) (M : Mm), j_R_readTimes_14_51 rc18 x1 x2 M = some (r, M') → G 51 [(0, .ref (adr E 14)), (1, .int x1), (2, .int x2)] [] M := by
  intro x1 x2 M hf
  unfold j_R_readTimes_14_51 at hf
  refine rx_aload_n hG dX6_readTimes_51 0 rfl ?_
  refine rx_iconst hG 1 dX6_readTimes_52 ic_1 ?_
  refine rx_bipush hG 60 dX6_readTimes_53 bp_60 ?_
  obtain ⟨q1, hq1, hf⟩ := bindE hf
  refine rx_cVi hG (c_R_readWhole_14 l E T 1 60 hq1) (skX14 T) rfl rfl kw_R_99 ⟨Nat.le_of_ble_eq_true rfl, Nat.le_of_ble_eq_true rfl⟩ rfl (Nat.le_of_ble_eq_true rfl) dX6_readTimes_55 ?_
  refine rx_istore_n (lv2 := [(3, .int q1.1), (0, .ref (adr E 14)), (1, .int x1), (2, .int x2)]) hG dX6_readTimes_58 (Nat.le_of_ble_eq_true rfl) rfl ?_
  refine rx_iload_n hG dX6_readTimes_59 0 rfl ?_
  refine rx_if_ge hG 65 dX6_readTimes_60 rfl (fun c2 => ?_) (fun c2 => ?_)
  · have hf := ifT hf c2
    refine rx_aload_n hG dX6_readTimes_65 1 rfl ?_
    refine gfX_R_12_14 l E T hG dX6_readTimes_66 ?_
    refine gfX_R_103_15 l E T hG dX6_readTimes_69 ?_
    refine gfX_R_107_24 l E T hG dX6_readTimes_72 ?_
    refine rx_iload_n hG dX6_readTimes_75 2 rfl ?_
    refine rx_iload_n hG dX6_readTimes_76 3 rfl ?_
    obtain ⟨v3, hv3, hf⟩ := bindE hf
    refine rx_cNi hG (c_P_cell l E (SKX ++ T) x1 x2 hv3) kw_R_112 ⟨Nat.le_of_ble_eq_true rfl, Nat.le_of_ble_eq_true rfl⟩ rfl (Nat.le_of_ble_eq_true rfl) dX6_readTimes_77 ?_
    refine rx_iload_n hG dX6_readTimes_80 0 rfl ?_
    obtain ⟨M4, hM4, hf⟩ := bindE hf
    refine rx_iast hG (skX26 T) hM4 dX6_readTimes_81 ?_
    refine rx_aload_n hG dX6_readTimes_82 1 rfl ?_
    refine gfX_R_12_14 l E T hG dX6_readTimes_83 ?_
    refine gfX_R_103_15 l E T hG dX6_readTimes_86 ?_
    refine gfX_R_115_24 l E T hG dX6_readTimes_89 ?_
    refine rx_iload_n hG dX6_readTimes_92 2 rfl ?_
    refine rx_iload_n hG dX6_readTimes_93 3 rfl ?_
    obtain ⟨v5, hv5, hf⟩ := bindE hf
    refine rx_cNi hG (c_P_cell l E (SKX ++ T) x1 x2 hv5) kw_R_112 ⟨Nat.le_of_ble_eq_true rfl, Nat.le_of_ble_eq_true rfl⟩ rfl (Nat.le_of_ble_eq_true rfl) dX6_readTimes_94 ?_
    refine rx_iconst hG 1 dX6_readTimes_97 ic_1 ?_
    obtain ⟨M6, hM6, hf⟩ := bindE hf
    refine rx_iast hG (skX25 T) hM6 dX6_readTimes_98 ?_
    refine rx_iinc (lv2 := [(2, .int (x2 + 1)), (3, .int q1.1), (0, .ref (adr E 14)), (1, .int x1)]) hG 1 dX6_readTimes_99 ic_1 3 rfl (Nat.le_of_ble_eq_true rfl) rfl ?_
    refine rx_goto hG 18 dX6_readTimes_102 rfl ?_
    refine rx_sub hG [2, 3, 0] (lv' := [(0, .ref (adr E 14)), (1, .int x1), (2, .int (x2 + 1))]) rfl ?_
    exact hrc18 x1 (x2 + 1) M6 hf
  · have hf := ifF hf c2
    refine rx_iconst hG 0 dX6_readTimes_63 ic_0 ?_
    cases hf
    exact rx_zret hG zr0 dX6_readTimes_64
set_option maxHeartbeats 4000000 in
set_option maxRecDepth 100000 in
theorem Lblp_R_readTimes_14_18 (l : Launch) (E : En) (T : List Sk) {a0 b0 kc ks : Nat} {r : Int32} {M' : Mm} {G : Nat → List (Nat × Value) → List Value → Mm → Prop} (hG : RX l (SKX ++ T) E RX6 cX6_readTimes 4 (some .boolean) { frames := 2, cells := a0, slots := b0, locals := 44 } kc ks (some (.int r)) M' G) (rc18 : Int32 → Int32 → Mm → Option (Int32 × Mm)) (hrc18 : ∀ (x1 : Int32) (x2 : Int32) (M : Mm), rc18 x1 x2 M = some (r, M') → G 18 [(0, .ref (adr E 14)), (1, .int x1), (2, .int x2)] [] M) : ∀ (x1 : Int32) (x2 : Int32) (M : Mm), blp_R_readTimes_14_18 rc18 x1 x2 M = some (r, M') → G 18 [(0, .ref (adr E 14)), (1, .int x1), (2, .int x2)] [] M := by
  intro x1 x2 M hf
  unfold blp_R_readTimes_14_18 at hf
  refine rx_iload_n hG dX6_readTimes_18 2 rfl ?_
  refine rx_aload_n hG dX6_readTimes_19 0 rfl ?_
  refine gfX_R_12_14 l E T hG dX6_readTimes_20 ?_
  refine gfX_R_53_15 l E T hG dX6_readTimes_23 ?_
  refine rx_icmp_ge hG 105 dX6_readTimes_26 rfl (fun c1 => ?_) (fun c1 => ?_)
  · have hf := ifT hf c1
    refine rx_iconst hG 1 dX6_readTimes_105 ic_1 ?_
    cases hf
    exact rx_zret hG zr1 dX6_readTimes_106
  · have hf := ifF hf c1
    refine rx_iload_n hG dX6_readTimes_29 2 rfl ?_
    refine rx_if_le hG 51 dX6_readTimes_30 rfl (fun c2 => ?_) (fun c2 => ?_)
    · have hf := ifT hf c2
      exact Lj_R_readTimes_14_51 l E T hG rc18 hrc18 x1 x2 M hf
    · have hf := ifF hf c2
      refine rx_aload_n hG dX6_readTimes_33 0 rfl ?_
      refine rx_iconst hG 4 dX6_readTimes_34 ic_4 ?_
      obtain ⟨v3, hv3, hf⟩ := bindE hf
      refine rx_cVi hG (c_R_isSort_14 l E T 4 hv3) (skX14 T) rfl rfl kw_R_49 ⟨Nat.le_of_ble_eq_true rfl, Nat.le_of_ble_eq_true rfl⟩ rfl (Nat.le_of_ble_eq_true rfl) dX6_readTimes_35 ?_
      refine rx_if_ne hG 47 dX6_readTimes_38 rfl (fun c4 => ?_) (fun c4 => ?_)
      · have hf := ifF hf c4
        refine rx_aload_n hG dX6_readTimes_47 0 rfl ?_
        obtain ⟨M5, hM5, hf⟩ := bindE hf
        refine rx_cVv hG (c_R_step_14 l E T  hM5) (skX14 T) rfl rfl kw_R_62 ⟨Nat.le_of_ble_eq_true rfl, Nat.le_of_ble_eq_true rfl⟩ rfl (Nat.le_of_ble_eq_true rfl) dX6_readTimes_48 ?_
        exact Lj_R_readTimes_14_51 l E T hG rc18 hrc18 x1 x2 M5 hf
      · have hf := ifT hf c4
        refine rx_aload_n hG dX6_readTimes_41 0 rfl ?_
        refine rx_iconst hG 1 dX6_readTimes_42 ic_1 ?_
        obtain ⟨q6, hq6, hf⟩ := bindE hf
        refine rx_cVi hG (c_R_blame_14 l E T 1 hq6) (skX14 T) rfl rfl kw_R_59 ⟨Nat.le_of_ble_eq_true rfl, Nat.le_of_ble_eq_true rfl⟩ rfl (Nat.le_of_ble_eq_true rfl) dX6_readTimes_43 ?_
        obtain ⟨z7, hz7, hf⟩ := bindE hf
        cases hf
        exact rx_zret hG hz7 dX6_readTimes_46
theorem Llp_R_readTimes_14_18 (l : Launch) (E : En) (T : List Sk) {a0 b0 kc ks : Nat} {r : Int32} {M' : Mm} {G : Nat → List (Nat × Value) → List Value → Mm → Prop} (hG : RX l (SKX ++ T) E RX6 cX6_readTimes 4 (some .boolean) { frames := 2, cells := a0, slots := b0, locals := 44 } kc ks (some (.int r)) M' G)  : ∀ (n : Nat) (x1 : Int32) (x2 : Int32) (M : Mm), lp_R_readTimes_14_18  n x1 x2 M = some (r, M') → G 18 [(0, .ref (adr E 14)), (1, .int x1), (2, .int x2)] [] M := by
  intro n
  induction n with
  | zero => intro x1 x2 M hf; cases hf
  | succ n ih => intro x1 x2 M hf; exact Lblp_R_readTimes_14_18 l E T hG  (lp_R_readTimes_14_18  n) ih x1 x2 M hf
set_option maxHeartbeats 4000000 in
set_option maxRecDepth 100000 in
theorem c_R_readTimes_14 (l : Launch) (E : En) (T : List Sk) (p0 : Int32) {M M' : Mm} {r : Int32} (h : f_R_readTimes_14 p0 M = some (r, M')) : Ct l (SKX ++ T) E yX6_readTimes cX6_readTimes 4 (some .boolean) 2 44 [.ref (adr E 14), .int p0] M (some (.int r)) M' := by
  refine ct_of (by decide) (Nat.le_of_ble_eq_true rfl) ?_
  intro G hG
  show G 0 [(0, .ref (adr E 14)), (1, .int p0)] [] M
  have hf := h
  unfold f_R_readTimes_14 at hf
  refine rx_aload_n hG dX6_readTimes_0 0 rfl ?_
  refine gfX_R_12_14 l E T hG dX6_readTimes_1 ?_
  refine gfX_R_53_15 l E T hG dX6_readTimes_4 ?_
  refine rx_if_ne hG 16 dX6_readTimes_7 rfl (fun c1 => ?_) (fun c1 => ?_)
  · have hf := ifF hf c1
    refine rx_iconst hG 0 dX6_readTimes_16 ic_0 ?_
    refine rx_istore_n (lv2 := [(2, .int 0), (0, .ref (adr E 14)), (1, .int p0)]) hG dX6_readTimes_17 (Nat.le_of_ble_eq_true rfl) rfl ?_
    refine rx_sub hG [1, 2, 0] (lv' := [(0, .ref (adr E 14)), (1, .int p0), (2, .int 0)]) rfl ?_
    exact Llp_R_readTimes_14_18 l E T hG  FW p0 0 M hf
  · have hf := ifT hf c1
    refine rx_aload_n hG dX6_readTimes_10 0 rfl ?_
    refine rx_iconst hG 1 dX6_readTimes_11 ic_1 ?_
    obtain ⟨q2, hq2, hf⟩ := bindE hf
    refine rx_cVi hG (c_R_blame_14 l E T 1 hq2) (skX14 T) rfl rfl kw_R_59 ⟨Nat.le_of_ble_eq_true rfl, Nat.le_of_ble_eq_true rfl⟩ rfl (Nat.le_of_ble_eq_true rfl) dX6_readTimes_12 ?_
    obtain ⟨z3, hz3, hf⟩ := bindE hf
    cases hf
    exact rx_zret hG hz3 dX6_readTimes_15
set_option maxHeartbeats 4000000 in
set_option maxRecDepth 100000 in
theorem c_R_readSetup_14 (l : Launch) (E : En) (T : List Sk) (p0 : Int32) {M M' : Mm} {r : Int32} (h : f_R_readSetup_14 p0 M = some (r, M')) : Ct l (SKX ++ T) E yX6_readSetup cX6_readSetup 3 (some .boolean) 2 44 [.ref (adr E 14), .int p0] M (some (.int r)) M' := by
  refine ct_of (by decide) (Nat.le_of_ble_eq_true rfl) ?_
  intro G hG
  show G 0 [(0, .ref (adr E 14)), (1, .int p0)] [] M
  have hf := h
  unfold f_R_readSetup_14 at hf
  refine rx_aload_n hG dX6_readSetup_0 0 rfl ?_
  refine rx_iconst hG 2 dX6_readSetup_1 ic_2 ?_
  obtain ⟨v1, hv1, hf⟩ := bindE hf
  refine rx_cVi hG (c_R_isWord_14 l E T 2 hv1) (skX14 T) rfl rfl kw_R_118 ⟨Nat.le_of_ble_eq_true rfl, Nat.le_of_ble_eq_true rfl⟩ rfl (Nat.le_of_ble_eq_true rfl) dX6_readSetup_2 ?_
  refine rx_if_ne hG 10 dX6_readSetup_5 rfl (fun c2 => ?_) (fun c2 => ?_)
  · have hf := ifF hf c2
    refine rx_aload_n hG dX6_readSetup_10 0 rfl ?_
    obtain ⟨M3, hM3, hf⟩ := bindE hf
    refine rx_cVv hG (c_R_step_14 l E T  hM3) (skX14 T) rfl rfl kw_R_62 ⟨Nat.le_of_ble_eq_true rfl, Nat.le_of_ble_eq_true rfl⟩ rfl (Nat.le_of_ble_eq_true rfl) dX6_readSetup_11 ?_
    refine rx_aload_n hG dX6_readSetup_14 0 rfl ?_
    refine rx_iconst hG 0 dX6_readSetup_15 ic_0 ?_
    refine rx_bipush hG 60 dX6_readSetup_16 bp_60 ?_
    obtain ⟨q4, hq4, hf⟩ := bindE hf
    refine rx_cVi hG (c_R_readWhole_14 l E T 0 60 hq4) (skX14 T) rfl rfl kw_R_99 ⟨Nat.le_of_ble_eq_true rfl, Nat.le_of_ble_eq_true rfl⟩ rfl (Nat.le_of_ble_eq_true rfl) dX6_readSetup_18 ?_
    refine rx_istore_n (lv2 := [(2, .int q4.1), (0, .ref (adr E 14)), (1, .int p0)]) hG dX6_readSetup_21 (Nat.le_of_ble_eq_true rfl) rfl ?_
    refine rx_iload_n hG dX6_readSetup_22 0 rfl ?_
    refine rx_if_ge hG 28 dX6_readSetup_23 rfl (fun c5 => ?_) (fun c5 => ?_)
    · have hf := ifT hf c5
      refine rx_aload_n hG dX6_readSetup_28 1 rfl ?_
      refine gfX_R_12_14 l E T hG dX6_readSetup_29 ?_
      refine gfX_R_121_15 l E T hG dX6_readSetup_32 ?_
      refine rx_iload_n hG dX6_readSetup_35 2 rfl ?_
      refine rx_iload_n hG dX6_readSetup_36 0 rfl ?_
      obtain ⟨M6, hM6, hf⟩ := bindE hf
      refine rx_iast hG (skX16 T) hM6 dX6_readSetup_37 ?_
      refine rx_iconst hG 1 dX6_readSetup_38 ic_1 ?_
      cases hf
      exact rx_zret hG zr1 dX6_readSetup_39
    · have hf := ifF hf c5
      refine rx_iconst hG 0 dX6_readSetup_26 ic_0 ?_
      cases hf
      exact rx_zret hG zr0 dX6_readSetup_27
  · have hf := ifT hf c2
    refine rx_iconst hG 1 dX6_readSetup_8 ic_1 ?_
    cases hf
    exact rx_zret hG zr1 dX6_readSetup_9
set_option maxHeartbeats 4000000 in
set_option maxRecDepth 100000 in
theorem c_R_readWord_14 (l : Launch) (E : En) (T : List Sk) (p0 : Int32) {M M' : Mm} {r : Int32} (h : f_R_readWord_14 p0 M = some (r, M')) : Ct l (SKX ++ T) E yX6_readWord cX6_readWord 2 (some .boolean) 1 21 [.ref (adr E 14), .int p0] M (some (.int r)) M' := by
  refine ct_of (by decide) (Nat.le_of_ble_eq_true rfl) ?_
  intro G hG
  show G 0 [(0, .ref (adr E 14)), (1, .int p0)] [] M
  have hf := h
  unfold f_R_readWord_14 at hf
  refine rx_aload_n hG dX6_readWord_0 0 rfl ?_
  refine rx_iload_n hG dX6_readWord_1 1 rfl ?_
  obtain ⟨v1, hv1, hf⟩ := bindE hf
  refine rx_cVi hG (c_R_isWord_14 l E T p0 hv1) (skX14 T) rfl rfl kw_R_118 ⟨Nat.le_of_ble_eq_true rfl, Nat.le_of_ble_eq_true rfl⟩ rfl (Nat.le_of_ble_eq_true rfl) dX6_readWord_2 ?_
  refine rx_if_ne hG 14 dX6_readWord_5 rfl (fun c2 => ?_) (fun c2 => ?_)
  · have hf := ifF hf c2
    refine rx_aload_n hG dX6_readWord_14 0 rfl ?_
    obtain ⟨M3, hM3, hf⟩ := bindE hf
    refine rx_cVv hG (c_R_step_14 l E T  hM3) (skX14 T) rfl rfl kw_R_62 ⟨Nat.le_of_ble_eq_true rfl, Nat.le_of_ble_eq_true rfl⟩ rfl (Nat.le_of_ble_eq_true rfl) dX6_readWord_15 ?_
    refine rx_iconst hG 1 dX6_readWord_18 ic_1 ?_
    cases hf
    exact rx_zret hG zr1 dX6_readWord_19
  · have hf := ifT hf c2
    refine rx_aload_n hG dX6_readWord_8 0 rfl ?_
    refine rx_iconst hG 1 dX6_readWord_9 ic_1 ?_
    obtain ⟨q4, hq4, hf⟩ := bindE hf
    refine rx_cVi hG (c_R_blame_14 l E T 1 hq4) (skX14 T) rfl rfl kw_R_59 ⟨Nat.le_of_ble_eq_true rfl, Nat.le_of_ble_eq_true rfl⟩ rfl (Nat.le_of_ble_eq_true rfl) dX6_readWord_10 ?_
    obtain ⟨z5, hz5, hf⟩ := bindE hf
    cases hf
    exact rx_zret hG hz5 dX6_readWord_13
set_option maxHeartbeats 4000000 in
set_option maxRecDepth 100000 in
theorem c_R_readRest_14 (l : Launch) (E : En) (T : List Sk) (p0 : Int32) {M M' : Mm} {r : Int32} (h : f_R_readRest_14 p0 M = some (r, M')) : Ct l (SKX ++ T) E yX6_readRest cX6_readRest 4 (some .boolean) 2 44 [.ref (adr E 14), .int p0] M (some (.int r)) M' := by
  refine ct_of (by decide) (Nat.le_of_ble_eq_true rfl) ?_
  intro G hG
  show G 0 [(0, .ref (adr E 14)), (1, .int p0)] [] M
  have hf := h
  unfold f_R_readRest_14 at hf
  refine rx_aload_n hG dX6_readRest_0 0 rfl ?_
  refine rx_iconst hG 3 dX6_readRest_1 ic_3 ?_
  obtain ⟨v1, hv1, hf⟩ := bindE hf
  refine rx_cVi hG (c_R_isWord_14 l E T 3 hv1) (skX14 T) rfl rfl kw_R_118 ⟨Nat.le_of_ble_eq_true rfl, Nat.le_of_ble_eq_true rfl⟩ rfl (Nat.le_of_ble_eq_true rfl) dX6_readRest_2 ?_
  refine rx_if_ne hG 10 dX6_readRest_5 rfl (fun c2 => ?_) (fun c2 => ?_)
  · have hf := ifF hf c2
    refine rx_aload_n hG dX6_readRest_10 0 rfl ?_
    obtain ⟨M3, hM3, hf⟩ := bindE hf
    refine rx_cVv hG (c_R_step_14 l E T  hM3) (skX14 T) rfl rfl kw_R_62 ⟨Nat.le_of_ble_eq_true rfl, Nat.le_of_ble_eq_true rfl⟩ rfl (Nat.le_of_ble_eq_true rfl) dX6_readRest_11 ?_
    refine rx_aload_n hG dX6_readRest_14 0 rfl ?_
    refine rx_iconst hG 1 dX6_readRest_15 ic_1 ?_
    refine rx_bipush hG 60 dX6_readRest_16 bp_60 ?_
    obtain ⟨q4, hq4, hf⟩ := bindE hf
    refine rx_cVi hG (c_R_readWhole_14 l E T 1 60 hq4) (skX14 T) rfl rfl kw_R_99 ⟨Nat.le_of_ble_eq_true rfl, Nat.le_of_ble_eq_true rfl⟩ rfl (Nat.le_of_ble_eq_true rfl) dX6_readRest_18 ?_
    refine rx_istore_n (lv2 := [(2, .int q4.1), (0, .ref (adr E 14)), (1, .int p0)]) hG dX6_readRest_21 (Nat.le_of_ble_eq_true rfl) rfl ?_
    refine rx_iload_n hG dX6_readRest_22 0 rfl ?_
    refine rx_if_lt hG 34 dX6_readRest_23 rfl (fun c5 => ?_) (fun c5 => ?_)
    · have hf := ifT hf c5
      refine rx_iconst hG 0 dX6_readRest_34 ic_0 ?_
      cases hf
      exact rx_zret hG zr0 dX6_readRest_35
    · have hf := ifF hf c5
      refine rx_aload_n hG dX6_readRest_26 1 rfl ?_
      refine rx_iconst hG 4 dX6_readRest_27 ic_4 ?_
      obtain ⟨q6, hq6, hf⟩ := bindE hf
      refine rx_cVi hG (c_R_readWord_14 l E T 4 hq6) (skX14 T) rfl rfl kw_R_124 ⟨Nat.le_of_ble_eq_true rfl, Nat.le_of_ble_eq_true rfl⟩ rfl (Nat.le_of_ble_eq_true rfl) dX6_readRest_28 ?_
      refine rx_if_ne hG 36 dX6_readRest_31 rfl (fun c7 => ?_) (fun c7 => ?_)
      · have hf := ifF hf c7
        refine rx_aload_n hG dX6_readRest_36 1 rfl ?_
        refine rx_iconst hG 1 dX6_readRest_37 ic_1 ?_
        refine rx_bipush hG 99 dX6_readRest_38 bp_99 ?_
        obtain ⟨q8, hq8, hf⟩ := bindE hf
        refine rx_cVi hG (c_R_readWhole_14 l E T 1 99 hq8) (skX14 T) rfl rfl kw_R_99 ⟨Nat.le_of_ble_eq_true rfl, Nat.le_of_ble_eq_true rfl⟩ rfl (Nat.le_of_ble_eq_true rfl) dX6_readRest_40 ?_
        refine rx_istore_n (lv2 := [(3, .int q8.1), (2, .int q4.1), (0, .ref (adr E 14)), (1, .int p0)]) hG dX6_readRest_43 (Nat.le_of_ble_eq_true rfl) rfl ?_
        refine rx_iload_n hG dX6_readRest_44 0 rfl ?_
        refine rx_if_ge hG 50 dX6_readRest_45 rfl (fun c9 => ?_) (fun c9 => ?_)
        · have hf := ifT hf c9
          refine rx_aload_n hG dX6_readRest_50 2 rfl ?_
          refine gfX_R_12_14 l E T hG dX6_readRest_51 ?_
          refine gfX_R_127_15 l E T hG dX6_readRest_54 ?_
          refine rx_iload_n hG dX6_readRest_57 3 rfl ?_
          refine rx_iload_n hG dX6_readRest_58 1 rfl ?_
          obtain ⟨M10, hM10, hf⟩ := bindE hf
          refine rx_iast hG (skX17 T) hM10 dX6_readRest_59 ?_
          refine rx_aload_n hG dX6_readRest_60 2 rfl ?_
          refine gfX_R_12_14 l E T hG dX6_readRest_61 ?_
          refine gfX_R_130_15 l E T hG dX6_readRest_64 ?_
          refine rx_iload_n hG dX6_readRest_67 3 rfl ?_
          refine rx_iload_n hG dX6_readRest_68 0 rfl ?_
          obtain ⟨M11, hM11, hf⟩ := bindE hf
          refine rx_iast hG (skX18 T) hM11 dX6_readRest_69 ?_
          refine rx_iconst hG 1 dX6_readRest_70 ic_1 ?_
          cases hf
          exact rx_zret hG zr1 dX6_readRest_71
        · have hf := ifF hf c9
          refine rx_iconst hG 0 dX6_readRest_48 ic_0 ?_
          cases hf
          exact rx_zret hG zr0 dX6_readRest_49
      · have hf := ifT hf c7
        refine rx_iconst hG 0 dX6_readRest_34 ic_0 ?_
        cases hf
        exact rx_zret hG zr0 dX6_readRest_35
  · have hf := ifT hf c2
    refine rx_iconst hG 1 dX6_readRest_8 ic_1 ?_
    cases hf
    exact rx_zret hG zr1 dX6_readRest_9
set_option maxHeartbeats 4000000 in
set_option maxRecDepth 100000 in
theorem c_R_readBench_14 (l : Launch) (E : En) (T : List Sk)  {M M' : Mm} {r : Int32} (h : f_R_readBench_14 M = some (r, M')) : Ct l (SKX ++ T) E yX6_readBench cX6_readBench 2 (some .boolean) 4 92 [.ref (adr E 14)] M (some (.int r)) M' := by
  refine ct_of (by decide) (Nat.le_of_ble_eq_true rfl) ?_
  intro G hG
  show G 0 [(0, .ref (adr E 14))] [] M
  have hf := h
  unfold f_R_readBench_14 at hf
  refine rx_aload_n hG dX6_readBench_0 0 rfl ?_
  refine gfX_R_12_14 l E T hG dX6_readBench_1 ?_
  refine gfX_R_56_15 l E T hG dX6_readBench_4 ?_
  refine rx_istore_n (lv2 := [(1, .int (M.1 15 1)), (0, .ref (adr E 14))]) hG dX6_readBench_7 (Nat.le_of_ble_eq_true rfl) rfl ?_
  refine rx_iload_n hG dX6_readBench_8 0 rfl ?_
  refine rx_bipush hG 6 dX6_readBench_9 bp_6 ?_
  refine rx_icmp_lt hG 20 dX6_readBench_11 rfl (fun c1 => ?_) (fun c1 => ?_)
  · have hf := ifT hf c1
    refine rx_aload_n hG dX6_readBench_20 1 rfl ?_
    obtain ⟨M2, hM2, hf⟩ := bindE hf
    refine rx_cVv hG (c_R_step_14 l E T  hM2) (skX14 T) rfl rfl kw_R_62 ⟨Nat.le_of_ble_eq_true rfl, Nat.le_of_ble_eq_true rfl⟩ rfl (Nat.le_of_ble_eq_true rfl) dX6_readBench_21 ?_
    refine rx_aload_n hG dX6_readBench_24 1 rfl ?_
    refine rx_iconst hG 3 dX6_readBench_25 ic_3 ?_
    refine rx_iload_n hG dX6_readBench_26 0 rfl ?_
    refine rx_iadd hG dX6_readBench_27 ?_
    obtain ⟨q3, hq3, hf⟩ := bindE hf
    refine rx_cVi hG (c_R_readNewName_14 l E T (3 + (M.1 15 1)) hq3) (skX14 T) rfl rfl kw_R_87 ⟨Nat.le_of_ble_eq_true rfl, Nat.le_of_ble_eq_true rfl⟩ rfl (Nat.le_of_ble_eq_true rfl) dX6_readBench_28 ?_
    refine rx_if_ne hG 36 dX6_readBench_31 rfl (fun c4 => ?_) (fun c4 => ?_)
    · have hf := ifF hf c4
      refine rx_aload_n hG dX6_readBench_36 1 rfl ?_
      refine gfX_R_12_14 l E T hG dX6_readBench_37 ?_
      refine rx_dup hG dX6_readBench_40 rfl ?_
      refine gfX_R_56_15 l E T hG dX6_readBench_41 ?_
      refine rx_iconst hG 1 dX6_readBench_44 ic_1 ?_
      refine rx_iadd hG dX6_readBench_45 ?_
      obtain ⟨M5, hM5, hf⟩ := bindE hf
      refine pfX_R_56_15 l E T hG hM5 dX6_readBench_46 ?_
      refine rx_aload_n hG dX6_readBench_49 1 rfl ?_
      refine rx_iload_n hG dX6_readBench_50 0 rfl ?_
      obtain ⟨q6, hq6, hf⟩ := bindE hf
      refine rx_cVi hG (c_R_readTimes_14 l E T (M.1 15 1) hq6) (skX14 T) rfl rfl kw_R_90 ⟨Nat.le_of_ble_eq_true rfl, Nat.le_of_ble_eq_true rfl⟩ rfl (Nat.le_of_ble_eq_true rfl) dX6_readBench_51 ?_
      refine rx_if_eq hG 77 dX6_readBench_54 rfl (fun c7 => ?_) (fun c7 => ?_)
      · have hf := ifT hf c7
        refine rx_iconst hG 0 dX6_readBench_77 ic_0 ?_
        cases hf
        exact rx_zret hG zr0 dX6_readBench_78
      · have hf := ifF hf c7
        refine rx_aload_n hG dX6_readBench_57 1 rfl ?_
        refine rx_iload_n hG dX6_readBench_58 0 rfl ?_
        obtain ⟨q8, hq8, hf⟩ := bindE hf
        refine rx_cVi hG (c_R_readSetup_14 l E T (M.1 15 1) hq8) (skX14 T) rfl rfl kw_R_93 ⟨Nat.le_of_ble_eq_true rfl, Nat.le_of_ble_eq_true rfl⟩ rfl (Nat.le_of_ble_eq_true rfl) dX6_readBench_59 ?_
        refine rx_if_eq hG 77 dX6_readBench_62 rfl (fun c9 => ?_) (fun c9 => ?_)
        · have hf := ifT hf c9
          refine rx_iconst hG 0 dX6_readBench_77 ic_0 ?_
          cases hf
          exact rx_zret hG zr0 dX6_readBench_78
        · have hf := ifF hf c9
          refine rx_aload_n hG dX6_readBench_65 1 rfl ?_
          refine rx_iload_n hG dX6_readBench_66 0 rfl ?_
          obtain ⟨q10, hq10, hf⟩ := bindE hf
          refine rx_cVi hG (c_R_readRest_14 l E T (M.1 15 1) hq10) (skX14 T) rfl rfl kw_R_96 ⟨Nat.le_of_ble_eq_true rfl, Nat.le_of_ble_eq_true rfl⟩ rfl (Nat.le_of_ble_eq_true rfl) dX6_readBench_67 ?_
          refine rx_if_eq hG 77 dX6_readBench_70 rfl (fun c11 => ?_) (fun c11 => ?_)
          · have hf := ifT hf c11
            refine rx_iconst hG 0 dX6_readBench_77 ic_0 ?_
            cases hf
            exact rx_zret hG zr0 dX6_readBench_78
          · have hf := ifF hf c11
            refine rx_iconst hG 1 dX6_readBench_73 ic_1 ?_
            refine rx_goto hG 78 dX6_readBench_74 rfl ?_
            cases hf
            exact rx_zret hG zr1 dX6_readBench_78
    · have hf := ifT hf c4
      refine rx_iconst hG 0 dX6_readBench_34 ic_0 ?_
      cases hf
      exact rx_zret hG zr0 dX6_readBench_35
  · have hf := ifF hf c1
    refine rx_aload_n hG dX6_readBench_14 1 rfl ?_
    refine rx_iconst hG 4 dX6_readBench_15 ic_4 ?_
    obtain ⟨q12, hq12, hf⟩ := bindE hf
    refine rx_cVi hG (c_R_blame_14 l E T 4 hq12) (skX14 T) rfl rfl kw_R_59 ⟨Nat.le_of_ble_eq_true rfl, Nat.le_of_ble_eq_true rfl⟩ rfl (Nat.le_of_ble_eq_true rfl) dX6_readBench_16 ?_
    obtain ⟨z13, hz13, hf⟩ := bindE hf
    cases hf
    exact rx_zret hG hz13 dX6_readBench_19
set_option maxHeartbeats 4000000 in
set_option maxRecDepth 100000 in
theorem c_R_readOldName_14 (l : Launch) (E : En) (T : List Sk) (p0 : Int32) (p1 : Int32) {M M' : Mm} {r : Int32} (h : f_R_readOldName_14 p0 p1 M = some (r, M')) : Ct l (SKX ++ T) E yX6_readOldName cX6_readOldName 4 (some .int) 3 69 [.ref (adr E 14), .int p0, .int p1] M (some (.int r)) M' := by
  refine ct_of (by decide) (Nat.le_of_ble_eq_true rfl) ?_
  intro G hG
  show G 0 [(0, .ref (adr E 14)), (1, .int p0), (2, .int p1)] [] M
  have hf := h
  unfold f_R_readOldName_14 at hf
  refine rx_aload_n hG dX6_readOldName_0 0 rfl ?_
  refine rx_bipush hG 12 dX6_readOldName_1 bp_12 ?_
  obtain ⟨v1, hv1, hf⟩ := bindE hf
  refine rx_cVi hG (c_R_isWord_14 l E T 12 hv1) (skX14 T) rfl rfl kw_R_118 ⟨Nat.le_of_ble_eq_true rfl, Nat.le_of_ble_eq_true rfl⟩ rfl (Nat.le_of_ble_eq_true rfl) dX6_readOldName_3 ?_
  refine rx_if_ne hG 17 dX6_readOldName_6 rfl (fun c2 => ?_) (fun c2 => ?_)
  · have hf := ifF hf c2
    refine rx_aload_n hG dX6_readOldName_17 0 rfl ?_
    refine rx_iload_n hG dX6_readOldName_18 1 rfl ?_
    refine rx_iload_n hG dX6_readOldName_19 2 rfl ?_
    obtain ⟨v3, hv3, hf⟩ := bindE hf
    refine rx_cVi hG (c_R_placeOfName_14 l E T p0 p1 hv3) (skX14 T) rfl rfl kw_R_151 ⟨Nat.le_of_ble_eq_true rfl, Nat.le_of_ble_eq_true rfl⟩ rfl (Nat.le_of_ble_eq_true rfl) dX6_readOldName_20 ?_
    refine rx_istore_n (lv2 := [(3, .int v3), (0, .ref (adr E 14)), (1, .int p0), (2, .int p1)]) hG dX6_readOldName_23 (Nat.le_of_ble_eq_true rfl) rfl ?_
    refine rx_iload_n hG dX6_readOldName_24 0 rfl ?_
    refine rx_if_ge hG 36 dX6_readOldName_25 rfl (fun c4 => ?_) (fun c4 => ?_)
    · have hf := ifT hf c4
      refine rx_aload_n hG dX6_readOldName_36 1 rfl ?_
      obtain ⟨M5, hM5, hf⟩ := bindE hf
      refine rx_cVv hG (c_R_step_14 l E T  hM5) (skX14 T) rfl rfl kw_R_62 ⟨Nat.le_of_ble_eq_true rfl, Nat.le_of_ble_eq_true rfl⟩ rfl (Nat.le_of_ble_eq_true rfl) dX6_readOldName_37 ?_
      refine rx_iload_n hG dX6_readOldName_40 0 rfl ?_
      cases hf
      exact rx_iret hG dX6_readOldName_41
    · have hf := ifF hf c4
      refine rx_aload_n hG dX6_readOldName_28 1 rfl ?_
      refine rx_iconst hG 3 dX6_readOldName_29 ic_3 ?_
      obtain ⟨q6, hq6, hf⟩ := bindE hf
      refine rx_cVi hG (c_R_blame_14 l E T 3 hq6) (skX14 T) rfl rfl kw_R_59 ⟨Nat.le_of_ble_eq_true rfl, Nat.le_of_ble_eq_true rfl⟩ rfl (Nat.le_of_ble_eq_true rfl) dX6_readOldName_30 ?_
      refine rx_pop hG dX6_readOldName_33 rfl ?_
      refine rx_iconst hG (-1) dX6_readOldName_34 ic_m1 ?_
      cases hf
      exact rx_iret hG dX6_readOldName_35
  · have hf := ifT hf c2
    refine rx_aload_n hG dX6_readOldName_9 0 rfl ?_
    refine rx_iconst hG 1 dX6_readOldName_10 ic_1 ?_
    obtain ⟨q7, hq7, hf⟩ := bindE hf
    refine rx_cVi hG (c_R_blame_14 l E T 1 hq7) (skX14 T) rfl rfl kw_R_59 ⟨Nat.le_of_ble_eq_true rfl, Nat.le_of_ble_eq_true rfl⟩ rfl (Nat.le_of_ble_eq_true rfl) dX6_readOldName_11 ?_
    refine rx_pop hG dX6_readOldName_14 rfl ?_
    refine rx_iconst hG (-1) dX6_readOldName_15 ic_m1 ?_
    cases hf
    exact rx_iret hG dX6_readOldName_16
set_option maxHeartbeats 4000000 in
set_option maxRecDepth 100000 in
theorem c_R_readCards_14 (l : Launch) (E : En) (T : List Sk)  {M M' : Mm} {r : Int32} (h : f_R_readCards_14 M = some (r, M')) : Ct l (SKX ++ T) E yX6_readCards cX6_readCards 4 (some .boolean) 4 92 [.ref (adr E 14)] M (some (.int r)) M' := by
  refine ct_of (by decide) (Nat.le_of_ble_eq_true rfl) ?_
  intro G hG
  show G 0 [(0, .ref (adr E 14))] [] M
  have hf := h
  unfold f_R_readCards_14 at hf
  refine rx_aload_n hG dX6_readCards_0 0 rfl ?_
  obtain ⟨M1, hM1, hf⟩ := bindE hf
  refine rx_cVv hG (c_R_step_14 l E T  hM1) (skX14 T) rfl rfl kw_R_62 ⟨Nat.le_of_ble_eq_true rfl, Nat.le_of_ble_eq_true rfl⟩ rfl (Nat.le_of_ble_eq_true rfl) dX6_readCards_1 ?_
  refine rx_aload_n hG dX6_readCards_4 0 rfl ?_
  refine rx_iconst hG 3 dX6_readCards_5 ic_3 ?_
  refine rx_aload_n hG dX6_readCards_6 0 rfl ?_
  refine gfX_R_12_14 l E T hG dX6_readCards_7 ?_
  refine gfX_R_56_15 l E T hG dX6_readCards_10 ?_
  obtain ⟨q2, hq2, hf⟩ := bindE hf
  refine rx_cVi hG (c_R_readOldName_14 l E T 3 (M1.1 15 1) hq2) (skX14 T) rfl rfl kw_R_133 ⟨Nat.le_of_ble_eq_true rfl, Nat.le_of_ble_eq_true rfl⟩ rfl (Nat.le_of_ble_eq_true rfl) dX6_readCards_13 ?_
  refine rx_istore_n (lv2 := [(1, .int q2.1), (0, .ref (adr E 14))]) hG dX6_readCards_16 (Nat.le_of_ble_eq_true rfl) rfl ?_
  refine rx_iload_n hG dX6_readCards_17 0 rfl ?_
  refine rx_if_ge hG 23 dX6_readCards_18 rfl (fun c3 => ?_) (fun c3 => ?_)
  · have hf := ifT hf c3
    refine rx_aload_n hG dX6_readCards_23 1 rfl ?_
    refine rx_iconst hG 0 dX6_readCards_24 ic_0 ?_
    refine rx_aload_n hG dX6_readCards_25 1 rfl ?_
    refine gfX_R_12_14 l E T hG dX6_readCards_26 ?_
    refine gfX_R_53_15 l E T hG dX6_readCards_29 ?_
    obtain ⟨q4, hq4, hf⟩ := bindE hf
    refine rx_cVi hG (c_R_readOldName_14 l E T 0 (q2.2.1 15 0) hq4) (skX14 T) rfl rfl kw_R_133 ⟨Nat.le_of_ble_eq_true rfl, Nat.le_of_ble_eq_true rfl⟩ rfl (Nat.le_of_ble_eq_true rfl) dX6_readCards_32 ?_
    refine rx_istore_n (lv2 := [(2, .int q4.1), (1, .int q2.1), (0, .ref (adr E 14))]) hG dX6_readCards_35 (Nat.le_of_ble_eq_true rfl) rfl ?_
    refine rx_iload_n hG dX6_readCards_36 0 rfl ?_
    refine rx_if_ge hG 42 dX6_readCards_37 rfl (fun c5 => ?_) (fun c5 => ?_)
    · have hf := ifT hf c5
      refine rx_aload_n hG dX6_readCards_42 2 rfl ?_
      refine rx_iconst hG 0 dX6_readCards_43 ic_0 ?_
      refine rx_bipush hG 9 dX6_readCards_44 bp_9 ?_
      obtain ⟨q6, hq6, hf⟩ := bindE hf
      refine rx_cVi hG (c_R_readWhole_14 l E T 0 9 hq6) (skX14 T) rfl rfl kw_R_99 ⟨Nat.le_of_ble_eq_true rfl, Nat.le_of_ble_eq_true rfl⟩ rfl (Nat.le_of_ble_eq_true rfl) dX6_readCards_46 ?_
      refine rx_istore_n (lv2 := [(3, .int q6.1), (2, .int q4.1), (1, .int q2.1), (0, .ref (adr E 14))]) hG dX6_readCards_49 (Nat.le_of_ble_eq_true rfl) rfl ?_
      refine rx_iload_n hG dX6_readCards_50 0 rfl ?_
      refine rx_if_ge hG 56 dX6_readCards_51 rfl (fun c7 => ?_) (fun c7 => ?_)
      · have hf := ifT hf c7
        refine rx_aload_n hG dX6_readCards_56 3 rfl ?_
        refine gfX_R_12_14 l E T hG dX6_readCards_57 ?_
        refine gfX_R_103_15 l E T hG dX6_readCards_60 ?_
        refine gfX_R_115_24 l E T hG dX6_readCards_63 ?_
        refine rx_iload_n hG dX6_readCards_66 2 rfl ?_
        refine rx_iload_n hG dX6_readCards_67 1 rfl ?_
        obtain ⟨v8, hv8, hf⟩ := bindE hf
        refine rx_cNi hG (c_P_cell l E (SKX ++ T) q2.1 q4.1 hv8) kw_R_112 ⟨Nat.le_of_ble_eq_true rfl, Nat.le_of_ble_eq_true rfl⟩ rfl (Nat.le_of_ble_eq_true rfl) dX6_readCards_68 ?_
        refine rx_iload_n hG dX6_readCards_71 0 rfl ?_
        obtain ⟨M9, hM9, hf⟩ := bindE hf
        refine rx_iast hG (skX25 T) hM9 dX6_readCards_72 ?_
        refine rx_iconst hG 1 dX6_readCards_73 ic_1 ?_
        cases hf
        exact rx_zret hG zr1 dX6_readCards_74
      · have hf := ifF hf c7
        refine rx_iconst hG 0 dX6_readCards_54 ic_0 ?_
        cases hf
        exact rx_zret hG zr0 dX6_readCards_55
    · have hf := ifF hf c5
      refine rx_iconst hG 0 dX6_readCards_40 ic_0 ?_
      cases hf
      exact rx_zret hG zr0 dX6_readCards_41
  · have hf := ifF hf c3
    refine rx_iconst hG 0 dX6_readCards_21 ic_0 ?_
    cases hf
    exact rx_zret hG zr0 dX6_readCards_22
set_option maxHeartbeats 4000000 in
set_option maxRecDepth 100000 in
theorem c_R_readOrder_14 (l : Launch) (E : En) (T : List Sk)  {M M' : Mm} {r : Int32} (h : f_R_readOrder_14 M = some (r, M')) : Ct l (SKX ++ T) E yX6_readOrder cX6_readOrder 5 (some .boolean) 4 92 [.ref (adr E 14)] M (some (.int r)) M' := by
  refine ct_of (by decide) (Nat.le_of_ble_eq_true rfl) ?_
  intro G hG
  show G 0 [(0, .ref (adr E 14))] [] M
  have hf := h
  unfold f_R_readOrder_14 at hf
  refine rx_aload_n hG dX6_readOrder_0 0 rfl ?_
  refine gfX_R_12_14 l E T hG dX6_readOrder_1 ?_
  refine gfX_R_136_15 l E T hG dX6_readOrder_4 ?_
  refine rx_istore_n (lv2 := [(1, .int (M.1 15 2)), (0, .ref (adr E 14))]) hG dX6_readOrder_7 (Nat.le_of_ble_eq_true rfl) rfl ?_
  refine rx_iload_n hG dX6_readOrder_8 0 rfl ?_
  refine rx_iconst hG 4 dX6_readOrder_9 ic_4 ?_
  refine rx_icmp_lt hG 19 dX6_readOrder_10 rfl (fun c1 => ?_) (fun c1 => ?_)
  · have hf := ifT hf c1
    refine rx_aload_n hG dX6_readOrder_19 1 rfl ?_
    obtain ⟨M2, hM2, hf⟩ := bindE hf
    refine rx_cVv hG (c_R_step_14 l E T  hM2) (skX14 T) rfl rfl kw_R_62 ⟨Nat.le_of_ble_eq_true rfl, Nat.le_of_ble_eq_true rfl⟩ rfl (Nat.le_of_ble_eq_true rfl) dX6_readOrder_20 ?_
    refine rx_aload_n hG dX6_readOrder_23 1 rfl ?_
    refine rx_iconst hG 0 dX6_readOrder_24 ic_0 ?_
    refine rx_aload_n hG dX6_readOrder_25 1 rfl ?_
    refine gfX_R_12_14 l E T hG dX6_readOrder_26 ?_
    refine gfX_R_53_15 l E T hG dX6_readOrder_29 ?_
    obtain ⟨q3, hq3, hf⟩ := bindE hf
    refine rx_cVi hG (c_R_readOldName_14 l E T 0 (M2.1 15 0) hq3) (skX14 T) rfl rfl kw_R_133 ⟨Nat.le_of_ble_eq_true rfl, Nat.le_of_ble_eq_true rfl⟩ rfl (Nat.le_of_ble_eq_true rfl) dX6_readOrder_32 ?_
    refine rx_istore_n (lv2 := [(2, .int q3.1), (1, .int (M.1 15 2)), (0, .ref (adr E 14))]) hG dX6_readOrder_35 (Nat.le_of_ble_eq_true rfl) rfl ?_
    refine rx_iload_n hG dX6_readOrder_36 0 rfl ?_
    refine rx_if_lt hG 48 dX6_readOrder_37 rfl (fun c4 => ?_) (fun c4 => ?_)
    · have hf := ifT hf c4
      refine rx_iconst hG 0 dX6_readOrder_48 ic_0 ?_
      cases hf
      exact rx_zret hG zr0 dX6_readOrder_49
    · have hf := ifF hf c4
      refine rx_aload_n hG dX6_readOrder_40 2 rfl ?_
      refine rx_iconst hG 4 dX6_readOrder_41 ic_4 ?_
      obtain ⟨q5, hq5, hf⟩ := bindE hf
      refine rx_cVi hG (c_R_readWord_14 l E T 4 hq5) (skX14 T) rfl rfl kw_R_124 ⟨Nat.le_of_ble_eq_true rfl, Nat.le_of_ble_eq_true rfl⟩ rfl (Nat.le_of_ble_eq_true rfl) dX6_readOrder_42 ?_
      refine rx_if_ne hG 50 dX6_readOrder_45 rfl (fun c6 => ?_) (fun c6 => ?_)
      · have hf := ifF hf c6
        refine rx_aload_n hG dX6_readOrder_50 2 rfl ?_
        refine rx_iconst hG 1 dX6_readOrder_51 ic_1 ?_
        refine rx_bipush hG 99 dX6_readOrder_52 bp_99 ?_
        obtain ⟨q7, hq7, hf⟩ := bindE hf
        refine rx_cVi hG (c_R_readWhole_14 l E T 1 99 hq7) (skX14 T) rfl rfl kw_R_99 ⟨Nat.le_of_ble_eq_true rfl, Nat.le_of_ble_eq_true rfl⟩ rfl (Nat.le_of_ble_eq_true rfl) dX6_readOrder_54 ?_
        refine rx_istore_n (lv2 := [(3, .int q7.1), (2, .int q3.1), (1, .int (M.1 15 2)), (0, .ref (adr E 14))]) hG dX6_readOrder_57 (Nat.le_of_ble_eq_true rfl) rfl ?_
        refine rx_iload_n hG dX6_readOrder_58 0 rfl ?_
        refine rx_if_lt hG 71 dX6_readOrder_59 rfl (fun c8 => ?_) (fun c8 => ?_)
        · have hf := ifT hf c8
          refine rx_iconst hG 0 dX6_readOrder_71 ic_0 ?_
          cases hf
          exact rx_zret hG zr0 dX6_readOrder_72
        · have hf := ifF hf c8
          refine rx_aload_n hG dX6_readOrder_62 3 rfl ?_
          refine rx_bipush hG 7 dX6_readOrder_63 bp_7 ?_
          obtain ⟨q9, hq9, hf⟩ := bindE hf
          refine rx_cVi hG (c_R_readWord_14 l E T 7 hq9) (skX14 T) rfl rfl kw_R_124 ⟨Nat.le_of_ble_eq_true rfl, Nat.le_of_ble_eq_true rfl⟩ rfl (Nat.le_of_ble_eq_true rfl) dX6_readOrder_65 ?_
          refine rx_if_ne hG 73 dX6_readOrder_68 rfl (fun c10 => ?_) (fun c10 => ?_)
          · have hf := ifF hf c10
            refine rx_aload_n hG dX6_readOrder_73 3 rfl ?_
            refine rx_iconst hG 0 dX6_readOrder_74 ic_0 ?_
            refine rx_sipush hG 999 dX6_readOrder_75 sp_999 ?_
            obtain ⟨q11, hq11, hf⟩ := bindE hf
            refine rx_cVi hG (c_R_readWhole_14 l E T 0 999 hq11) (skX14 T) rfl rfl kw_R_99 ⟨Nat.le_of_ble_eq_true rfl, Nat.le_of_ble_eq_true rfl⟩ rfl (Nat.le_of_ble_eq_true rfl) dX6_readOrder_78 ?_
            refine rx_istore (lv2 := [(4, .int q11.1), (3, .int q7.1), (2, .int q3.1), (1, .int (M.1 15 2)), (0, .ref (adr E 14))]) hG dX6_readOrder_81 (Nat.le_of_ble_eq_true rfl) rfl ?_
            refine rx_iload hG dX6_readOrder_83 0 rfl ?_
            refine rx_if_ge hG 90 dX6_readOrder_85 rfl (fun c12 => ?_) (fun c12 => ?_)
            · have hf := ifT hf c12
              refine rx_aload_n hG dX6_readOrder_90 4 rfl ?_
              refine gfX_R_12_14 l E T hG dX6_readOrder_91 ?_
              refine gfX_R_139_15 l E T hG dX6_readOrder_94 ?_
              refine rx_iload_n hG dX6_readOrder_97 3 rfl ?_
              refine rx_iload_n hG dX6_readOrder_98 2 rfl ?_
              obtain ⟨M13, hM13, hf⟩ := bindE hf
              refine rx_iast hG (skX19 T) hM13 dX6_readOrder_99 ?_
              refine rx_aload_n hG dX6_readOrder_100 4 rfl ?_
              refine gfX_R_12_14 l E T hG dX6_readOrder_101 ?_
              refine gfX_R_142_15 l E T hG dX6_readOrder_104 ?_
              refine rx_iload_n hG dX6_readOrder_107 3 rfl ?_
              refine rx_iload_n hG dX6_readOrder_108 1 rfl ?_
              obtain ⟨M14, hM14, hf⟩ := bindE hf
              refine rx_iast hG (skX20 T) hM14 dX6_readOrder_109 ?_
              refine rx_aload_n hG dX6_readOrder_110 4 rfl ?_
              refine gfX_R_12_14 l E T hG dX6_readOrder_111 ?_
              refine gfX_R_145_15 l E T hG dX6_readOrder_114 ?_
              refine rx_iload_n hG dX6_readOrder_117 3 rfl ?_
              refine rx_iload hG dX6_readOrder_118 0 rfl ?_
              obtain ⟨M15, hM15, hf⟩ := bindE hf
              refine rx_iast hG (skX21 T) hM15 dX6_readOrder_120 ?_
              refine rx_aload_n hG dX6_readOrder_121 4 rfl ?_
              refine gfX_R_12_14 l E T hG dX6_readOrder_122 ?_
              refine rx_dup hG dX6_readOrder_125 rfl ?_
              refine gfX_R_136_15 l E T hG dX6_readOrder_126 ?_
              refine rx_iconst hG 1 dX6_readOrder_129 ic_1 ?_
              refine rx_iadd hG dX6_readOrder_130 ?_
              obtain ⟨M16, hM16, hf⟩ := bindE hf
              refine pfX_R_136_15 l E T hG hM16 dX6_readOrder_131 ?_
              refine rx_iconst hG 1 dX6_readOrder_134 ic_1 ?_
              cases hf
              exact rx_zret hG zr1 dX6_readOrder_135
            · have hf := ifF hf c12
              refine rx_iconst hG 0 dX6_readOrder_88 ic_0 ?_
              cases hf
              exact rx_zret hG zr0 dX6_readOrder_89
          · have hf := ifT hf c10
            refine rx_iconst hG 0 dX6_readOrder_71 ic_0 ?_
            cases hf
            exact rx_zret hG zr0 dX6_readOrder_72
      · have hf := ifT hf c6
        refine rx_iconst hG 0 dX6_readOrder_48 ic_0 ?_
        cases hf
        exact rx_zret hG zr0 dX6_readOrder_49
  · have hf := ifF hf c1
    refine rx_aload_n hG dX6_readOrder_13 1 rfl ?_
    refine rx_iconst hG 4 dX6_readOrder_14 ic_4 ?_
    obtain ⟨q17, hq17, hf⟩ := bindE hf
    refine rx_cVi hG (c_R_blame_14 l E T 4 hq17) (skX14 T) rfl rfl kw_R_59 ⟨Nat.le_of_ble_eq_true rfl, Nat.le_of_ble_eq_true rfl⟩ rfl (Nat.le_of_ble_eq_true rfl) dX6_readOrder_15 ?_
    obtain ⟨z18, hz18, hf⟩ := bindE hf
    cases hf
    exact rx_zret hG hz18 dX6_readOrder_18
set_option maxHeartbeats 4000000 in
set_option maxRecDepth 100000 in
theorem c_R_readRule_14 (l : Launch) (E : En) (T : List Sk)  {M M' : Mm} {r : Int32} (h : f_R_readRule_14 M = some (r, M')) : Ct l (SKX ++ T) E yX6_readRule cX6_readRule 1 (some .boolean) 1 21 [.ref (adr E 14)] M (some (.int r)) M' := by
  refine ct_of (by decide) (Nat.le_of_ble_eq_true rfl) ?_
  intro G hG
  show G 0 [(0, .ref (adr E 14))] [] M
  have hf := h
  unfold f_R_readRule_14 at hf
  refine rx_aload_n hG dX6_readRule_0 0 rfl ?_
  refine gfX_R_38_14 l E T hG dX6_readRule_1 ?_
  refine rx_if_eq hG 13 dX6_readRule_4 rfl (fun c1 => ?_) (fun c1 => ?_)
  · have hf := ifT hf c1
    refine rx_aload_n hG dX6_readRule_13 0 rfl ?_
    refine rx_iconst hG 1 dX6_readRule_14 ic_1 ?_
    obtain ⟨M2, hM2, hf⟩ := bindE hf
    refine pfX_R_38_14 l E T hG hM2 (Or.inr rfl) dX6_readRule_15 ?_
    refine rx_aload_n hG dX6_readRule_18 0 rfl ?_
    obtain ⟨M3, hM3, hf⟩ := bindE hf
    refine rx_cVv hG (c_R_step_14 l E T  hM3) (skX14 T) rfl rfl kw_R_62 ⟨Nat.le_of_ble_eq_true rfl, Nat.le_of_ble_eq_true rfl⟩ rfl (Nat.le_of_ble_eq_true rfl) dX6_readRule_19 ?_
    refine rx_aload_n hG dX6_readRule_22 0 rfl ?_
    refine rx_bipush hG 9 dX6_readRule_23 bp_9 ?_
    obtain ⟨v4, hv4, hf⟩ := bindE hf
    refine rx_cVi hG (c_R_isWord_14 l E T 9 hv4) (skX14 T) rfl rfl kw_R_118 ⟨Nat.le_of_ble_eq_true rfl, Nat.le_of_ble_eq_true rfl⟩ rfl (Nat.le_of_ble_eq_true rfl) dX6_readRule_25 ?_
    refine rx_if_eq hG 45 dX6_readRule_28 rfl (fun c5 => ?_) (fun c5 => ?_)
    · have hf := ifT hf c5
      refine rx_aload_n hG dX6_readRule_45 0 rfl ?_
      refine rx_bipush hG 10 dX6_readRule_46 bp_10 ?_
      obtain ⟨v6, hv6, hf⟩ := bindE hf
      refine rx_cVi hG (c_R_isWord_14 l E T 10 hv6) (skX14 T) rfl rfl kw_R_118 ⟨Nat.le_of_ble_eq_true rfl, Nat.le_of_ble_eq_true rfl⟩ rfl (Nat.le_of_ble_eq_true rfl) dX6_readRule_48 ?_
      refine rx_if_eq hG 68 dX6_readRule_51 rfl (fun c7 => ?_) (fun c7 => ?_)
      · have hf := ifT hf c7
        refine rx_aload_n hG dX6_readRule_68 0 rfl ?_
        refine rx_bipush hG 11 dX6_readRule_69 bp_11 ?_
        obtain ⟨v8, hv8, hf⟩ := bindE hf
        refine rx_cVi hG (c_R_isWord_14 l E T 11 hv8) (skX14 T) rfl rfl kw_R_118 ⟨Nat.le_of_ble_eq_true rfl, Nat.le_of_ble_eq_true rfl⟩ rfl (Nat.le_of_ble_eq_true rfl) dX6_readRule_71 ?_
        refine rx_if_eq hG 91 dX6_readRule_74 rfl (fun c9 => ?_) (fun c9 => ?_)
        · have hf := ifT hf c9
          refine rx_aload_n hG dX6_readRule_91 0 rfl ?_
          refine rx_iconst hG 1 dX6_readRule_92 ic_1 ?_
          obtain ⟨q10, hq10, hf⟩ := bindE hf
          refine rx_cVi hG (c_R_blame_14 l E T 1 hq10) (skX14 T) rfl rfl kw_R_59 ⟨Nat.le_of_ble_eq_true rfl, Nat.le_of_ble_eq_true rfl⟩ rfl (Nat.le_of_ble_eq_true rfl) dX6_readRule_93 ?_
          obtain ⟨z11, hz11, hf⟩ := bindE hf
          cases hf
          exact rx_zret hG hz11 dX6_readRule_96
        · have hf := ifF hf c9
          refine rx_aload_n hG dX6_readRule_77 0 rfl ?_
          refine gfX_R_12_14 l E T hG dX6_readRule_78 ?_
          refine gfX_R_103_15 l E T hG dX6_readRule_81 ?_
          refine rx_iconst hG 2 dX6_readRule_84 ic_2 ?_
          obtain ⟨M12, hM12, hf⟩ := bindE hf
          refine pfX_R_148_24 l E T hG hM12 dX6_readRule_85 ?_
          refine rx_goto hG 97 dX6_readRule_88 rfl ?_
          refine rx_aload_n hG dX6_readRule_97 0 rfl ?_
          obtain ⟨M13, hM13, hf⟩ := bindE hf
          refine rx_cVv hG (c_R_step_14 l E T  hM13) (skX14 T) rfl rfl kw_R_62 ⟨Nat.le_of_ble_eq_true rfl, Nat.le_of_ble_eq_true rfl⟩ rfl (Nat.le_of_ble_eq_true rfl) dX6_readRule_98 ?_
          refine rx_iconst hG 1 dX6_readRule_101 ic_1 ?_
          cases hf
          exact rx_zret hG zr1 dX6_readRule_102
      · have hf := ifF hf c7
        refine rx_aload_n hG dX6_readRule_54 0 rfl ?_
        refine gfX_R_12_14 l E T hG dX6_readRule_55 ?_
        refine gfX_R_103_15 l E T hG dX6_readRule_58 ?_
        refine rx_iconst hG 1 dX6_readRule_61 ic_1 ?_
        obtain ⟨M14, hM14, hf⟩ := bindE hf
        refine pfX_R_148_24 l E T hG hM14 dX6_readRule_62 ?_
        refine rx_goto hG 97 dX6_readRule_65 rfl ?_
        refine rx_aload_n hG dX6_readRule_97 0 rfl ?_
        obtain ⟨M15, hM15, hf⟩ := bindE hf
        refine rx_cVv hG (c_R_step_14 l E T  hM15) (skX14 T) rfl rfl kw_R_62 ⟨Nat.le_of_ble_eq_true rfl, Nat.le_of_ble_eq_true rfl⟩ rfl (Nat.le_of_ble_eq_true rfl) dX6_readRule_98 ?_
        refine rx_iconst hG 1 dX6_readRule_101 ic_1 ?_
        cases hf
        exact rx_zret hG zr1 dX6_readRule_102
    · have hf := ifF hf c5
      refine rx_aload_n hG dX6_readRule_31 0 rfl ?_
      refine gfX_R_12_14 l E T hG dX6_readRule_32 ?_
      refine gfX_R_103_15 l E T hG dX6_readRule_35 ?_
      refine rx_iconst hG 0 dX6_readRule_38 ic_0 ?_
      obtain ⟨M16, hM16, hf⟩ := bindE hf
      refine pfX_R_148_24 l E T hG hM16 dX6_readRule_39 ?_
      refine rx_goto hG 97 dX6_readRule_42 rfl ?_
      refine rx_aload_n hG dX6_readRule_97 0 rfl ?_
      obtain ⟨M17, hM17, hf⟩ := bindE hf
      refine rx_cVv hG (c_R_step_14 l E T  hM17) (skX14 T) rfl rfl kw_R_62 ⟨Nat.le_of_ble_eq_true rfl, Nat.le_of_ble_eq_true rfl⟩ rfl (Nat.le_of_ble_eq_true rfl) dX6_readRule_98 ?_
      refine rx_iconst hG 1 dX6_readRule_101 ic_1 ?_
      cases hf
      exact rx_zret hG zr1 dX6_readRule_102
  · have hf := ifF hf c1
    refine rx_aload_n hG dX6_readRule_7 0 rfl ?_
    refine rx_iconst hG 3 dX6_readRule_8 ic_3 ?_
    obtain ⟨q18, hq18, hf⟩ := bindE hf
    refine rx_cVi hG (c_R_blame_14 l E T 3 hq18) (skX14 T) rfl rfl kw_R_59 ⟨Nat.le_of_ble_eq_true rfl, Nat.le_of_ble_eq_true rfl⟩ rfl (Nat.le_of_ble_eq_true rfl) dX6_readRule_9 ?_
    obtain ⟨z19, hz19, hf⟩ := bindE hf
    cases hf
    exact rx_zret hG hz19 dX6_readRule_12
set_option maxHeartbeats 4000000 in
set_option maxRecDepth 100000 in
theorem c_R_readLine_14 (l : Launch) (E : En) (T : List Sk)  {M M' : Mm} {r : Int32} (h : f_R_readLine_14 M = some (r, M')) : Ct l (SKX ++ T) E yX6_readLine cX6_readLine 1 (some .boolean) 5 116 [.ref (adr E 14)] M (some (.int r)) M' := by
  refine ct_of (by decide) (Nat.le_of_ble_eq_true rfl) ?_
  intro G hG
  show G 0 [(0, .ref (adr E 14))] [] M
  have hf := h
  unfold f_R_readLine_14 at hf
  refine rx_aload_n hG dX6_readLine_0 0 rfl ?_
  refine rx_iconst hG 1 dX6_readLine_1 ic_1 ?_
  obtain ⟨v1, hv1, hf⟩ := bindE hf
  refine rx_cVi hG (c_R_isSort_14 l E T 1 hv1) (skX14 T) rfl rfl kw_R_49 ⟨Nat.le_of_ble_eq_true rfl, Nat.le_of_ble_eq_true rfl⟩ rfl (Nat.le_of_ble_eq_true rfl) dX6_readLine_2 ?_
  refine rx_if_ne hG 14 dX6_readLine_5 rfl (fun c2 => ?_) (fun c2 => ?_)
  · have hf := ifF hf c2
    refine rx_aload_n hG dX6_readLine_14 0 rfl ?_
    refine gfX_R_23_14 l E T hG dX6_readLine_15 ?_
    refine gfX_R_69_27 l E T hG dX6_readLine_18 ?_
    refine rx_aload_n hG dX6_readLine_21 0 rfl ?_
    refine gfX_R_31_14 l E T hG dX6_readLine_22 ?_
    obtain ⟨v3, hv3, hf⟩ := bindE hf
    refine rx_iald hG (skX31 T) hv3 dX6_readLine_25 ?_
    by_cases c4 : v3 = 0
    · have hf := ifT hf c4
      refine rx_tableIn hG 76 0 (by rw [c4]; rfl) dX6_readLine_26 (by decide) (by decide) rfl rfl ?_
      refine rx_aload_n hG dX6_readLine_76 0 rfl ?_
      obtain ⟨q5, hq5, hf⟩ := bindE hf
      refine rx_cVi hG (c_R_readWare_14 l E T  hq5) (skX14 T) rfl rfl kw_R_72 ⟨Nat.le_of_ble_eq_true rfl, Nat.le_of_ble_eq_true rfl⟩ rfl (Nat.le_of_ble_eq_true rfl) dX6_readLine_77 ?_
      obtain ⟨z6, hz6, hf⟩ := bindE hf
      cases hf
      exact rx_zret hG hz6 dX6_readLine_80
    have hf := ifF hf c4
    by_cases c7 : v3 = 1
    · have hf := ifT hf c7
      refine rx_tableIn hG 81 1 (by rw [c7]; rfl) dX6_readLine_26 (by decide) (by decide) rfl rfl ?_
      refine rx_aload_n hG dX6_readLine_81 0 rfl ?_
      obtain ⟨q8, hq8, hf⟩ := bindE hf
      refine rx_cVi hG (c_R_readBench_14 l E T  hq8) (skX14 T) rfl rfl kw_R_75 ⟨Nat.le_of_ble_eq_true rfl, Nat.le_of_ble_eq_true rfl⟩ rfl (Nat.le_of_ble_eq_true rfl) dX6_readLine_82 ?_
      obtain ⟨z9, hz9, hf⟩ := bindE hf
      cases hf
      exact rx_zret hG hz9 dX6_readLine_85
    have hf := ifF hf c7
    by_cases c10 : v3 = 2
    · have hf := ifT hf c10
      refine rx_tableIn hG 101 2 (by rw [c10]; rfl) dX6_readLine_26 (by decide) (by decide) rfl rfl ?_
      refine rx_aload_n hG dX6_readLine_101 0 rfl ?_
      refine rx_iconst hG 1 dX6_readLine_102 ic_1 ?_
      obtain ⟨q11, hq11, hf⟩ := bindE hf
      refine rx_cVi hG (c_R_blame_14 l E T 1 hq11) (skX14 T) rfl rfl kw_R_59 ⟨Nat.le_of_ble_eq_true rfl, Nat.le_of_ble_eq_true rfl⟩ rfl (Nat.le_of_ble_eq_true rfl) dX6_readLine_103 ?_
      obtain ⟨z12, hz12, hf⟩ := bindE hf
      cases hf
      exact rx_zret hG hz12 dX6_readLine_106
    have hf := ifF hf c10
    by_cases c13 : v3 = 3
    · have hf := ifT hf c13
      refine rx_tableIn hG 101 3 (by rw [c13]; rfl) dX6_readLine_26 (by decide) (by decide) rfl rfl ?_
      refine rx_aload_n hG dX6_readLine_101 0 rfl ?_
      refine rx_iconst hG 1 dX6_readLine_102 ic_1 ?_
      obtain ⟨q14, hq14, hf⟩ := bindE hf
      refine rx_cVi hG (c_R_blame_14 l E T 1 hq14) (skX14 T) rfl rfl kw_R_59 ⟨Nat.le_of_ble_eq_true rfl, Nat.le_of_ble_eq_true rfl⟩ rfl (Nat.le_of_ble_eq_true rfl) dX6_readLine_103 ?_
      obtain ⟨z15, hz15, hf⟩ := bindE hf
      cases hf
      exact rx_zret hG hz15 dX6_readLine_106
    have hf := ifF hf c13
    by_cases c16 : v3 = 4
    · have hf := ifT hf c16
      refine rx_tableIn hG 101 4 (by rw [c16]; rfl) dX6_readLine_26 (by decide) (by decide) rfl rfl ?_
      refine rx_aload_n hG dX6_readLine_101 0 rfl ?_
      refine rx_iconst hG 1 dX6_readLine_102 ic_1 ?_
      obtain ⟨q17, hq17, hf⟩ := bindE hf
      refine rx_cVi hG (c_R_blame_14 l E T 1 hq17) (skX14 T) rfl rfl kw_R_59 ⟨Nat.le_of_ble_eq_true rfl, Nat.le_of_ble_eq_true rfl⟩ rfl (Nat.le_of_ble_eq_true rfl) dX6_readLine_103 ?_
      obtain ⟨z18, hz18, hf⟩ := bindE hf
      cases hf
      exact rx_zret hG hz18 dX6_readLine_106
    have hf := ifF hf c16
    by_cases c19 : v3 = 5
    · have hf := ifT hf c19
      refine rx_tableIn hG 86 5 (by rw [c19]; rfl) dX6_readLine_26 (by decide) (by decide) rfl rfl ?_
      refine rx_aload_n hG dX6_readLine_86 0 rfl ?_
      obtain ⟨q20, hq20, hf⟩ := bindE hf
      refine rx_cVi hG (c_R_readCards_14 l E T  hq20) (skX14 T) rfl rfl kw_R_78 ⟨Nat.le_of_ble_eq_true rfl, Nat.le_of_ble_eq_true rfl⟩ rfl (Nat.le_of_ble_eq_true rfl) dX6_readLine_87 ?_
      obtain ⟨z21, hz21, hf⟩ := bindE hf
      cases hf
      exact rx_zret hG hz21 dX6_readLine_90
    have hf := ifF hf c19
    by_cases c22 : v3 = 6
    · have hf := ifT hf c22
      refine rx_tableIn hG 91 6 (by rw [c22]; rfl) dX6_readLine_26 (by decide) (by decide) rfl rfl ?_
      refine rx_aload_n hG dX6_readLine_91 0 rfl ?_
      obtain ⟨q23, hq23, hf⟩ := bindE hf
      refine rx_cVi hG (c_R_readOrder_14 l E T  hq23) (skX14 T) rfl rfl kw_R_81 ⟨Nat.le_of_ble_eq_true rfl, Nat.le_of_ble_eq_true rfl⟩ rfl (Nat.le_of_ble_eq_true rfl) dX6_readLine_92 ?_
      obtain ⟨z24, hz24, hf⟩ := bindE hf
      cases hf
      exact rx_zret hG hz24 dX6_readLine_95
    have hf := ifF hf c22
    by_cases c25 : v3 = 7
    · have hf := ifT hf c25
      refine rx_tableIn hG 101 7 (by rw [c25]; rfl) dX6_readLine_26 (by decide) (by decide) rfl rfl ?_
      refine rx_aload_n hG dX6_readLine_101 0 rfl ?_
      refine rx_iconst hG 1 dX6_readLine_102 ic_1 ?_
      obtain ⟨q26, hq26, hf⟩ := bindE hf
      refine rx_cVi hG (c_R_blame_14 l E T 1 hq26) (skX14 T) rfl rfl kw_R_59 ⟨Nat.le_of_ble_eq_true rfl, Nat.le_of_ble_eq_true rfl⟩ rfl (Nat.le_of_ble_eq_true rfl) dX6_readLine_103 ?_
      obtain ⟨z27, hz27, hf⟩ := bindE hf
      cases hf
      exact rx_zret hG hz27 dX6_readLine_106
    have hf := ifF hf c25
    by_cases c28 : v3 = 8
    · have hf := ifT hf c28
      refine rx_tableIn hG 96 8 (by rw [c28]; rfl) dX6_readLine_26 (by decide) (by decide) rfl rfl ?_
      refine rx_aload_n hG dX6_readLine_96 0 rfl ?_
      obtain ⟨q29, hq29, hf⟩ := bindE hf
      refine rx_cVi hG (c_R_readRule_14 l E T  hq29) (skX14 T) rfl rfl kw_R_84 ⟨Nat.le_of_ble_eq_true rfl, Nat.le_of_ble_eq_true rfl⟩ rfl (Nat.le_of_ble_eq_true rfl) dX6_readLine_97 ?_
      obtain ⟨z30, hz30, hf⟩ := bindE hf
      cases hf
      exact rx_zret hG hz30 dX6_readLine_100
    have hf := ifF hf c28
    refine rx_tableOut hG 101 dX6_readLine_26 (by have := tiN c4 (z := 0) rfl; have := tiN c7 (z := 1) rfl; have := tiN c10 (z := 2) rfl; have := tiN c13 (z := 3) rfl; have := tiN c16 (z := 4) rfl; have := tiN c19 (z := 5) rfl; have := tiN c22 (z := 6) rfl; have := tiN c25 (z := 7) rfl; have := tiN c28 (z := 8) rfl; omega) rfl ?_
    refine rx_aload_n hG dX6_readLine_101 0 rfl ?_
    refine rx_iconst hG 1 dX6_readLine_102 ic_1 ?_
    obtain ⟨q31, hq31, hf⟩ := bindE hf
    refine rx_cVi hG (c_R_blame_14 l E T 1 hq31) (skX14 T) rfl rfl kw_R_59 ⟨Nat.le_of_ble_eq_true rfl, Nat.le_of_ble_eq_true rfl⟩ rfl (Nat.le_of_ble_eq_true rfl) dX6_readLine_103 ?_
    obtain ⟨z32, hz32, hf⟩ := bindE hf
    cases hf
    exact rx_zret hG hz32 dX6_readLine_106
  · have hf := ifT hf c2
    refine rx_aload_n hG dX6_readLine_8 0 rfl ?_
    refine rx_iconst hG 1 dX6_readLine_9 ic_1 ?_
    obtain ⟨q33, hq33, hf⟩ := bindE hf
    refine rx_cVi hG (c_R_blame_14 l E T 1 hq33) (skX14 T) rfl rfl kw_R_59 ⟨Nat.le_of_ble_eq_true rfl, Nat.le_of_ble_eq_true rfl⟩ rfl (Nat.le_of_ble_eq_true rfl) dX6_readLine_10 ?_
    obtain ⟨z34, hz34, hf⟩ := bindE hf
    cases hf
    exact rx_zret hG hz34 dX6_readLine_13
set_option maxHeartbeats 4000000 in
set_option maxRecDepth 100000 in
theorem Lj_R_read_14_54 (l : Launch) (E : En) (T : List Sk) {a0 b0 kc ks : Nat} {r : Int32} {M' : Mm} {G : Nat → List (Nat × Value) → List Value → Mm → Prop} (hG : RX l (SKX ++ T) E RX6 cX6_read 3 (some .int) { frames := 8, cells := a0, slots := b0, locals := 179 } kc ks (some (.int r)) M' G)  : ∀  (M : Mm), j_R_read_14_54  M = some (r, M') → G 54 [(0, .ref (adr E 14))] [] M := by
  intro M hf
  unfold j_R_read_14_54 at hf
  refine rx_aload_n hG dX6_read_54 0 rfl ?_
  refine gfX_R_12_14 l E T hG dX6_read_55 ?_
  refine gfX_R_53_15 l E T hG dX6_read_58 ?_
  refine rx_if_eq hG 74 dX6_read_61 rfl (fun c1 => ?_) (fun c1 => ?_)
  · have hf := ifT hf c1
    refine rx_aload_n hG dX6_read_74 0 rfl ?_
    refine rx_iconst hG 5 dX6_read_75 ic_5 ?_
    obtain ⟨q2, hq2, hf⟩ := bindE hf
    refine rx_cVi hG (c_R_blame_14 l E T 5 hq2) (skX14 T) rfl rfl kw_R_59 ⟨Nat.le_of_ble_eq_true rfl, Nat.le_of_ble_eq_true rfl⟩ rfl (Nat.le_of_ble_eq_true rfl) dX6_read_76 ?_
    refine rx_pop hG dX6_read_79 rfl ?_
    refine rx_aload_n hG dX6_read_80 0 rfl ?_
    refine gfX_R_35_14 l E T hG dX6_read_81 ?_
    cases hf
    exact rx_iret hG dX6_read_84
  · have hf := ifF hf c1
    refine rx_aload_n hG dX6_read_64 0 rfl ?_
    refine gfX_R_12_14 l E T hG dX6_read_65 ?_
    refine gfX_R_56_15 l E T hG dX6_read_68 ?_
    refine rx_if_ne hG 80 dX6_read_71 rfl (fun c3 => ?_) (fun c3 => ?_)
    · have hf := ifF hf c3
      refine rx_aload_n hG dX6_read_80 0 rfl ?_
      refine gfX_R_35_14 l E T hG dX6_read_81 ?_
      cases hf
      exact rx_iret hG dX6_read_84
    · have hf := ifT hf c3
      refine rx_aload_n hG dX6_read_74 0 rfl ?_
      refine rx_iconst hG 5 dX6_read_75 ic_5 ?_
      obtain ⟨q4, hq4, hf⟩ := bindE hf
      refine rx_cVi hG (c_R_blame_14 l E T 5 hq4) (skX14 T) rfl rfl kw_R_59 ⟨Nat.le_of_ble_eq_true rfl, Nat.le_of_ble_eq_true rfl⟩ rfl (Nat.le_of_ble_eq_true rfl) dX6_read_76 ?_
      refine rx_pop hG dX6_read_79 rfl ?_
      refine rx_aload_n hG dX6_read_80 0 rfl ?_
      refine gfX_R_35_14 l E T hG dX6_read_81 ?_
      cases hf
      exact rx_iret hG dX6_read_84
set_option maxHeartbeats 4000000 in
set_option maxRecDepth 100000 in
theorem Lblp_R_read_14_32 (l : Launch) (E : En) (T : List Sk) {a0 b0 kc ks : Nat} {r : Int32} {M' : Mm} {G : Nat → List (Nat × Value) → List Value → Mm → Prop} (hG : RX l (SKX ++ T) E RX6 cX6_read 3 (some .int) { frames := 8, cells := a0, slots := b0, locals := 179 } kc ks (some (.int r)) M' G) (rc32 : Int32 → Mm → Option (Int32 × Mm)) (hrc32 : ∀ (x2 : Int32) (M : Mm), rc32 x2 M = some (r, M') → G 32 [(0, .ref (adr E 14)), (2, .int x2)] [] M) : ∀ (x2 : Int32) (M : Mm), blp_R_read_14_32 rc32 x2 M = some (r, M') → G 32 [(0, .ref (adr E 14)), (2, .int x2)] [] M := by
  intro x2 M hf
  unfold blp_R_read_14_32 at hf
  refine rx_iload_n hG dX6_read_32 1 rfl ?_
  refine rx_sipush hG 600 dX6_read_33 sp_600 ?_
  refine rx_icmp_gt hG 114 dX6_read_36 rfl (fun c1 => ?_) (fun c1 => ?_)
  · have hf := ifT hf c1
    refine rx_aload_n hG dX6_read_114 0 rfl ?_
    refine gfX_R_35_14 l E T hG dX6_read_115 ?_
    cases hf
    exact rx_iret hG dX6_read_118
  · have hf := ifF hf c1
    refine rx_aload_n hG dX6_read_39 0 rfl ?_
    obtain ⟨q2, hq2, hf⟩ := bindE hf
    refine rx_cVi hG (c_R_readLine_14 l E T  hq2) (skX14 T) rfl rfl kw_R_45 ⟨Nat.le_of_ble_eq_true rfl, Nat.le_of_ble_eq_true rfl⟩ rfl (Nat.le_of_ble_eq_true rfl) dX6_read_40 ?_
    refine rx_if_eq hG 114 dX6_read_43 rfl (fun c3 => ?_) (fun c3 => ?_)
    · have hf := ifT hf c3
      refine rx_aload_n hG dX6_read_114 0 rfl ?_
      refine gfX_R_35_14 l E T hG dX6_read_115 ?_
      cases hf
      exact rx_iret hG dX6_read_118
    · have hf := ifF hf c3
      refine rx_aload_n hG dX6_read_46 0 rfl ?_
      refine rx_iconst hG 0 dX6_read_47 ic_0 ?_
      obtain ⟨v4, hv4, hf⟩ := bindE hf
      refine rx_cVi hG (c_R_isSort_14 l E T 0 hv4) (skX14 T) rfl rfl kw_R_49 ⟨Nat.le_of_ble_eq_true rfl, Nat.le_of_ble_eq_true rfl⟩ rfl (Nat.le_of_ble_eq_true rfl) dX6_read_48 ?_
      refine rx_if_eq hG 85 dX6_read_51 rfl (fun c5 => ?_) (fun c5 => ?_)
      · have hf := ifT hf c5
        refine rx_aload_n hG dX6_read_85 0 rfl ?_
        refine rx_iconst hG 3 dX6_read_86 ic_3 ?_
        obtain ⟨v6, hv6, hf⟩ := bindE hf
        refine rx_cVi hG (c_R_isSort_14 l E T 3 hv6) (skX14 T) rfl rfl kw_R_49 ⟨Nat.le_of_ble_eq_true rfl, Nat.le_of_ble_eq_true rfl⟩ rfl (Nat.le_of_ble_eq_true rfl) dX6_read_87 ?_
        refine rx_if_ne hG 104 dX6_read_90 rfl (fun c7 => ?_) (fun c7 => ?_)
        · have hf := ifF hf c7
          refine rx_aload_n hG dX6_read_104 0 rfl ?_
          obtain ⟨M8, hM8, hf⟩ := bindE hf
          refine rx_cVv hG (c_R_step_14 l E T  hM8) (skX14 T) rfl rfl kw_R_62 ⟨Nat.le_of_ble_eq_true rfl, Nat.le_of_ble_eq_true rfl⟩ rfl (Nat.le_of_ble_eq_true rfl) dX6_read_105 ?_
          refine rx_iinc (lv2 := [(2, .int (x2 + 1)), (0, .ref (adr E 14))]) hG 1 dX6_read_108 ic_1 1 rfl (Nat.le_of_ble_eq_true rfl) rfl ?_
          refine rx_goto hG 32 dX6_read_111 rfl ?_
          refine rx_sub hG [1, 0] (lv' := [(0, .ref (adr E 14)), (2, .int (x2 + 1))]) rfl ?_
          exact hrc32 (x2 + 1) M8 hf
        · have hf := ifT hf c7
          refine rx_aload_n hG dX6_read_93 0 rfl ?_
          refine rx_iconst hG 1 dX6_read_94 ic_1 ?_
          obtain ⟨q9, hq9, hf⟩ := bindE hf
          refine rx_cVi hG (c_R_blame_14 l E T 1 hq9) (skX14 T) rfl rfl kw_R_59 ⟨Nat.le_of_ble_eq_true rfl, Nat.le_of_ble_eq_true rfl⟩ rfl (Nat.le_of_ble_eq_true rfl) dX6_read_95 ?_
          refine rx_pop hG dX6_read_98 rfl ?_
          refine rx_aload_n hG dX6_read_99 0 rfl ?_
          refine gfX_R_35_14 l E T hG dX6_read_100 ?_
          cases hf
          exact rx_iret hG dX6_read_103
      · have hf := ifF hf c5
        refine rx_sub hG [0] (lv' := [(0, .ref (adr E 14))]) rfl ?_
        exact Lj_R_read_14_54 l E T hG  q2.2 hf
theorem Llp_R_read_14_32 (l : Launch) (E : En) (T : List Sk) {a0 b0 kc ks : Nat} {r : Int32} {M' : Mm} {G : Nat → List (Nat × Value) → List Value → Mm → Prop} (hG : RX l (SKX ++ T) E RX6 cX6_read 3 (some .int) { frames := 8, cells := a0, slots := b0, locals := 179 } kc ks (some (.int r)) M' G)  : ∀ (n : Nat) (x2 : Int32) (M : Mm), lp_R_read_14_32  n x2 M = some (r, M') → G 32 [(0, .ref (adr E 14)), (2, .int x2)] [] M := by
  intro n
  induction n with
  | zero => intro x2 M hf; cases hf
  | succ n ih => intro x2 M hf; exact Lblp_R_read_14_32 l E T hG  (lp_R_read_14_32  n) ih x2 M hf
set_option maxHeartbeats 4000000 in
set_option maxRecDepth 100000 in
theorem c_R_read_14 (l : Launch) (E : En) (T : List Sk) (p0 : Int32) {M M' : Mm} {r : Int32} (h : f_R_read_14 p0 M = some (r, M')) : Ct l (SKX ++ T) E yX6_read cX6_read 3 (some .int) 8 179 [.ref (adr E 14), .int p0] M (some (.int r)) M' := by
  refine ct_of (by decide) (Nat.le_of_ble_eq_true rfl) ?_
  intro G hG
  show G 0 [(0, .ref (adr E 14)), (1, .int p0)] [] M
  have hf := h
  unfold f_R_read_14 at hf
  refine rx_aload_n hG dX6_read_0 0 rfl ?_
  refine gfX_R_23_14 l E T hG dX6_read_1 ?_
  refine rx_iload_n hG dX6_read_4 1 rfl ?_
  obtain ⟨M1, hM1, hf⟩ := bindE hf
  refine rx_cVv hG (c_K_scan_27 l E T p0 hM1) (skX27 T) rfl rfl kw_R_27 ⟨Nat.le_of_ble_eq_true rfl, Nat.le_of_ble_eq_true rfl⟩ rfl (Nat.le_of_ble_eq_true rfl) dX6_read_5 ?_
  refine rx_aload_n hG dX6_read_8 0 rfl ?_
  refine rx_iconst hG 0 dX6_read_9 ic_0 ?_
  obtain ⟨M2, hM2, hf⟩ := bindE hf
  refine pfX_R_31_14 l E T hG hM2 dX6_read_10 ?_
  refine rx_aload_n hG dX6_read_13 0 rfl ?_
  refine rx_iconst hG 0 dX6_read_14 ic_0 ?_
  obtain ⟨M3, hM3, hf⟩ := bindE hf
  refine pfX_R_35_14 l E T hG hM3 dX6_read_15 ?_
  refine rx_aload_n hG dX6_read_18 0 rfl ?_
  refine rx_iconst hG 0 dX6_read_19 ic_0 ?_
  obtain ⟨M4, hM4, hf⟩ := bindE hf
  refine pfX_R_38_14 l E T hG hM4 (Or.inl rfl) dX6_read_20 ?_
  refine rx_aload_n hG dX6_read_23 0 rfl ?_
  refine gfX_R_12_14 l E T hG dX6_read_24 ?_
  obtain ⟨M5, hM5, hf⟩ := bindE hf
  refine rx_cVv hG (c_N_clear_15 l E T  hM5) (skX15 T) rfl rfl kw_R_42 ⟨Nat.le_of_ble_eq_true rfl, Nat.le_of_ble_eq_true rfl⟩ rfl (Nat.le_of_ble_eq_true rfl) dX6_read_27 ?_
  refine rx_iconst hG 0 dX6_read_30 ic_0 ?_
  refine rx_istore_n (lv2 := [(2, .int 0), (0, .ref (adr E 14)), (1, .int p0)]) hG dX6_read_31 (Nat.le_of_ble_eq_true rfl) rfl ?_
  refine rx_sub hG [1, 0] (lv' := [(0, .ref (adr E 14)), (2, .int 0)]) rfl ?_
  exact Llp_R_read_14_32 l E T hG  FW 0 M5 hf
set_option maxHeartbeats 4000000 in
set_option maxRecDepth 100000 in
theorem c_V_copy_11_24 (l : Launch) (E : En) (T : List Sk)  {M M' : Mm} (h : f_V_copy_11_24 M = some M') : Ct l (SKX ++ T) E yX2_copy cX2_copy 2 none 1 18 [.ref (adr E 11), .ref (adr E 24)] M none M' := by
  refine ct_of (by decide) (Nat.le_of_ble_eq_true rfl) ?_
  intro G hG
  show G 0 [(0, .ref (adr E 11)), (1, .ref (adr E 24))] [] M
  have hf := h
  unfold f_V_copy_11_24 at hf
  refine rx_aload_n hG dX2_copy_0 1 rfl ?_
  refine gfX_V_9_24 l E T hG dX2_copy_1 ?_
  refine rx_iconst hG 0 dX2_copy_4 ic_0 ?_
  refine rx_aload_n hG dX2_copy_5 0 rfl ?_
  refine gfX_V_9_11 l E T hG dX2_copy_6 ?_
  refine rx_iconst hG 0 dX2_copy_9 ic_0 ?_
  refine rx_bipush hG 18 dX2_copy_10 bp_18 ?_
  obtain ⟨M1, hM1, hf⟩ := bindE hf
  refine rx_copy hG (skX25 T) (skX12 T) hM1 kw_V_28 ⟨Nat.le_of_ble_eq_true rfl, Nat.le_of_ble_eq_true rfl⟩ dX2_copy_12 ?_
  refine rx_aload_n hG dX2_copy_15 1 rfl ?_
  refine gfX_V_15_24 l E T hG dX2_copy_16 ?_
  refine rx_iconst hG 0 dX2_copy_19 ic_0 ?_
  refine rx_aload_n hG dX2_copy_20 0 rfl ?_
  refine gfX_V_15_11 l E T hG dX2_copy_21 ?_
  refine rx_iconst hG 0 dX2_copy_24 ic_0 ?_
  refine rx_bipush hG 18 dX2_copy_25 bp_18 ?_
  obtain ⟨M2, hM2, hf⟩ := bindE hf
  refine rx_copy hG (skX26 T) (skX13 T) hM2 kw_V_28 ⟨Nat.le_of_ble_eq_true rfl, Nat.le_of_ble_eq_true rfl⟩ dX2_copy_27 ?_
  refine rx_aload_n hG dX2_copy_30 0 rfl ?_
  refine rx_aload_n hG dX2_copy_31 1 rfl ?_
  refine gfX_V_24_24 l E T hG dX2_copy_32 ?_
  obtain ⟨M3, hM3, hf⟩ := bindE hf
  refine pfX_V_24_11 l E T hG hM3 dX2_copy_35 ?_
  cases hf
  exact rx_vret hG dX2_copy_38
set_option maxHeartbeats 4000000 in
set_option maxRecDepth 100000 in
theorem c_N_copy_2_15 (l : Launch) (E : En) (T : List Sk)  {M M' : Mm} (h : f_N_copy_2_15 M = some M') : Ct l (SKX ++ T) E yX5_copy cX5_copy 2 none 2 39 [.ref (adr E 2), .ref (adr E 15)] M none M' := by
  refine ct_of (by decide) (Nat.le_of_ble_eq_true rfl) ?_
  intro G hG
  show G 0 [(0, .ref (adr E 2)), (1, .ref (adr E 15))] [] M
  have hf := h
  unfold f_N_copy_2_15 at hf
  refine rx_aload_n hG dX5_copy_0 0 rfl ?_
  refine rx_aload_n hG dX5_copy_1 1 rfl ?_
  refine gfX_N_43_15 l E T hG dX5_copy_2 ?_
  obtain ⟨M1, hM1, hf⟩ := bindE hf
  refine pfX_N_43_2 l E T hG hM1 dX5_copy_5 ?_
  refine rx_aload_n hG dX5_copy_8 0 rfl ?_
  refine rx_aload_n hG dX5_copy_9 1 rfl ?_
  refine gfX_N_47_15 l E T hG dX5_copy_10 ?_
  obtain ⟨M2, hM2, hf⟩ := bindE hf
  refine pfX_N_47_2 l E T hG hM2 dX5_copy_13 ?_
  refine rx_aload_n hG dX5_copy_16 0 rfl ?_
  refine rx_aload_n hG dX5_copy_17 1 rfl ?_
  refine gfX_N_50_15 l E T hG dX5_copy_18 ?_
  obtain ⟨M3, hM3, hf⟩ := bindE hf
  refine pfX_N_50_2 l E T hG hM3 dX5_copy_21 ?_
  refine rx_aload_n hG dX5_copy_24 1 rfl ?_
  refine gfX_N_9_15 l E T hG dX5_copy_25 ?_
  refine rx_iconst hG 0 dX5_copy_28 ic_0 ?_
  refine rx_aload_n hG dX5_copy_29 0 rfl ?_
  refine gfX_N_9_2 l E T hG dX5_copy_30 ?_
  refine rx_iconst hG 0 dX5_copy_33 ic_0 ?_
  refine rx_bipush hG 6 dX5_copy_34 bp_6 ?_
  obtain ⟨M4, hM4, hf⟩ := bindE hf
  refine rx_copy hG (skX16 T) (skX3 T) hM4 kw_N_62 ⟨Nat.le_of_ble_eq_true rfl, Nat.le_of_ble_eq_true rfl⟩ dX5_copy_36 ?_
  refine rx_aload_n hG dX5_copy_39 1 rfl ?_
  refine gfX_N_15_15 l E T hG dX5_copy_40 ?_
  refine rx_iconst hG 0 dX5_copy_43 ic_0 ?_
  refine rx_aload_n hG dX5_copy_44 0 rfl ?_
  refine gfX_N_15_2 l E T hG dX5_copy_45 ?_
  refine rx_iconst hG 0 dX5_copy_48 ic_0 ?_
  refine rx_bipush hG 6 dX5_copy_49 bp_6 ?_
  obtain ⟨M5, hM5, hf⟩ := bindE hf
  refine rx_copy hG (skX17 T) (skX4 T) hM5 kw_N_62 ⟨Nat.le_of_ble_eq_true rfl, Nat.le_of_ble_eq_true rfl⟩ dX5_copy_51 ?_
  refine rx_aload_n hG dX5_copy_54 1 rfl ?_
  refine gfX_N_18_15 l E T hG dX5_copy_55 ?_
  refine rx_iconst hG 0 dX5_copy_58 ic_0 ?_
  refine rx_aload_n hG dX5_copy_59 0 rfl ?_
  refine gfX_N_18_2 l E T hG dX5_copy_60 ?_
  refine rx_iconst hG 0 dX5_copy_63 ic_0 ?_
  refine rx_bipush hG 6 dX5_copy_64 bp_6 ?_
  obtain ⟨M6, hM6, hf⟩ := bindE hf
  refine rx_copy hG (skX18 T) (skX5 T) hM6 kw_N_62 ⟨Nat.le_of_ble_eq_true rfl, Nat.le_of_ble_eq_true rfl⟩ dX5_copy_66 ?_
  refine rx_aload_n hG dX5_copy_69 1 rfl ?_
  refine gfX_N_21_15 l E T hG dX5_copy_70 ?_
  refine rx_iconst hG 0 dX5_copy_73 ic_0 ?_
  refine rx_aload_n hG dX5_copy_74 0 rfl ?_
  refine gfX_N_21_2 l E T hG dX5_copy_75 ?_
  refine rx_iconst hG 0 dX5_copy_78 ic_0 ?_
  refine rx_iconst hG 4 dX5_copy_79 ic_4 ?_
  obtain ⟨M7, hM7, hf⟩ := bindE hf
  refine rx_copy hG (skX19 T) (skX6 T) hM7 kw_N_62 ⟨Nat.le_of_ble_eq_true rfl, Nat.le_of_ble_eq_true rfl⟩ dX5_copy_80 ?_
  refine rx_aload_n hG dX5_copy_83 1 rfl ?_
  refine gfX_N_24_15 l E T hG dX5_copy_84 ?_
  refine rx_iconst hG 0 dX5_copy_87 ic_0 ?_
  refine rx_aload_n hG dX5_copy_88 0 rfl ?_
  refine gfX_N_24_2 l E T hG dX5_copy_89 ?_
  refine rx_iconst hG 0 dX5_copy_92 ic_0 ?_
  refine rx_iconst hG 4 dX5_copy_93 ic_4 ?_
  obtain ⟨M8, hM8, hf⟩ := bindE hf
  refine rx_copy hG (skX20 T) (skX7 T) hM8 kw_N_62 ⟨Nat.le_of_ble_eq_true rfl, Nat.le_of_ble_eq_true rfl⟩ dX5_copy_94 ?_
  refine rx_aload_n hG dX5_copy_97 1 rfl ?_
  refine gfX_N_27_15 l E T hG dX5_copy_98 ?_
  refine rx_iconst hG 0 dX5_copy_101 ic_0 ?_
  refine rx_aload_n hG dX5_copy_102 0 rfl ?_
  refine gfX_N_27_2 l E T hG dX5_copy_103 ?_
  refine rx_iconst hG 0 dX5_copy_106 ic_0 ?_
  refine rx_iconst hG 4 dX5_copy_107 ic_4 ?_
  obtain ⟨M9, hM9, hf⟩ := bindE hf
  refine rx_copy hG (skX21 T) (skX8 T) hM9 kw_N_62 ⟨Nat.le_of_ble_eq_true rfl, Nat.le_of_ble_eq_true rfl⟩ dX5_copy_108 ?_
  refine rx_aload_n hG dX5_copy_111 1 rfl ?_
  refine gfX_N_30_15 l E T hG dX5_copy_112 ?_
  refine rx_iconst hG 0 dX5_copy_115 ic_0 ?_
  refine rx_aload_n hG dX5_copy_116 0 rfl ?_
  refine gfX_N_30_2 l E T hG dX5_copy_117 ?_
  refine rx_iconst hG 0 dX5_copy_120 ic_0 ?_
  refine rx_bipush hG 54 dX5_copy_121 bp_54 ?_
  obtain ⟨M10, hM10, hf⟩ := bindE hf
  refine rx_copy hG (skX22 T) (skX9 T) hM10 kw_N_62 ⟨Nat.le_of_ble_eq_true rfl, Nat.le_of_ble_eq_true rfl⟩ dX5_copy_123 ?_
  refine rx_aload_n hG dX5_copy_126 1 rfl ?_
  refine gfX_N_33_15 l E T hG dX5_copy_127 ?_
  refine rx_iconst hG 0 dX5_copy_130 ic_0 ?_
  refine rx_aload_n hG dX5_copy_131 0 rfl ?_
  refine gfX_N_33_2 l E T hG dX5_copy_132 ?_
  refine rx_iconst hG 0 dX5_copy_135 ic_0 ?_
  refine rx_bipush hG 9 dX5_copy_136 bp_9 ?_
  obtain ⟨M11, hM11, hf⟩ := bindE hf
  refine rx_copy hG (skX23 T) (skX10 T) hM11 kw_N_62 ⟨Nat.le_of_ble_eq_true rfl, Nat.le_of_ble_eq_true rfl⟩ dX5_copy_138 ?_
  refine rx_aload_n hG dX5_copy_141 0 rfl ?_
  refine gfX_N_39_2 l E T hG dX5_copy_142 ?_
  refine rx_aload_n hG dX5_copy_145 1 rfl ?_
  refine gfX_N_39_15 l E T hG dX5_copy_146 ?_
  obtain ⟨M12, hM12, hf⟩ := bindE hf
  refine rx_cVv hG (c_V_copy_11_24 l E T  hM12) (skX11 T) rfl rfl kw_N_68 ⟨Nat.le_of_ble_eq_true rfl, Nat.le_of_ble_eq_true rfl⟩ rfl (Nat.le_of_ble_eq_true rfl) dX5_copy_149 ?_
  cases hf
  exact rx_vret hG dX5_copy_152
set_option maxHeartbeats 4000000 in
set_option maxRecDepth 100000 in
theorem c_V_copy_32_11 (l : Launch) (E : En) (T : List Sk)  {M M' : Mm} (h : f_V_copy_32_11 M = some M') : Ct l (SKX ++ T) E yX2_copy cX2_copy 2 none 1 18 [.ref (adr E 32), .ref (adr E 11)] M none M' := by
  refine ct_of (by decide) (Nat.le_of_ble_eq_true rfl) ?_
  intro G hG
  show G 0 [(0, .ref (adr E 32)), (1, .ref (adr E 11))] [] M
  have hf := h
  unfold f_V_copy_32_11 at hf
  refine rx_aload_n hG dX2_copy_0 1 rfl ?_
  refine gfX_V_9_11 l E T hG dX2_copy_1 ?_
  refine rx_iconst hG 0 dX2_copy_4 ic_0 ?_
  refine rx_aload_n hG dX2_copy_5 0 rfl ?_
  refine gfX_V_9_32 l E T hG dX2_copy_6 ?_
  refine rx_iconst hG 0 dX2_copy_9 ic_0 ?_
  refine rx_bipush hG 18 dX2_copy_10 bp_18 ?_
  obtain ⟨M1, hM1, hf⟩ := bindE hf
  refine rx_copy hG (skX12 T) (skX33 T) hM1 kw_V_28 ⟨Nat.le_of_ble_eq_true rfl, Nat.le_of_ble_eq_true rfl⟩ dX2_copy_12 ?_
  refine rx_aload_n hG dX2_copy_15 1 rfl ?_
  refine gfX_V_15_11 l E T hG dX2_copy_16 ?_
  refine rx_iconst hG 0 dX2_copy_19 ic_0 ?_
  refine rx_aload_n hG dX2_copy_20 0 rfl ?_
  refine gfX_V_15_32 l E T hG dX2_copy_21 ?_
  refine rx_iconst hG 0 dX2_copy_24 ic_0 ?_
  refine rx_bipush hG 18 dX2_copy_25 bp_18 ?_
  obtain ⟨M2, hM2, hf⟩ := bindE hf
  refine rx_copy hG (skX13 T) (skX34 T) hM2 kw_V_28 ⟨Nat.le_of_ble_eq_true rfl, Nat.le_of_ble_eq_true rfl⟩ dX2_copy_27 ?_
  refine rx_aload_n hG dX2_copy_30 0 rfl ?_
  refine rx_aload_n hG dX2_copy_31 1 rfl ?_
  refine gfX_V_24_11 l E T hG dX2_copy_32 ?_
  obtain ⟨M3, hM3, hf⟩ := bindE hf
  refine pfX_V_24_32 l E T hG hM3 dX2_copy_35 ?_
  cases hf
  exact rx_vret hG dX2_copy_38
set_option maxHeartbeats 4000000 in
set_option maxRecDepth 100000 in
theorem Lblp_L_waresIn_35_4 (l : Launch) (E : En) (T : List Sk) {a0 b0 kc ks : Nat} {r : Int32} {M : Mm} {G : Nat → List (Nat × Value) → List Value → Mm → Prop} (hG : RX l (SKX ++ T) E RX3 cX3_waresIn 4 (some .int) { frames := 1, cells := a0, slots := b0, locals := 21 } kc ks (some (.int r)) M G) (rc4 : Int32 → Int32 → Int32 → Mm → Option Int32) (hrc4 : ∀ (x1 : Int32) (x2 : Int32) (x3 : Int32), rc4 x1 x2 x3 M = some r → G 4 [(0, .ref (adr E 35)), (1, .int x1), (2, .int x2), (3, .int x3)] [] M) : ∀ (x1 : Int32) (x2 : Int32) (x3 : Int32), blp_L_waresIn_35_4 rc4 x1 x2 x3 M = some r → G 4 [(0, .ref (adr E 35)), (1, .int x1), (2, .int x2), (3, .int x3)] [] M := by
  intro x1 x2 x3 hf
  unfold blp_L_waresIn_35_4 at hf
  refine rx_iload_n hG dX3_waresIn_4 3 rfl ?_
  refine rx_aload_n hG dX3_waresIn_5 0 rfl ?_
  refine gfX_L_48_35 l E T hG dX3_waresIn_6 ?_
  refine gfX_L_138_2 l E T hG dX3_waresIn_9 ?_
  refine rx_icmp_ge hG 34 dX3_waresIn_12 rfl (fun c1 => ?_) (fun c1 => ?_)
  · have hf := ifT hf c1
    refine rx_iload_n hG dX3_waresIn_34 2 rfl ?_
    cases hf
    exact rx_iret hG dX3_waresIn_35
  · have hf := ifF hf c1
    refine rx_iload_n hG dX3_waresIn_15 2 rfl ?_
    refine rx_aload_n hG dX3_waresIn_16 0 rfl ?_
    refine gfX_L_9_35 l E T hG dX3_waresIn_17 ?_
    refine rx_iload_n hG dX3_waresIn_20 1 rfl ?_
    refine rx_iload_n hG dX3_waresIn_21 3 rfl ?_
    obtain ⟨v2, hv2, hf⟩ := bindE hf
    refine rx_cNi hG (c_P_cell l E (SKX ++ T) x1 x3 hv2) kw_L_151 ⟨Nat.le_of_ble_eq_true rfl, Nat.le_of_ble_eq_true rfl⟩ rfl (Nat.le_of_ble_eq_true rfl) dX3_waresIn_22 ?_
    obtain ⟨v3, hv3, hf⟩ := bindE hf
    refine rx_iald hG (skX36 T) hv3 dX3_waresIn_25 ?_
    refine rx_iadd hG dX3_waresIn_26 ?_
    refine rx_istore_n (lv2 := [(2, .int (x2 + v3)), (0, .ref (adr E 35)), (1, .int x1), (3, .int x3)]) hG dX3_waresIn_27 (Nat.le_of_ble_eq_true rfl) rfl ?_
    refine rx_iinc (lv2 := [(3, .int (x3 + 1)), (2, .int (x2 + v3)), (0, .ref (adr E 35)), (1, .int x1)]) hG 1 dX3_waresIn_28 ic_1 3 rfl (Nat.le_of_ble_eq_true rfl) rfl ?_
    refine rx_goto hG 4 dX3_waresIn_31 rfl ?_
    refine rx_sub hG [2, 3, 1, 0] (lv' := [(0, .ref (adr E 35)), (1, .int x1), (2, .int (x2 + v3)), (3, .int (x3 + 1))]) rfl ?_
    exact hrc4 x1 (x2 + v3) (x3 + 1) hf
theorem Llp_L_waresIn_35_4 (l : Launch) (E : En) (T : List Sk) {a0 b0 kc ks : Nat} {r : Int32} {M : Mm} {G : Nat → List (Nat × Value) → List Value → Mm → Prop} (hG : RX l (SKX ++ T) E RX3 cX3_waresIn 4 (some .int) { frames := 1, cells := a0, slots := b0, locals := 21 } kc ks (some (.int r)) M G)  : ∀ (n : Nat) (x1 : Int32) (x2 : Int32) (x3 : Int32), lp_L_waresIn_35_4  n x1 x2 x3 M = some r → G 4 [(0, .ref (adr E 35)), (1, .int x1), (2, .int x2), (3, .int x3)] [] M := by
  intro n
  induction n with
  | zero => intro x1 x2 x3 hf; cases hf
  | succ n ih => intro x1 x2 x3 hf; exact Lblp_L_waresIn_35_4 l E T hG  (lp_L_waresIn_35_4  n) ih x1 x2 x3 hf
set_option maxHeartbeats 4000000 in
set_option maxRecDepth 100000 in
theorem c_L_waresIn_35 (l : Launch) (E : En) (T : List Sk) (p0 : Int32) {M : Mm} {r : Int32} (h : f_L_waresIn_35 p0 M = some r) : Ct l (SKX ++ T) E yX3_waresIn cX3_waresIn 4 (some .int) 1 21 [.ref (adr E 35), .int p0] M (some (.int r)) M := by
  refine ct_of (by decide) (Nat.le_of_ble_eq_true rfl) ?_
  intro G hG
  show G 0 [(0, .ref (adr E 35)), (1, .int p0)] [] M
  have hf := h
  unfold f_L_waresIn_35 at hf
  refine rx_iconst hG 0 dX3_waresIn_0 ic_0 ?_
  refine rx_istore_n (lv2 := [(2, .int 0), (0, .ref (adr E 35)), (1, .int p0)]) hG dX3_waresIn_1 (Nat.le_of_ble_eq_true rfl) rfl ?_
  refine rx_iconst hG 0 dX3_waresIn_2 ic_0 ?_
  refine rx_istore_n (lv2 := [(3, .int 0), (2, .int 0), (0, .ref (adr E 35)), (1, .int p0)]) hG dX3_waresIn_3 (Nat.le_of_ble_eq_true rfl) rfl ?_
  refine rx_sub hG [2, 3, 1, 0] (lv' := [(0, .ref (adr E 35)), (1, .int p0), (2, .int 0), (3, .int 0)]) rfl ?_
  exact Llp_L_waresIn_35_4 l E T hG  FW p0 0 0 hf
set_option maxHeartbeats 4000000 in
set_option maxRecDepth 100000 in
theorem Lblp_L_raisePeaks_35_2 (l : Launch) (E : En) (T : List Sk) {a0 b0 kc ks : Nat} {M' : Mm} {G : Nat → List (Nat × Value) → List Value → Mm → Prop} (hG : RX l (SKX ++ T) E RX3 cX3_raisePeaks 2 none { frames := 2, cells := a0, slots := b0, locals := 44 } kc ks none M' G) (rc2 : Int32 → Mm → Option Mm) (hrc2 : ∀ (x1 : Int32) (M : Mm), rc2 x1 M = some M' → G 2 [(0, .ref (adr E 35)), (1, .int x1)] [] M) : ∀ (x1 : Int32) (M : Mm), blp_L_raisePeaks_35_2 rc2 x1 M = some M' → G 2 [(0, .ref (adr E 35)), (1, .int x1)] [] M := by
  intro x1 M hf
  unfold blp_L_raisePeaks_35_2 at hf
  refine rx_iload_n hG dX3_raisePeaks_2 1 rfl ?_
  refine rx_aload_n hG dX3_raisePeaks_3 0 rfl ?_
  refine gfX_L_48_35 l E T hG dX3_raisePeaks_4 ?_
  refine gfX_L_102_2 l E T hG dX3_raisePeaks_7 ?_
  refine rx_icmp_ge hG 39 dX3_raisePeaks_10 rfl (fun c1 => ?_) (fun c1 => ?_)
  · have hf := ifT hf c1
    cases hf
    exact rx_vret hG dX3_raisePeaks_39
  · have hf := ifF hf c1
    refine rx_aload_n hG dX3_raisePeaks_13 0 rfl ?_
    refine gfX_L_33_35 l E T hG dX3_raisePeaks_14 ?_
    refine rx_iload_n hG dX3_raisePeaks_17 1 rfl ?_
    refine rx_aload_n hG dX3_raisePeaks_18 0 rfl ?_
    refine gfX_L_33_35 l E T hG dX3_raisePeaks_19 ?_
    refine rx_iload_n hG dX3_raisePeaks_22 1 rfl ?_
    obtain ⟨v2, hv2, hf⟩ := bindE hf
    refine rx_iald hG (skX43 T) hv2 dX3_raisePeaks_23 ?_
    refine rx_aload_n hG dX3_raisePeaks_24 0 rfl ?_
    refine rx_iload_n hG dX3_raisePeaks_25 1 rfl ?_
    obtain ⟨v3, hv3, hf⟩ := bindE hf
    refine rx_cVi hG (c_L_waresIn_35 l E T x1 hv3) (skX35 T) rfl rfl kw_L_181 ⟨Nat.le_of_ble_eq_true rfl, Nat.le_of_ble_eq_true rfl⟩ rfl (Nat.le_of_ble_eq_true rfl) dX3_raisePeaks_26 ?_
    refine rx_max hG kw_L_119 ⟨Nat.le_of_ble_eq_true rfl, Nat.le_of_ble_eq_true rfl⟩ dX3_raisePeaks_29 ?_
    obtain ⟨M4, hM4, hf⟩ := bindE hf
    refine rx_iast hG (skX43 T) hM4 dX3_raisePeaks_32 ?_
    refine rx_iinc (lv2 := [(1, .int (x1 + 1)), (0, .ref (adr E 35))]) hG 1 dX3_raisePeaks_33 ic_1 1 rfl (Nat.le_of_ble_eq_true rfl) rfl ?_
    refine rx_goto hG 2 dX3_raisePeaks_36 rfl ?_
    refine rx_sub hG [1, 0] (lv' := [(0, .ref (adr E 35)), (1, .int (x1 + 1))]) rfl ?_
    exact hrc2 (x1 + 1) M4 hf
theorem Llp_L_raisePeaks_35_2 (l : Launch) (E : En) (T : List Sk) {a0 b0 kc ks : Nat} {M' : Mm} {G : Nat → List (Nat × Value) → List Value → Mm → Prop} (hG : RX l (SKX ++ T) E RX3 cX3_raisePeaks 2 none { frames := 2, cells := a0, slots := b0, locals := 44 } kc ks none M' G)  : ∀ (n : Nat) (x1 : Int32) (M : Mm), lp_L_raisePeaks_35_2  n x1 M = some M' → G 2 [(0, .ref (adr E 35)), (1, .int x1)] [] M := by
  intro n
  induction n with
  | zero => intro x1 M hf; cases hf
  | succ n ih => intro x1 M hf; exact Lblp_L_raisePeaks_35_2 l E T hG  (lp_L_raisePeaks_35_2  n) ih x1 M hf
set_option maxHeartbeats 4000000 in
set_option maxRecDepth 100000 in
theorem c_L_raisePeaks_35 (l : Launch) (E : En) (T : List Sk)  {M M' : Mm} (h : f_L_raisePeaks_35 M = some M') : Ct l (SKX ++ T) E yX3_raisePeaks cX3_raisePeaks 2 none 2 44 [.ref (adr E 35)] M none M' := by
  refine ct_of (by decide) (Nat.le_of_ble_eq_true rfl) ?_
  intro G hG
  show G 0 [(0, .ref (adr E 35))] [] M
  have hf := h
  unfold f_L_raisePeaks_35 at hf
  refine rx_iconst hG 0 dX3_raisePeaks_0 ic_0 ?_
  refine rx_istore_n (lv2 := [(1, .int 0), (0, .ref (adr E 35))]) hG dX3_raisePeaks_1 (Nat.le_of_ble_eq_true rfl) rfl ?_
  refine rx_sub hG [1, 0] (lv' := [(0, .ref (adr E 35)), (1, .int 0)]) rfl ?_
  exact Llp_L_raisePeaks_35_2 l E T hG  FW 0 M hf
set_option maxHeartbeats 4000000 in
set_option maxRecDepth 100000 in
theorem Lj_L_start_35_56 (l : Launch) (E : En) (T : List Sk) {a0 b0 kc ks : Nat} {M' : Mm} {G : Nat → List (Nat × Value) → List Value → Mm → Prop} (hG : RX l (SKX ++ T) E RX3 cX3_start 2 none { frames := 3, cells := a0, slots := b0, locals := 65 } kc ks none M' G)  : ∀  (M : Mm), j_L_start_35_56  M = some M' → G 56 [(0, .ref (adr E 35))] [] M := by
  intro M hf
  unfold j_L_start_35_56 at hf
  refine rx_aload_n hG dX3_start_56 0 rfl ?_
  refine gfX_L_18_35 l E T hG dX3_start_57 ?_
  refine rx_iconst hG 0 dX3_start_60 ic_0 ?_
  obtain ⟨M1, hM1, hf⟩ := bindE hf
  refine rx_cSv hG (c_fill l E _ (skX38 T) (Nat.le_of_ble_eq_true rfl) 0 hM1) kw_L_56 ⟨Nat.le_of_ble_eq_true rfl, Nat.le_of_ble_eq_true rfl⟩ rfl (Nat.le_of_ble_eq_true rfl) dX3_start_61 ?_
  refine rx_aload_n hG dX3_start_64 0 rfl ?_
  refine gfX_L_21_35 l E T hG dX3_start_65 ?_
  refine rx_bipush hG (-2) dX3_start_68 bp_m2 ?_
  obtain ⟨M2, hM2, hf⟩ := bindE hf
  refine rx_cSv hG (c_fill l E _ (skX39 T) (Nat.le_of_ble_eq_true rfl) (-2) hM2) kw_L_56 ⟨Nat.le_of_ble_eq_true rfl, Nat.le_of_ble_eq_true rfl⟩ rfl (Nat.le_of_ble_eq_true rfl) dX3_start_70 ?_
  refine rx_aload_n hG dX3_start_73 0 rfl ?_
  refine gfX_L_24_35 l E T hG dX3_start_74 ?_
  refine rx_iconst hG 0 dX3_start_77 ic_0 ?_
  obtain ⟨M3, hM3, hf⟩ := bindE hf
  refine rx_cSv hG (c_fill l E _ (skX40 T) (Nat.le_of_ble_eq_true rfl) 0 hM3) kw_L_56 ⟨Nat.le_of_ble_eq_true rfl, Nat.le_of_ble_eq_true rfl⟩ rfl (Nat.le_of_ble_eq_true rfl) dX3_start_78 ?_
  refine rx_aload_n hG dX3_start_81 0 rfl ?_
  refine gfX_L_27_35 l E T hG dX3_start_82 ?_
  refine rx_iconst hG 0 dX3_start_85 ic_0 ?_
  obtain ⟨M4, hM4, hf⟩ := bindE hf
  refine rx_cSv hG (c_fill l E _ (skX41 T) (Nat.le_of_ble_eq_true rfl) 0 hM4) kw_L_56 ⟨Nat.le_of_ble_eq_true rfl, Nat.le_of_ble_eq_true rfl⟩ rfl (Nat.le_of_ble_eq_true rfl) dX3_start_86 ?_
  refine rx_aload_n hG dX3_start_89 0 rfl ?_
  refine gfX_L_30_35 l E T hG dX3_start_90 ?_
  refine rx_iconst hG 0 dX3_start_93 ic_0 ?_
  obtain ⟨M5, hM5, hf⟩ := bindE hf
  refine rx_cSv hG (c_fill l E _ (skX42 T) (Nat.le_of_ble_eq_true rfl) 0 hM5) kw_L_56 ⟨Nat.le_of_ble_eq_true rfl, Nat.le_of_ble_eq_true rfl⟩ rfl (Nat.le_of_ble_eq_true rfl) dX3_start_94 ?_
  refine rx_aload_n hG dX3_start_97 0 rfl ?_
  refine gfX_L_33_35 l E T hG dX3_start_98 ?_
  refine rx_iconst hG 0 dX3_start_101 ic_0 ?_
  obtain ⟨M6, hM6, hf⟩ := bindE hf
  refine rx_cSv hG (c_fill l E _ (skX43 T) (Nat.le_of_ble_eq_true rfl) 0 hM6) kw_L_56 ⟨Nat.le_of_ble_eq_true rfl, Nat.le_of_ble_eq_true rfl⟩ rfl (Nat.le_of_ble_eq_true rfl) dX3_start_102 ?_
  refine rx_aload_n hG dX3_start_105 0 rfl ?_
  refine gfX_L_36_35 l E T hG dX3_start_106 ?_
  refine rx_iconst hG 0 dX3_start_109 ic_0 ?_
  obtain ⟨M7, hM7, hf⟩ := bindE hf
  refine rx_cSv hG (c_fill l E _ (skX44 T) (Nat.le_of_ble_eq_true rfl) 0 hM7) kw_L_56 ⟨Nat.le_of_ble_eq_true rfl, Nat.le_of_ble_eq_true rfl⟩ rfl (Nat.le_of_ble_eq_true rfl) dX3_start_110 ?_
  refine rx_aload_n hG dX3_start_113 0 rfl ?_
  refine gfX_L_39_35 l E T hG dX3_start_114 ?_
  refine rx_iconst hG 0 dX3_start_117 ic_0 ?_
  obtain ⟨M8, hM8, hf⟩ := bindE hf
  refine rx_cSv hG (c_fill l E _ (skX45 T) (Nat.le_of_ble_eq_true rfl) 0 hM8) kw_L_56 ⟨Nat.le_of_ble_eq_true rfl, Nat.le_of_ble_eq_true rfl⟩ rfl (Nat.le_of_ble_eq_true rfl) dX3_start_118 ?_
  refine rx_aload_n hG dX3_start_121 0 rfl ?_
  refine gfX_L_42_35 l E T hG dX3_start_122 ?_
  refine rx_iconst hG 0 dX3_start_125 ic_0 ?_
  obtain ⟨M9, hM9, hf⟩ := bindE hf
  refine rx_cSv hG (c_fill l E _ (skX46 T) (Nat.le_of_ble_eq_true rfl) 0 hM9) kw_L_56 ⟨Nat.le_of_ble_eq_true rfl, Nat.le_of_ble_eq_true rfl⟩ rfl (Nat.le_of_ble_eq_true rfl) dX3_start_126 ?_
  refine rx_aload_n hG dX3_start_129 0 rfl ?_
  refine gfX_L_45_35 l E T hG dX3_start_130 ?_
  refine rx_bipush hG (-2) dX3_start_133 bp_m2 ?_
  obtain ⟨M10, hM10, hf⟩ := bindE hf
  refine rx_cSv hG (c_fill l E _ (skX47 T) (Nat.le_of_ble_eq_true rfl) (-2) hM10) kw_L_56 ⟨Nat.le_of_ble_eq_true rfl, Nat.le_of_ble_eq_true rfl⟩ rfl (Nat.le_of_ble_eq_true rfl) dX3_start_135 ?_
  refine rx_aload_n hG dX3_start_138 0 rfl ?_
  refine rx_iconst hG 0 dX3_start_139 ic_0 ?_
  obtain ⟨M11, hM11, hf⟩ := bindE hf
  refine pfX_L_73_35 l E T hG hM11 dX3_start_140 ?_
  refine rx_aload_n hG dX3_start_143 0 rfl ?_
  refine rx_iconst hG 0 dX3_start_144 ic_0 ?_
  obtain ⟨M12, hM12, hf⟩ := bindE hf
  refine pfX_L_77_35 l E T hG hM12 dX3_start_145 ?_
  refine rx_aload_n hG dX3_start_148 0 rfl ?_
  refine rx_bipush hG (-2) dX3_start_149 bp_m2 ?_
  obtain ⟨M13, hM13, hf⟩ := bindE hf
  refine pfX_L_80_35 l E T hG hM13 dX3_start_151 ?_
  refine rx_aload_n hG dX3_start_154 0 rfl ?_
  refine rx_bipush hG (-2) dX3_start_155 bp_m2 ?_
  obtain ⟨M14, hM14, hf⟩ := bindE hf
  refine pfX_L_83_35 l E T hG hM14 dX3_start_157 ?_
  refine rx_aload_n hG dX3_start_160 0 rfl ?_
  obtain ⟨M15, hM15, hf⟩ := bindE hf
  refine rx_cVv hG (c_L_raisePeaks_35 l E T  hM15) (skX35 T) rfl rfl kw_L_86 ⟨Nat.le_of_ble_eq_true rfl, Nat.le_of_ble_eq_true rfl⟩ rfl (Nat.le_of_ble_eq_true rfl) dX3_start_161 ?_
  cases hf
  exact rx_vret hG dX3_start_164
set_option maxHeartbeats 4000000 in
set_option maxRecDepth 100000 in
theorem c_L_start_35 (l : Launch) (E : En) (T : List Sk) (p0 : Int32) {M M' : Mm} (h : f_L_start_35 p0 M = some M') : Ct l (SKX ++ T) E yX3_start cX3_start 2 none 3 65 [.ref (adr E 35), .int p0] M none M' := by
  refine ct_of (by decide) (Nat.le_of_ble_eq_true rfl) ?_
  intro G hG
  show G 0 [(0, .ref (adr E 35)), (1, .int p0)] [] M
  have hf := h
  unfold f_L_start_35 at hf
  refine rx_aload_n hG dX3_start_0 0 rfl ?_
  refine gfX_L_9_35 l E T hG dX3_start_1 ?_
  refine rx_iconst hG 0 dX3_start_4 ic_0 ?_
  obtain ⟨M1, hM1, hf⟩ := bindE hf
  refine rx_cSv hG (c_fill l E _ (skX36 T) (Nat.le_of_ble_eq_true rfl) 0 hM1) kw_L_56 ⟨Nat.le_of_ble_eq_true rfl, Nat.le_of_ble_eq_true rfl⟩ rfl (Nat.le_of_ble_eq_true rfl) dX3_start_5 ?_
  refine rx_aload_n hG dX3_start_8 0 rfl ?_
  refine gfX_L_15_35 l E T hG dX3_start_9 ?_
  refine rx_iconst hG 0 dX3_start_12 ic_0 ?_
  obtain ⟨M2, hM2, hf⟩ := bindE hf
  refine rx_cSv hG (c_fill l E _ (skX37 T) (Nat.le_of_ble_eq_true rfl) 0 hM2) kw_L_56 ⟨Nat.le_of_ble_eq_true rfl, Nat.le_of_ble_eq_true rfl⟩ rfl (Nat.le_of_ble_eq_true rfl) dX3_start_13 ?_
  refine rx_iload_n hG dX3_start_16 1 rfl ?_
  refine rx_if_eq hG 56 dX3_start_17 rfl (fun c3 => ?_) (fun c3 => ?_)
  · have hf := ifT hf c3
    refine rx_sub hG [0] (lv' := [(0, .ref (adr E 35))]) rfl ?_
    exact Lj_L_start_35_56 l E T hG  M2 hf
  · have hf := ifF hf c3
    refine rx_aload_n hG dX3_start_20 0 rfl ?_
    refine gfX_L_52_35 l E T hG dX3_start_21 ?_
    refine gfX_L_62_32 l E T hG dX3_start_24 ?_
    refine rx_iconst hG 0 dX3_start_27 ic_0 ?_
    refine rx_aload_n hG dX3_start_28 0 rfl ?_
    refine gfX_L_9_35 l E T hG dX3_start_29 ?_
    refine rx_iconst hG 0 dX3_start_32 ic_0 ?_
    refine rx_bipush hG 18 dX3_start_33 bp_18 ?_
    obtain ⟨M4, hM4, hf⟩ := bindE hf
    refine rx_copy hG (skX33 T) (skX36 T) hM4 kw_L_67 ⟨Nat.le_of_ble_eq_true rfl, Nat.le_of_ble_eq_true rfl⟩ dX3_start_35 ?_
    refine rx_aload_n hG dX3_start_38 0 rfl ?_
    refine gfX_L_52_35 l E T hG dX3_start_39 ?_
    refine gfX_L_62_32 l E T hG dX3_start_42 ?_
    refine rx_iconst hG 0 dX3_start_45 ic_0 ?_
    refine rx_aload_n hG dX3_start_46 0 rfl ?_
    refine gfX_L_15_35 l E T hG dX3_start_47 ?_
    refine rx_iconst hG 0 dX3_start_50 ic_0 ?_
    refine rx_bipush hG 18 dX3_start_51 bp_18 ?_
    obtain ⟨M5, hM5, hf⟩ := bindE hf
    refine rx_copy hG (skX33 T) (skX37 T) hM5 kw_L_67 ⟨Nat.le_of_ble_eq_true rfl, Nat.le_of_ble_eq_true rfl⟩ dX3_start_53 ?_
    refine rx_sub hG [0] (lv' := [(0, .ref (adr E 35))]) rfl ?_
    exact Lj_L_start_35_56 l E T hG  M5 hf

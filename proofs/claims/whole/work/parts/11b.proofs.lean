set_option maxHeartbeats 4000000 in
set_option maxRecDepth 100000 in
theorem Lblp_P_forget_0_10 (l : Launch) (E : En) (T : List Sk) {a0 b0 kc ks : Nat} {M' : Mm} {G : Nat → List (Nat × Value) → List Value → Mm → Prop} (hG : RX l (SKX ++ T) E RX9 cX9_forget 2 none { frames := 0, cells := a0, slots := b0, locals := 0 } kc ks none M' G) (rc10 : Int32 → Mm → Option Mm) (hrc10 : ∀ (x1 : Int32) (M : Mm), rc10 x1 M = some M' → G 10 [(0, .ref (adr E 0)), (1, .int x1)] [] M) : ∀ (x1 : Int32) (M : Mm), blp_P_forget_0_10 rc10 x1 M = some M' → G 10 [(0, .ref (adr E 0)), (1, .int x1)] [] M := by
  intro x1 M hf
  unfold blp_P_forget_0_10 at hf
  refine rx_iload_n hG dX9_forget_10 1 rfl ?_
  refine rx_iconst hG 2 dX9_forget_11 ic_2 ?_
  refine rx_icmp_ge hG 31 dX9_forget_12 rfl (fun c1 => ?_) (fun c1 => ?_)
  · have hf := ifT hf c1
    cases hf
    exact rx_vret hG dX9_forget_31
  · have hf := ifF hf c1
    refine rx_aload_n hG dX9_forget_15 0 rfl ?_
    refine gfX_P_61_0 l E T hG dX9_forget_16 ?_
    refine rx_iload_n hG dX9_forget_19 1 rfl ?_
    by_cases c2 : x1 = 0
    · have hf := ifT hf c2
      refine rx_aald (p := 69) hG (skX68 T) (by rw [c2]; decide) (by rw [c2]; rfl) dX9_forget_20 ?_
      refine rx_iconst hG 0 dX9_forget_21 ic_0 ?_
      obtain ⟨M3, hM3, hf⟩ := bindE hf
      refine pfX_P_122_69 l E T hG hM3 (Or.inl rfl) dX9_forget_22 ?_
      refine rx_iinc (lv2 := [(1, .int (x1 + 1)), (0, .ref (adr E 0))]) hG 1 dX9_forget_25 ic_1 1 rfl (Nat.le_of_ble_eq_true rfl) rfl ?_
      refine rx_goto hG 10 dX9_forget_28 rfl ?_
      refine rx_sub hG [1, 0] (lv' := [(0, .ref (adr E 0)), (1, .int (x1 + 1))]) rfl ?_
      exact hrc10 (x1 + 1) M3 hf
    have hf := ifF hf c2
    by_cases c4 : x1 = 1
    · have hf := ifT hf c4
      refine rx_aald (p := 86) hG (skX68 T) (by rw [c4]; decide) (by rw [c4]; rfl) dX9_forget_20 ?_
      refine rx_iconst hG 0 dX9_forget_21 ic_0 ?_
      obtain ⟨M5, hM5, hf⟩ := bindE hf
      refine pfX_P_122_86 l E T hG hM5 (Or.inl rfl) dX9_forget_22 ?_
      refine rx_iinc (lv2 := [(1, .int (x1 + 1)), (0, .ref (adr E 0))]) hG 1 dX9_forget_25 ic_1 1 rfl (Nat.le_of_ble_eq_true rfl) rfl ?_
      refine rx_goto hG 10 dX9_forget_28 rfl ?_
      refine rx_sub hG [1, 0] (lv' := [(0, .ref (adr E 0)), (1, .int (x1 + 1))]) rfl ?_
      exact hrc10 (x1 + 1) M5 hf
    have hf := ifF hf c4
    cases hf
theorem Llp_P_forget_0_10 (l : Launch) (E : En) (T : List Sk) {a0 b0 kc ks : Nat} {M' : Mm} {G : Nat → List (Nat × Value) → List Value → Mm → Prop} (hG : RX l (SKX ++ T) E RX9 cX9_forget 2 none { frames := 0, cells := a0, slots := b0, locals := 0 } kc ks none M' G)  : ∀ (n : Nat) (x1 : Int32) (M : Mm), lp_P_forget_0_10  n x1 M = some M' → G 10 [(0, .ref (adr E 0)), (1, .int x1)] [] M := by
  intro n
  induction n with
  | zero => intro x1 M hf; cases hf
  | succ n ih => intro x1 M hf; exact Lblp_P_forget_0_10 l E T hG  (lp_P_forget_0_10  n) ih x1 M hf
set_option maxHeartbeats 4000000 in
set_option maxRecDepth 100000 in
theorem c_P_forget_0 (l : Launch) (E : En) (T : List Sk)  {M M' : Mm} (h : f_P_forget_0 M = some M') : Ct l (SKX ++ T) E yX9_forget cX9_forget 2 none 0 0 [.ref (adr E 0)] M none M' := by
  refine ct_of (by decide) (Nat.le_of_ble_eq_true rfl) ?_
  intro G hG
  show G 0 [(0, .ref (adr E 0))] [] M
  have hf := h
  unfold f_P_forget_0 at hf
  refine rx_aload_n hG dX9_forget_0 0 rfl ?_
  refine gfX_P_55_0 l E T hG dX9_forget_1 ?_
  refine rx_iconst hG 0 dX9_forget_4 ic_0 ?_
  obtain ⟨M1, hM1, hf⟩ := bindE hf
  refine pfX_P_119_65 l E T hG hM1 dX9_forget_5 ?_
  refine rx_iconst hG 0 dX9_forget_8 ic_0 ?_
  refine rx_istore_n (lv2 := [(1, .int 0), (0, .ref (adr E 0))]) hG dX9_forget_9 (Nat.le_of_ble_eq_true rfl) rfl ?_
  refine rx_sub hG [1, 0] (lv' := [(0, .ref (adr E 0)), (1, .int 0)]) rfl ?_
  exact Llp_P_forget_0_10 l E T hG  FW 0 M1 hf
set_option maxHeartbeats 4000000 in
set_option maxRecDepth 100000 in
theorem c_P_granted_0 (l : Launch) (E : En) (T : List Sk) (p0 : Int32) {M M' : Mm} {r : Int32} (h : f_P_granted_0 p0 M = some (r, M')) : Ct l (SKX ++ T) E yX9_granted cX9_granted 2 (some .int) 0 0 [.ref (adr E 0), .int p0] M (some (.int r)) M' := by
  refine ct_of (by decide) (Nat.le_of_ble_eq_true rfl) ?_
  intro G hG
  show G 0 [(0, .ref (adr E 0)), (1, .int p0)] [] M
  have hf := h
  unfold f_P_granted_0 at hf
  refine rx_aload_n hG dX9_granted_0 0 rfl ?_
  refine rx_iconst hG 0 dX9_granted_1 ic_0 ?_
  obtain ⟨M1, hM1, hf⟩ := bindE hf
  refine pfX_P_125_0 l E T hG hM1 dX9_granted_2 ?_
  refine rx_aload_n hG dX9_granted_5 0 rfl ?_
  refine rx_iconst hG (-1) dX9_granted_6 ic_m1 ?_
  obtain ⟨M2, hM2, hf⟩ := bindE hf
  refine pfX_P_68_0 l E T hG hM2 dX9_granted_7 ?_
  refine rx_iload_n hG dX9_granted_10 1 rfl ?_
  cases hf
  exact rx_iret hG dX9_granted_11
set_option maxHeartbeats 4000000 in
set_option maxRecDepth 100000 in
theorem c_R_placeReached_14 (l : Launch) (E : En) (T : List Sk)  {M : Mm} {r : Int32} (h : f_R_placeReached_14 M = some r) : Ct l (SKX ++ T) E yX6_placeReached cX6_placeReached 1 (some .int) 0 0 [.ref (adr E 14)] M (some (.int r)) M := by
  refine ct_of (by decide) (Nat.le_of_ble_eq_true rfl) ?_
  intro G hG
  show G 0 [(0, .ref (adr E 14))] [] M
  have hf := h
  unfold f_R_placeReached_14 at hf
  refine rx_aload_n hG dX6_placeReached_0 0 rfl ?_
  refine gfX_R_23_14 l E T hG dX6_placeReached_1 ?_
  refine gfX_R_65_27 l E T hG dX6_placeReached_4 ?_
  refine rx_aload_n hG dX6_placeReached_7 0 rfl ?_
  refine gfX_R_31_14 l E T hG dX6_placeReached_8 ?_
  obtain ⟨v1, hv1, hf⟩ := bindE hf
  refine rx_iald hG (skX29 T) hv1 dX6_placeReached_11 ?_
  cases hf
  exact rx_iret hG dX6_placeReached_12
set_option maxHeartbeats 4000000 in
set_option maxRecDepth 100000 in
theorem c_P_text_0 (l : Launch) (E : En) (T : List Sk) (p0 : Int32) {M M' : Mm} {r : Int32} (h : f_P_text_0 p0 M = some (r, M')) : Ct l (SKX ++ T) E yX9_text cX9_text 2 (some .int) 9 201 [.ref (adr E 0), .int p0] M (some (.int r)) M' := by
  refine ct_of (by decide) (Nat.le_of_ble_eq_true rfl) ?_
  intro G hG
  show G 0 [(0, .ref (adr E 0)), (1, .int p0)] [] M
  have hf := h
  unfold f_P_text_0 at hf
  refine rx_iload_n hG dX9_text_0 1 rfl ?_
  refine rx_if_lt hG 12 dX9_text_1 rfl (fun c1 => ?_) (fun c1 => ?_)
  · have hf := ifT hf c1
    refine rx_aload_n hG dX9_text_12 0 rfl ?_
    refine rx_iconst hG 2 dX9_text_13 ic_2 ?_
    obtain ⟨q2, hq2, hf⟩ := bindE hf
    refine rx_cVi hG (c_P_refused_0 l E T 2 hq2) (skX0 T) rfl rfl kw_P_79 ⟨Nat.le_of_ble_eq_true rfl, Nat.le_of_ble_eq_true rfl⟩ rfl (Nat.le_of_ble_eq_true rfl) dX9_text_14 ?_
    cases hf
    exact rx_iret hG dX9_text_17
  · have hf := ifF hf c1
    refine rx_iload_n hG dX9_text_4 1 rfl ?_
    refine rx_aload_n hG dX9_text_5 0 rfl ?_
    refine gfX_P_72_0 l E T hG dX9_text_6 ?_
    refine rx_icmp_le hG 18 dX9_text_9 rfl (fun c3 => ?_) (fun c3 => ?_)
    · have hf := ifT hf c3
      refine rx_aload_n hG dX9_text_18 0 rfl ?_
      refine rx_iconst hG 0 dX9_text_19 ic_0 ?_
      obtain ⟨M4, hM4, hf⟩ := bindE hf
      refine pfX_P_72_0 l E T hG hM4 dX9_text_20 ?_
      refine rx_aload_n hG dX9_text_23 0 rfl ?_
      refine rx_aload_n hG dX9_text_24 0 rfl ?_
      refine gfX_P_25_0 l E T hG dX9_text_25 ?_
      refine rx_iload_n hG dX9_text_28 1 rfl ?_
      obtain ⟨q5, hq5, hf⟩ := bindE hf
      refine rx_cVi hG (c_R_read_14 l E T p0 hq5) (skX14 T) rfl rfl kw_P_83 ⟨Nat.le_of_ble_eq_true rfl, Nat.le_of_ble_eq_true rfl⟩ rfl (Nat.le_of_ble_eq_true rfl) dX9_text_29 ?_
      obtain ⟨M6, hM6, hf⟩ := bindE hf
      refine pfX_P_86_0 l E T hG hM6 dX9_text_32 ?_
      refine rx_aload_n hG dX9_text_35 0 rfl ?_
      refine gfX_P_86_0 l E T hG dX9_text_36 ?_
      refine rx_if_eq hG 61 dX9_text_39 rfl (fun c7 => ?_) (fun c7 => ?_)
      · have hf := ifT hf c7
        refine rx_aload_n hG dX9_text_61 0 rfl ?_
        refine gfX_P_16_0 l E T hG dX9_text_62 ?_
        refine rx_aload_n hG dX9_text_65 0 rfl ?_
        refine gfX_P_25_0 l E T hG dX9_text_66 ?_
        refine gfX_P_93_14 l E T hG dX9_text_69 ?_
        obtain ⟨M8, hM8, hf⟩ := bindE hf
        refine rx_cVv hG (c_N_copy_2_15 l E T  hM8) (skX2 T) rfl rfl kw_P_94 ⟨Nat.le_of_ble_eq_true rfl, Nat.le_of_ble_eq_true rfl⟩ rfl (Nat.le_of_ble_eq_true rfl) dX9_text_72 ?_
        refine rx_aload_n hG dX9_text_75 0 rfl ?_
        refine gfX_P_32_0 l E T hG dX9_text_76 ?_
        refine rx_aload_n hG dX9_text_79 0 rfl ?_
        refine gfX_P_16_0 l E T hG dX9_text_80 ?_
        refine gfX_P_97_2 l E T hG dX9_text_83 ?_
        obtain ⟨M9, hM9, hf⟩ := bindE hf
        refine rx_cVv hG (c_V_copy_32_11 l E T  hM9) (skX32 T) rfl rfl kw_P_100 ⟨Nat.le_of_ble_eq_true rfl, Nat.le_of_ble_eq_true rfl⟩ rfl (Nat.le_of_ble_eq_true rfl) dX9_text_86 ?_
        refine rx_aload_n hG dX9_text_89 0 rfl ?_
        refine rx_iconst hG 1 dX9_text_90 ic_1 ?_
        obtain ⟨M10, hM10, hf⟩ := bindE hf
        refine pfX_P_103_0 l E T hG hM10 (Or.inr rfl) dX9_text_91 ?_
        refine rx_aload_n hG dX9_text_94 0 rfl ?_
        refine gfX_P_41_0 l E T hG dX9_text_95 ?_
        refine rx_iconst hG 0 dX9_text_98 ic_0 ?_
        obtain ⟨M11, hM11, hf⟩ := bindE hf
        refine rx_cVv hG (c_L_start_35 l E T 0 hM11) (skX35 T) rfl rfl kw_P_106 ⟨Nat.le_of_ble_eq_true rfl, Nat.le_of_ble_eq_true rfl⟩ rfl (Nat.le_of_ble_eq_true rfl) dX9_text_99 ?_
        refine rx_aload_n hG dX9_text_102 0 rfl ?_
        obtain ⟨M12, hM12, hf⟩ := bindE hf
        refine rx_cVv hG (c_P_forget_0 l E T  hM12) (skX0 T) rfl rfl kw_P_110 ⟨Nat.le_of_ble_eq_true rfl, Nat.le_of_ble_eq_true rfl⟩ rfl (Nat.le_of_ble_eq_true rfl) dX9_text_103 ?_
        refine rx_aload_n hG dX9_text_106 0 rfl ?_
        refine rx_aload_n hG dX9_text_107 0 rfl ?_
        refine gfX_P_16_0 l E T hG dX9_text_108 ?_
        refine gfX_P_113_2 l E T hG dX9_text_111 ?_
        obtain ⟨q13, hq13, hf⟩ := bindE hf
        refine rx_cVi hG (c_P_granted_0 l E T (M12.1 2 1) hq13) (skX0 T) rfl rfl kw_P_116 ⟨Nat.le_of_ble_eq_true rfl, Nat.le_of_ble_eq_true rfl⟩ rfl (Nat.le_of_ble_eq_true rfl) dX9_text_114 ?_
        cases hf
        exact rx_iret hG dX9_text_117
      · have hf := ifF hf c7
        refine rx_aload_n hG dX9_text_42 0 rfl ?_
        refine rx_iconst hG 4 dX9_text_43 ic_4 ?_
        obtain ⟨q14, hq14, hf⟩ := bindE hf
        refine rx_cVi hG (c_P_refused_0 l E T 4 hq14) (skX0 T) rfl rfl kw_P_79 ⟨Nat.le_of_ble_eq_true rfl, Nat.le_of_ble_eq_true rfl⟩ rfl (Nat.le_of_ble_eq_true rfl) dX9_text_44 ?_
        refine rx_pop hG dX9_text_47 rfl ?_
        refine rx_aload_n hG dX9_text_48 0 rfl ?_
        refine rx_aload_n hG dX9_text_49 0 rfl ?_
        refine gfX_P_25_0 l E T hG dX9_text_50 ?_
        obtain ⟨v15, hv15, hf⟩ := bindE hf
        refine rx_cVi hG (c_R_placeReached_14 l E T  hv15) (skX14 T) rfl rfl kw_P_89 ⟨Nat.le_of_ble_eq_true rfl, Nat.le_of_ble_eq_true rfl⟩ rfl (Nat.le_of_ble_eq_true rfl) dX9_text_53 ?_
        obtain ⟨M16, hM16, hf⟩ := bindE hf
        refine pfX_P_68_0 l E T hG hM16 dX9_text_56 ?_
        refine rx_iconst hG (-1) dX9_text_59 ic_m1 ?_
        cases hf
        exact rx_iret hG dX9_text_60
    · have hf := ifF hf c3
      refine rx_aload_n hG dX9_text_12 0 rfl ?_
      refine rx_iconst hG 2 dX9_text_13 ic_2 ?_
      obtain ⟨q17, hq17, hf⟩ := bindE hf
      refine rx_cVi hG (c_P_refused_0 l E T 2 hq17) (skX0 T) rfl rfl kw_P_79 ⟨Nat.le_of_ble_eq_true rfl, Nat.le_of_ble_eq_true rfl⟩ rfl (Nat.le_of_ble_eq_true rfl) dX9_text_14 ?_
      cases hf
      exact rx_iret hG dX9_text_17
set_option maxHeartbeats 4000000 in
set_option maxRecDepth 100000 in
theorem c_P_fault_0 (l : Launch) (E : En) (T : List Sk)  {M : Mm} {r : Int32} (h : f_P_fault_0 M = some r) : Ct l (SKX ++ T) E yX9_fault cX9_fault 1 (some .int) 0 0 [.ref (adr E 0)] M (some (.int r)) M := by
  refine ct_of (by decide) (Nat.le_of_ble_eq_true rfl) ?_
  intro G hG
  show G 0 [(0, .ref (adr E 0))] [] M
  have hf := h
  unfold f_P_fault_0 at hf
  refine rx_aload_n hG dX9_fault_0 0 rfl ?_
  refine gfX_P_86_0 l E T hG dX9_fault_1 ?_
  cases hf
  exact rx_iret hG dX9_fault_4
set_option maxHeartbeats 4000000 in
set_option maxRecDepth 100000 in
theorem c_P_where_0 (l : Launch) (E : En) (T : List Sk)  {M : Mm} {r : Int32} (h : f_P_where_0 M = some r) : Ct l (SKX ++ T) E yX9_where cX9_where 1 (some .int) 0 0 [.ref (adr E 0)] M (some (.int r)) M := by
  refine ct_of (by decide) (Nat.le_of_ble_eq_true rfl) ?_
  intro G hG
  show G 0 [(0, .ref (adr E 0))] [] M
  have hf := h
  unfold f_P_where_0 at hf
  refine rx_aload_n hG dX9_where_0 0 rfl ?_
  refine gfX_P_68_0 l E T hG dX9_where_1 ?_
  cases hf
  exact rx_iret hG dX9_where_4
set_option maxHeartbeats 4000000 in
set_option maxRecDepth 100000 in
theorem c_P_within (l : Launch) (E : En) (T : List Sk) (p0 : Int32) (p1 : Int32) {M : Mm} {r : Int32} (h : f_P_within p0 p1 = some r) : Ct l T E yX9_within cX9_within 2 (some .boolean) 0 0 [.int p0, .int p1] M (some (.int r)) M := by
  refine ct_of (by decide) (Nat.le_of_ble_eq_true rfl) ?_
  intro G hG
  show G 0 [(0, .int p0), (1, .int p1)] [] M
  have hf := h
  unfold f_P_within at hf
  refine rx_iload_n hG dX9_within_0 0 rfl ?_
  refine rx_if_lt hG 13 dX9_within_1 rfl (fun c1 => ?_) (fun c1 => ?_)
  · have hf := ifT hf c1
    refine rx_iconst hG 0 dX9_within_13 ic_0 ?_
    cases hf
    exact rx_zret hG zr0 dX9_within_14
  · have hf := ifF hf c1
    refine rx_iload_n hG dX9_within_4 0 rfl ?_
    refine rx_iload_n hG dX9_within_5 1 rfl ?_
    refine rx_icmp_gt hG 13 dX9_within_6 rfl (fun c2 => ?_) (fun c2 => ?_)
    · have hf := ifT hf c2
      refine rx_iconst hG 0 dX9_within_13 ic_0 ?_
      cases hf
      exact rx_zret hG zr0 dX9_within_14
    · have hf := ifF hf c2
      refine rx_iconst hG 1 dX9_within_9 ic_1 ?_
      refine rx_goto hG 14 dX9_within_10 rfl ?_
      cases hf
      exact rx_zret hG zr1 dX9_within_14
set_option maxHeartbeats 4000000 in
set_option maxRecDepth 100000 in
theorem Lblp_V_allCards_32_4 (l : Launch) (E : En) (T : List Sk) {a0 b0 kc ks : Nat} {r : Int32} {M : Mm} {G : Nat → List (Nat × Value) → List Value → Mm → Prop} (hG : RX l (SKX ++ T) E RX2 cX2_allCards 3 (some .int) { frames := 0, cells := a0, slots := b0, locals := 0 } kc ks (some (.int r)) M G) (rc4 : Int32 → Int32 → Mm → Option Int32) (hrc4 : ∀ (x1 : Int32) (x2 : Int32), rc4 x1 x2 M = some r → G 4 [(0, .ref (adr E 32)), (1, .int x1), (2, .int x2)] [] M) : ∀ (x1 : Int32) (x2 : Int32), blp_V_allCards_32_4 rc4 x1 x2 M = some r → G 4 [(0, .ref (adr E 32)), (1, .int x1), (2, .int x2)] [] M := by
  intro x1 x2 hf
  unfold blp_V_allCards_32_4 at hf
  refine rx_iload_n hG dX2_allCards_4 2 rfl ?_
  refine rx_bipush hG 18 dX2_allCards_5 bp_18 ?_
  refine rx_icmp_ge hG 25 dX2_allCards_7 rfl (fun c1 => ?_) (fun c1 => ?_)
  · have hf := ifT hf c1
    refine rx_iload_n hG dX2_allCards_25 1 rfl ?_
    cases hf
    exact rx_iret hG dX2_allCards_26
  · have hf := ifF hf c1
    refine rx_iload_n hG dX2_allCards_10 1 rfl ?_
    refine rx_aload_n hG dX2_allCards_11 0 rfl ?_
    refine gfX_V_9_32 l E T hG dX2_allCards_12 ?_
    refine rx_iload_n hG dX2_allCards_15 2 rfl ?_
    obtain ⟨v2, hv2, hf⟩ := bindE hf
    refine rx_iald hG (skX33 T) hv2 dX2_allCards_16 ?_
    refine rx_iadd hG dX2_allCards_17 ?_
    refine rx_istore_n (lv2 := [(1, .int (x1 + v2)), (0, .ref (adr E 32)), (2, .int x2)]) hG dX2_allCards_18 (Nat.le_of_ble_eq_true rfl) rfl ?_
    refine rx_iinc (lv2 := [(2, .int (x2 + 1)), (1, .int (x1 + v2)), (0, .ref (adr E 32))]) hG 1 dX2_allCards_19 ic_1 2 rfl (Nat.le_of_ble_eq_true rfl) rfl ?_
    refine rx_goto hG 4 dX2_allCards_22 rfl ?_
    refine rx_sub hG [2, 1, 0] (lv' := [(0, .ref (adr E 32)), (1, .int (x1 + v2)), (2, .int (x2 + 1))]) rfl ?_
    exact hrc4 (x1 + v2) (x2 + 1) hf
theorem Llp_V_allCards_32_4 (l : Launch) (E : En) (T : List Sk) {a0 b0 kc ks : Nat} {r : Int32} {M : Mm} {G : Nat → List (Nat × Value) → List Value → Mm → Prop} (hG : RX l (SKX ++ T) E RX2 cX2_allCards 3 (some .int) { frames := 0, cells := a0, slots := b0, locals := 0 } kc ks (some (.int r)) M G)  : ∀ (n : Nat) (x1 : Int32) (x2 : Int32), lp_V_allCards_32_4  n x1 x2 M = some r → G 4 [(0, .ref (adr E 32)), (1, .int x1), (2, .int x2)] [] M := by
  intro n
  induction n with
  | zero => intro x1 x2 hf; cases hf
  | succ n ih => intro x1 x2 hf; exact Lblp_V_allCards_32_4 l E T hG  (lp_V_allCards_32_4  n) ih x1 x2 hf
set_option maxHeartbeats 4000000 in
set_option maxRecDepth 100000 in
theorem c_V_allCards_32 (l : Launch) (E : En) (T : List Sk)  {M : Mm} {r : Int32} (h : f_V_allCards_32 M = some r) : Ct l (SKX ++ T) E yX2_allCards cX2_allCards 3 (some .int) 0 0 [.ref (adr E 32)] M (some (.int r)) M := by
  refine ct_of (by decide) (Nat.le_of_ble_eq_true rfl) ?_
  intro G hG
  show G 0 [(0, .ref (adr E 32))] [] M
  have hf := h
  unfold f_V_allCards_32 at hf
  refine rx_iconst hG 0 dX2_allCards_0 ic_0 ?_
  refine rx_istore_n (lv2 := [(1, .int 0), (0, .ref (adr E 32))]) hG dX2_allCards_1 (Nat.le_of_ble_eq_true rfl) rfl ?_
  refine rx_iconst hG 0 dX2_allCards_2 ic_0 ?_
  refine rx_istore_n (lv2 := [(2, .int 0), (1, .int 0), (0, .ref (adr E 32))]) hG dX2_allCards_3 (Nat.le_of_ble_eq_true rfl) rfl ?_
  refine rx_sub hG [2, 1, 0] (lv' := [(0, .ref (adr E 32)), (1, .int 0), (2, .int 0)]) rfl ?_
  exact Llp_V_allCards_32_4 l E T hG  FW 0 0 hf
set_option maxHeartbeats 4000000 in
set_option maxRecDepth 100000 in
theorem Lblp_L_allHeld_35_4 (l : Launch) (E : En) (T : List Sk) {a0 b0 kc ks : Nat} {r : Int32} {M : Mm} {G : Nat → List (Nat × Value) → List Value → Mm → Prop} (hG : RX l (SKX ++ T) E RX3 cX3_allHeld 3 (some .int) { frames := 0, cells := a0, slots := b0, locals := 0 } kc ks (some (.int r)) M G) (rc4 : Int32 → Int32 → Mm → Option Int32) (hrc4 : ∀ (x1 : Int32) (x2 : Int32), rc4 x1 x2 M = some r → G 4 [(0, .ref (adr E 35)), (1, .int x1), (2, .int x2)] [] M) : ∀ (x1 : Int32) (x2 : Int32), blp_L_allHeld_35_4 rc4 x1 x2 M = some r → G 4 [(0, .ref (adr E 35)), (1, .int x1), (2, .int x2)] [] M := by
  intro x1 x2 hf
  unfold blp_L_allHeld_35_4 at hf
  refine rx_iload_n hG dX3_allHeld_4 2 rfl ?_
  refine rx_bipush hG 18 dX3_allHeld_5 bp_18 ?_
  refine rx_icmp_ge hG 25 dX3_allHeld_7 rfl (fun c1 => ?_) (fun c1 => ?_)
  · have hf := ifT hf c1
    refine rx_iload_n hG dX3_allHeld_25 1 rfl ?_
    cases hf
    exact rx_iret hG dX3_allHeld_26
  · have hf := ifF hf c1
    refine rx_iload_n hG dX3_allHeld_10 1 rfl ?_
    refine rx_aload_n hG dX3_allHeld_11 0 rfl ?_
    refine gfX_L_15_35 l E T hG dX3_allHeld_12 ?_
    refine rx_iload_n hG dX3_allHeld_15 2 rfl ?_
    obtain ⟨v2, hv2, hf⟩ := bindE hf
    refine rx_iald hG (skX37 T) hv2 dX3_allHeld_16 ?_
    refine rx_iadd hG dX3_allHeld_17 ?_
    refine rx_istore_n (lv2 := [(1, .int (x1 + v2)), (0, .ref (adr E 35)), (2, .int x2)]) hG dX3_allHeld_18 (Nat.le_of_ble_eq_true rfl) rfl ?_
    refine rx_iinc (lv2 := [(2, .int (x2 + 1)), (1, .int (x1 + v2)), (0, .ref (adr E 35))]) hG 1 dX3_allHeld_19 ic_1 2 rfl (Nat.le_of_ble_eq_true rfl) rfl ?_
    refine rx_goto hG 4 dX3_allHeld_22 rfl ?_
    refine rx_sub hG [2, 1, 0] (lv' := [(0, .ref (adr E 35)), (1, .int (x1 + v2)), (2, .int (x2 + 1))]) rfl ?_
    exact hrc4 (x1 + v2) (x2 + 1) hf
theorem Llp_L_allHeld_35_4 (l : Launch) (E : En) (T : List Sk) {a0 b0 kc ks : Nat} {r : Int32} {M : Mm} {G : Nat → List (Nat × Value) → List Value → Mm → Prop} (hG : RX l (SKX ++ T) E RX3 cX3_allHeld 3 (some .int) { frames := 0, cells := a0, slots := b0, locals := 0 } kc ks (some (.int r)) M G)  : ∀ (n : Nat) (x1 : Int32) (x2 : Int32), lp_L_allHeld_35_4  n x1 x2 M = some r → G 4 [(0, .ref (adr E 35)), (1, .int x1), (2, .int x2)] [] M := by
  intro n
  induction n with
  | zero => intro x1 x2 hf; cases hf
  | succ n ih => intro x1 x2 hf; exact Lblp_L_allHeld_35_4 l E T hG  (lp_L_allHeld_35_4  n) ih x1 x2 hf
set_option maxHeartbeats 4000000 in
set_option maxRecDepth 100000 in
theorem c_L_allHeld_35 (l : Launch) (E : En) (T : List Sk)  {M : Mm} {r : Int32} (h : f_L_allHeld_35 M = some r) : Ct l (SKX ++ T) E yX3_allHeld cX3_allHeld 3 (some .int) 0 0 [.ref (adr E 35)] M (some (.int r)) M := by
  refine ct_of (by decide) (Nat.le_of_ble_eq_true rfl) ?_
  intro G hG
  show G 0 [(0, .ref (adr E 35))] [] M
  have hf := h
  unfold f_L_allHeld_35 at hf
  refine rx_iconst hG 0 dX3_allHeld_0 ic_0 ?_
  refine rx_istore_n (lv2 := [(1, .int 0), (0, .ref (adr E 35))]) hG dX3_allHeld_1 (Nat.le_of_ble_eq_true rfl) rfl ?_
  refine rx_iconst hG 0 dX3_allHeld_2 ic_0 ?_
  refine rx_istore_n (lv2 := [(2, .int 0), (1, .int 0), (0, .ref (adr E 35))]) hG dX3_allHeld_3 (Nat.le_of_ble_eq_true rfl) rfl ?_
  refine rx_sub hG [2, 1, 0] (lv' := [(0, .ref (adr E 35)), (1, .int 0), (2, .int 0)]) rfl ?_
  exact Llp_L_allHeld_35_4 l E T hG  FW 0 0 hf
set_option maxHeartbeats 4000000 in
set_option maxRecDepth 100000 in
theorem c_P_about_0 (l : Launch) (E : En) (T : List Sk) (p0 : Int32) {M M' : Mm} {r : Int32} (h : f_P_about_0 p0 M = some (r, M')) : Ct l (SKX ++ T) E yX9_about cX9_about 2 (some .int) 1 22 [.ref (adr E 0), .int p0] M (some (.int r)) M' := by
  refine ct_of (by decide) (Nat.le_of_ble_eq_true rfl) ?_
  intro G hG
  show G 0 [(0, .ref (adr E 0)), (1, .int p0)] [] M
  have hf := h
  unfold f_P_about_0 at hf
  refine rx_aload_n hG dX9_about_0 0 rfl ?_
  refine gfX_P_103_0 l E T hG dX9_about_1 ?_
  refine rx_if_eq hG 16 dX9_about_4 rfl (fun c1 => ?_) (fun c1 => ?_)
  · have hf := ifT hf c1
    refine rx_aload_n hG dX9_about_16 0 rfl ?_
    refine rx_iconst hG 1 dX9_about_17 ic_1 ?_
    obtain ⟨q2, hq2, hf⟩ := bindE hf
    refine rx_cVi hG (c_P_refused_0 l E T 1 hq2) (skX0 T) rfl rfl kw_P_79 ⟨Nat.le_of_ble_eq_true rfl, Nat.le_of_ble_eq_true rfl⟩ rfl (Nat.le_of_ble_eq_true rfl) dX9_about_18 ?_
    cases hf
    exact rx_iret hG dX9_about_21
  · have hf := ifF hf c1
    refine rx_iload_n hG dX9_about_7 1 rfl ?_
    refine rx_bipush hG 7 dX9_about_8 bp_7 ?_
    obtain ⟨v3, hv3, hf⟩ := bindE hf
    refine rx_cSi hG (c_P_within l E (SKX ++ T) p0 7 hv3) kw_P_128 ⟨Nat.le_of_ble_eq_true rfl, Nat.le_of_ble_eq_true rfl⟩ rfl (Nat.le_of_ble_eq_true rfl) dX9_about_10 ?_
    refine rx_if_ne hG 22 dX9_about_13 rfl (fun c4 => ?_) (fun c4 => ?_)
    · have hf := ifF hf c4
      refine rx_iload_n hG dX9_about_22 1 rfl ?_
      by_cases c5 : p0 = 0
      · have hf := ifT hf c5
        refine rx_tableIn hG 64 0 (by rw [c5]; rfl) dX9_about_23 (by decide) (by decide) rfl rfl ?_
        refine rx_aload_n hG dX9_about_64 0 rfl ?_
        refine rx_aload_n hG dX9_about_65 0 rfl ?_
        refine gfX_P_16_0 l E T hG dX9_about_66 ?_
        refine gfX_P_132_2 l E T hG dX9_about_69 ?_
        obtain ⟨q6, hq6, hf⟩ := bindE hf
        refine rx_cVi hG (c_P_granted_0 l E T (M.1 2 0) hq6) (skX0 T) rfl rfl kw_P_116 ⟨Nat.le_of_ble_eq_true rfl, Nat.le_of_ble_eq_true rfl⟩ rfl (Nat.le_of_ble_eq_true rfl) dX9_about_72 ?_
        cases hf
        exact rx_iret hG dX9_about_75
      have hf := ifF hf c5
      by_cases c7 : p0 = 1
      · have hf := ifT hf c7
        refine rx_tableIn hG 76 1 (by rw [c7]; rfl) dX9_about_23 (by decide) (by decide) rfl rfl ?_
        refine rx_aload_n hG dX9_about_76 0 rfl ?_
        refine rx_aload_n hG dX9_about_77 0 rfl ?_
        refine gfX_P_16_0 l E T hG dX9_about_78 ?_
        refine gfX_P_113_2 l E T hG dX9_about_81 ?_
        obtain ⟨q8, hq8, hf⟩ := bindE hf
        refine rx_cVi hG (c_P_granted_0 l E T (M.1 2 1) hq8) (skX0 T) rfl rfl kw_P_116 ⟨Nat.le_of_ble_eq_true rfl, Nat.le_of_ble_eq_true rfl⟩ rfl (Nat.le_of_ble_eq_true rfl) dX9_about_84 ?_
        cases hf
        exact rx_iret hG dX9_about_87
      have hf := ifF hf c7
      by_cases c9 : p0 = 2
      · have hf := ifT hf c9
        refine rx_tableIn hG 88 2 (by rw [c9]; rfl) dX9_about_23 (by decide) (by decide) rfl rfl ?_
        refine rx_aload_n hG dX9_about_88 0 rfl ?_
        refine rx_aload_n hG dX9_about_89 0 rfl ?_
        refine gfX_P_16_0 l E T hG dX9_about_90 ?_
        refine gfX_P_135_2 l E T hG dX9_about_93 ?_
        obtain ⟨q10, hq10, hf⟩ := bindE hf
        refine rx_cVi hG (c_P_granted_0 l E T (M.1 2 2) hq10) (skX0 T) rfl rfl kw_P_116 ⟨Nat.le_of_ble_eq_true rfl, Nat.le_of_ble_eq_true rfl⟩ rfl (Nat.le_of_ble_eq_true rfl) dX9_about_96 ?_
        cases hf
        exact rx_iret hG dX9_about_99
      have hf := ifF hf c9
      by_cases c11 : p0 = 3
      · have hf := ifT hf c11
        refine rx_tableIn hG 100 3 (by rw [c11]; rfl) dX9_about_23 (by decide) (by decide) rfl rfl ?_
        refine rx_aload_n hG dX9_about_100 0 rfl ?_
        refine rx_aload_n hG dX9_about_101 0 rfl ?_
        refine gfX_P_32_0 l E T hG dX9_about_102 ?_
        refine gfX_P_138_32 l E T hG dX9_about_105 ?_
        obtain ⟨q12, hq12, hf⟩ := bindE hf
        refine rx_cVi hG (c_P_granted_0 l E T (M.1 32 2) hq12) (skX0 T) rfl rfl kw_P_116 ⟨Nat.le_of_ble_eq_true rfl, Nat.le_of_ble_eq_true rfl⟩ rfl (Nat.le_of_ble_eq_true rfl) dX9_about_108 ?_
        cases hf
        exact rx_iret hG dX9_about_111
      have hf := ifF hf c11
      by_cases c13 : p0 = 4
      · have hf := ifT hf c13
        refine rx_tableIn hG 112 4 (by rw [c13]; rfl) dX9_about_23 (by decide) (by decide) rfl rfl ?_
        refine rx_aload_n hG dX9_about_112 0 rfl ?_
        refine rx_aload_n hG dX9_about_113 0 rfl ?_
        refine gfX_P_41_0 l E T hG dX9_about_114 ?_
        refine gfX_P_141_35 l E T hG dX9_about_117 ?_
        obtain ⟨q14, hq14, hf⟩ := bindE hf
        refine rx_cVi hG (c_P_granted_0 l E T (M.1 35 14) hq14) (skX0 T) rfl rfl kw_P_116 ⟨Nat.le_of_ble_eq_true rfl, Nat.le_of_ble_eq_true rfl⟩ rfl (Nat.le_of_ble_eq_true rfl) dX9_about_120 ?_
        cases hf
        exact rx_iret hG dX9_about_123
      have hf := ifF hf c13
      by_cases c15 : p0 = 5
      · have hf := ifT hf c15
        refine rx_tableIn hG 124 5 (by rw [c15]; rfl) dX9_about_23 (by decide) (by decide) rfl rfl ?_
        refine rx_aload_n hG dX9_about_124 0 rfl ?_
        refine rx_aload_n hG dX9_about_125 0 rfl ?_
        refine gfX_P_32_0 l E T hG dX9_about_126 ?_
        obtain ⟨v16, hv16, hf⟩ := bindE hf
        refine rx_cVi hG (c_V_allCards_32 l E T  hv16) (skX32 T) rfl rfl kw_P_144 ⟨Nat.le_of_ble_eq_true rfl, Nat.le_of_ble_eq_true rfl⟩ rfl (Nat.le_of_ble_eq_true rfl) dX9_about_129 ?_
        obtain ⟨q17, hq17, hf⟩ := bindE hf
        refine rx_cVi hG (c_P_granted_0 l E T v16 hq17) (skX0 T) rfl rfl kw_P_116 ⟨Nat.le_of_ble_eq_true rfl, Nat.le_of_ble_eq_true rfl⟩ rfl (Nat.le_of_ble_eq_true rfl) dX9_about_132 ?_
        cases hf
        exact rx_iret hG dX9_about_135
      have hf := ifF hf c15
      by_cases c18 : p0 = 6
      · have hf := ifT hf c18
        refine rx_tableIn hG 136 6 (by rw [c18]; rfl) dX9_about_23 (by decide) (by decide) rfl rfl ?_
        refine rx_aload_n hG dX9_about_136 0 rfl ?_
        refine rx_aload_n hG dX9_about_137 0 rfl ?_
        refine gfX_P_41_0 l E T hG dX9_about_138 ?_
        obtain ⟨v19, hv19, hf⟩ := bindE hf
        refine rx_cVi hG (c_L_allHeld_35 l E T  hv19) (skX35 T) rfl rfl kw_P_147 ⟨Nat.le_of_ble_eq_true rfl, Nat.le_of_ble_eq_true rfl⟩ rfl (Nat.le_of_ble_eq_true rfl) dX9_about_141 ?_
        obtain ⟨q20, hq20, hf⟩ := bindE hf
        refine rx_cVi hG (c_P_granted_0 l E T v19 hq20) (skX0 T) rfl rfl kw_P_116 ⟨Nat.le_of_ble_eq_true rfl, Nat.le_of_ble_eq_true rfl⟩ rfl (Nat.le_of_ble_eq_true rfl) dX9_about_144 ?_
        cases hf
        exact rx_iret hG dX9_about_147
      have hf := ifF hf c18
      refine rx_tableOut hG 148 dX9_about_23 (by have := tiN c5 (z := 0) rfl; have := tiN c7 (z := 1) rfl; have := tiN c9 (z := 2) rfl; have := tiN c11 (z := 3) rfl; have := tiN c13 (z := 4) rfl; have := tiN c15 (z := 5) rfl; have := tiN c18 (z := 6) rfl; omega) rfl ?_
      refine rx_aload_n hG dX9_about_148 0 rfl ?_
      refine rx_aload_n hG dX9_about_149 0 rfl ?_
      refine gfX_P_55_0 l E T hG dX9_about_150 ?_
      refine gfX_P_119_65 l E T hG dX9_about_153 ?_
      obtain ⟨q21, hq21, hf⟩ := bindE hf
      refine rx_cVi hG (c_P_granted_0 l E T (M.1 65 2) hq21) (skX0 T) rfl rfl kw_P_116 ⟨Nat.le_of_ble_eq_true rfl, Nat.le_of_ble_eq_true rfl⟩ rfl (Nat.le_of_ble_eq_true rfl) dX9_about_156 ?_
      cases hf
      exact rx_iret hG dX9_about_159
    · have hf := ifT hf c4
      refine rx_aload_n hG dX9_about_16 0 rfl ?_
      refine rx_iconst hG 1 dX9_about_17 ic_1 ?_
      obtain ⟨q22, hq22, hf⟩ := bindE hf
      refine rx_cVi hG (c_P_refused_0 l E T 1 hq22) (skX0 T) rfl rfl kw_P_79 ⟨Nat.le_of_ble_eq_true rfl, Nat.le_of_ble_eq_true rfl⟩ rfl (Nat.le_of_ble_eq_true rfl) dX9_about_18 ?_
      cases hf
      exact rx_iret hG dX9_about_21
set_option maxHeartbeats 4000000 in
set_option maxRecDepth 100000 in
theorem c_P_isBench_0 (l : Launch) (E : En) (T : List Sk) (p0 : Int32) {M : Mm} {r : Int32} (h : f_P_isBench_0 p0 M = some r) : Ct l (SKX ++ T) E yX9_isBench cX9_isBench 2 (some .boolean) 1 21 [.ref (adr E 0), .int p0] M (some (.int r)) M := by
  refine ct_of (by decide) (Nat.le_of_ble_eq_true rfl) ?_
  intro G hG
  show G 0 [(0, .ref (adr E 0)), (1, .int p0)] [] M
  have hf := h
  unfold f_P_isBench_0 at hf
  refine rx_aload_n hG dX9_isBench_0 0 rfl ?_
  refine gfX_P_103_0 l E T hG dX9_isBench_1 ?_
  refine rx_if_eq hG 27 dX9_isBench_4 rfl (fun c1 => ?_) (fun c1 => ?_)
  · have hf := ifT hf c1
    refine rx_iconst hG 0 dX9_isBench_27 ic_0 ?_
    cases hf
    exact rx_zret hG zr0 dX9_isBench_28
  · have hf := ifF hf c1
    refine rx_iload_n hG dX9_isBench_7 1 rfl ?_
    refine rx_aload_n hG dX9_isBench_8 0 rfl ?_
    refine gfX_P_16_0 l E T hG dX9_isBench_9 ?_
    refine gfX_P_113_2 l E T hG dX9_isBench_12 ?_
    refine rx_iconst hG 1 dX9_isBench_15 ic_1 ?_
    refine rx_isub hG dX9_isBench_16 ?_
    obtain ⟨v2, hv2, hf⟩ := bindE hf
    refine rx_cSi hG (c_P_within l E (SKX ++ T) p0 ((M.1 2 1) - 1) hv2) kw_P_128 ⟨Nat.le_of_ble_eq_true rfl, Nat.le_of_ble_eq_true rfl⟩ rfl (Nat.le_of_ble_eq_true rfl) dX9_isBench_17 ?_
    refine rx_if_eq hG 27 dX9_isBench_20 rfl (fun c3 => ?_) (fun c3 => ?_)
    · have hf := ifT hf c3
      refine rx_iconst hG 0 dX9_isBench_27 ic_0 ?_
      cases hf
      exact rx_zret hG zr0 dX9_isBench_28
    · have hf := ifF hf c3
      refine rx_iconst hG 1 dX9_isBench_23 ic_1 ?_
      refine rx_goto hG 28 dX9_isBench_24 rfl ?_
      cases hf
      exact rx_zret hG zr1 dX9_isBench_28
set_option maxHeartbeats 4000000 in
set_option maxRecDepth 100000 in
theorem Lblp_V_timesAt_32_4 (l : Launch) (E : En) (T : List Sk) {a0 b0 kc ks : Nat} {r : Int32} {M : Mm} {G : Nat → List (Nat × Value) → List Value → Mm → Prop} (hG : RX l (SKX ++ T) E RX2 cX2_timesAt 4 (some .int) { frames := 1, cells := a0, slots := b0, locals := 21 } kc ks (some (.int r)) M G) (rc4 : Int32 → Int32 → Int32 → Mm → Option Int32) (hrc4 : ∀ (x1 : Int32) (x2 : Int32) (x3 : Int32), rc4 x1 x2 x3 M = some r → G 4 [(0, .ref (adr E 32)), (1, .int x1), (2, .int x2), (3, .int x3)] [] M) : ∀ (x1 : Int32) (x2 : Int32) (x3 : Int32), blp_V_timesAt_32_4 rc4 x1 x2 x3 M = some r → G 4 [(0, .ref (adr E 32)), (1, .int x1), (2, .int x2), (3, .int x3)] [] M := by
  intro x1 x2 x3 hf
  unfold blp_V_timesAt_32_4 at hf
  refine rx_iload_n hG dX2_timesAt_4 3 rfl ?_
  refine rx_iconst hG 3 dX2_timesAt_5 ic_3 ?_
  refine rx_icmp_ge hG 28 dX2_timesAt_6 rfl (fun c1 => ?_) (fun c1 => ?_)
  · have hf := ifT hf c1
    refine rx_iload_n hG dX2_timesAt_28 2 rfl ?_
    cases hf
    exact rx_iret hG dX2_timesAt_29
  · have hf := ifF hf c1
    refine rx_iload_n hG dX2_timesAt_9 2 rfl ?_
    refine rx_aload_n hG dX2_timesAt_10 0 rfl ?_
    refine gfX_V_15_32 l E T hG dX2_timesAt_11 ?_
    refine rx_iload_n hG dX2_timesAt_14 1 rfl ?_
    refine rx_iload_n hG dX2_timesAt_15 3 rfl ?_
    obtain ⟨v2, hv2, hf⟩ := bindE hf
    refine rx_cNi hG (c_P_cell l E (SKX ++ T) x1 x3 hv2) kw_V_34 ⟨Nat.le_of_ble_eq_true rfl, Nat.le_of_ble_eq_true rfl⟩ rfl (Nat.le_of_ble_eq_true rfl) dX2_timesAt_16 ?_
    obtain ⟨v3, hv3, hf⟩ := bindE hf
    refine rx_iald hG (skX34 T) hv3 dX2_timesAt_19 ?_
    refine rx_iadd hG dX2_timesAt_20 ?_
    refine rx_istore_n (lv2 := [(2, .int (x2 + v3)), (0, .ref (adr E 32)), (1, .int x1), (3, .int x3)]) hG dX2_timesAt_21 (Nat.le_of_ble_eq_true rfl) rfl ?_
    refine rx_iinc (lv2 := [(3, .int (x3 + 1)), (2, .int (x2 + v3)), (0, .ref (adr E 32)), (1, .int x1)]) hG 1 dX2_timesAt_22 ic_1 3 rfl (Nat.le_of_ble_eq_true rfl) rfl ?_
    refine rx_goto hG 4 dX2_timesAt_25 rfl ?_
    refine rx_sub hG [2, 3, 1, 0] (lv' := [(0, .ref (adr E 32)), (1, .int x1), (2, .int (x2 + v3)), (3, .int (x3 + 1))]) rfl ?_
    exact hrc4 x1 (x2 + v3) (x3 + 1) hf
theorem Llp_V_timesAt_32_4 (l : Launch) (E : En) (T : List Sk) {a0 b0 kc ks : Nat} {r : Int32} {M : Mm} {G : Nat → List (Nat × Value) → List Value → Mm → Prop} (hG : RX l (SKX ++ T) E RX2 cX2_timesAt 4 (some .int) { frames := 1, cells := a0, slots := b0, locals := 21 } kc ks (some (.int r)) M G)  : ∀ (n : Nat) (x1 : Int32) (x2 : Int32) (x3 : Int32), lp_V_timesAt_32_4  n x1 x2 x3 M = some r → G 4 [(0, .ref (adr E 32)), (1, .int x1), (2, .int x2), (3, .int x3)] [] M := by
  intro n
  induction n with
  | zero => intro x1 x2 x3 hf; cases hf
  | succ n ih => intro x1 x2 x3 hf; exact Lblp_V_timesAt_32_4 l E T hG  (lp_V_timesAt_32_4  n) ih x1 x2 x3 hf
set_option maxHeartbeats 4000000 in
set_option maxRecDepth 100000 in
theorem c_V_timesAt_32 (l : Launch) (E : En) (T : List Sk) (p0 : Int32) {M : Mm} {r : Int32} (h : f_V_timesAt_32 p0 M = some r) : Ct l (SKX ++ T) E yX2_timesAt cX2_timesAt 4 (some .int) 1 21 [.ref (adr E 32), .int p0] M (some (.int r)) M := by
  refine ct_of (by decide) (Nat.le_of_ble_eq_true rfl) ?_
  intro G hG
  show G 0 [(0, .ref (adr E 32)), (1, .int p0)] [] M
  have hf := h
  unfold f_V_timesAt_32 at hf
  refine rx_iconst hG 0 dX2_timesAt_0 ic_0 ?_
  refine rx_istore_n (lv2 := [(2, .int 0), (0, .ref (adr E 32)), (1, .int p0)]) hG dX2_timesAt_1 (Nat.le_of_ble_eq_true rfl) rfl ?_
  refine rx_iconst hG 0 dX2_timesAt_2 ic_0 ?_
  refine rx_istore_n (lv2 := [(3, .int 0), (2, .int 0), (0, .ref (adr E 32)), (1, .int p0)]) hG dX2_timesAt_3 (Nat.le_of_ble_eq_true rfl) rfl ?_
  refine rx_sub hG [2, 3, 1, 0] (lv' := [(0, .ref (adr E 32)), (1, .int p0), (2, .int 0), (3, .int 0)]) rfl ?_
  exact Llp_V_timesAt_32_4 l E T hG  FW p0 0 0 hf
set_option maxHeartbeats 4000000 in
set_option maxRecDepth 100000 in
theorem c_P_bench_0 (l : Launch) (E : En) (T : List Sk) (p0 : Int32) (p1 : Int32) {M M' : Mm} {r : Int32} (h : f_P_bench_0 p0 p1 M = some (r, M')) : Ct l (SKX ++ T) E yX9_bench cX9_bench 3 (some .int) 2 44 [.ref (adr E 0), .int p0, .int p1] M (some (.int r)) M' := by
  refine ct_of (by decide) (Nat.le_of_ble_eq_true rfl) ?_
  intro G hG
  show G 0 [(0, .ref (adr E 0)), (1, .int p0), (2, .int p1)] [] M
  have hf := h
  unfold f_P_bench_0 at hf
  refine rx_aload_n hG dX9_bench_0 0 rfl ?_
  refine rx_iload_n hG dX9_bench_1 1 rfl ?_
  obtain ⟨v1, hv1, hf⟩ := bindE hf
  refine rx_cVi hG (c_P_isBench_0 l E T p0 hv1) (skX0 T) rfl rfl kw_P_150 ⟨Nat.le_of_ble_eq_true rfl, Nat.le_of_ble_eq_true rfl⟩ rfl (Nat.le_of_ble_eq_true rfl) dX9_bench_2 ?_
  refine rx_if_eq hG 16 dX9_bench_5 rfl (fun c2 => ?_) (fun c2 => ?_)
  · have hf := ifT hf c2
    refine rx_aload_n hG dX9_bench_16 0 rfl ?_
    refine rx_iconst hG 1 dX9_bench_17 ic_1 ?_
    obtain ⟨q3, hq3, hf⟩ := bindE hf
    refine rx_cVi hG (c_P_refused_0 l E T 1 hq3) (skX0 T) rfl rfl kw_P_79 ⟨Nat.le_of_ble_eq_true rfl, Nat.le_of_ble_eq_true rfl⟩ rfl (Nat.le_of_ble_eq_true rfl) dX9_bench_18 ?_
    cases hf
    exact rx_iret hG dX9_bench_21
  · have hf := ifF hf c2
    refine rx_iload_n hG dX9_bench_8 2 rfl ?_
    refine rx_iconst hG 3 dX9_bench_9 ic_3 ?_
    obtain ⟨v4, hv4, hf⟩ := bindE hf
    refine rx_cSi hG (c_P_within l E (SKX ++ T) p1 3 hv4) kw_P_128 ⟨Nat.le_of_ble_eq_true rfl, Nat.le_of_ble_eq_true rfl⟩ rfl (Nat.le_of_ble_eq_true rfl) dX9_bench_10 ?_
    refine rx_if_ne hG 22 dX9_bench_13 rfl (fun c5 => ?_) (fun c5 => ?_)
    · have hf := ifF hf c5
      refine rx_iload_n hG dX9_bench_22 2 rfl ?_
      by_cases c6 : p1 = 0
      · have hf := ifT hf c6
        refine rx_tableIn hG 48 0 (by rw [c6]; rfl) dX9_bench_23 (by decide) (by decide) rfl rfl ?_
        refine rx_aload_n hG dX9_bench_48 0 rfl ?_
        refine rx_aload_n hG dX9_bench_49 0 rfl ?_
        refine gfX_P_16_0 l E T hG dX9_bench_50 ?_
        refine gfX_P_154_2 l E T hG dX9_bench_53 ?_
        refine rx_iload_n hG dX9_bench_56 1 rfl ?_
        obtain ⟨v7, hv7, hf⟩ := bindE hf
        refine rx_iald hG (skX3 T) hv7 dX9_bench_57 ?_
        obtain ⟨q8, hq8, hf⟩ := bindE hf
        refine rx_cVi hG (c_P_granted_0 l E T v7 hq8) (skX0 T) rfl rfl kw_P_116 ⟨Nat.le_of_ble_eq_true rfl, Nat.le_of_ble_eq_true rfl⟩ rfl (Nat.le_of_ble_eq_true rfl) dX9_bench_58 ?_
        cases hf
        exact rx_iret hG dX9_bench_61
      have hf := ifF hf c6
      by_cases c9 : p1 = 1
      · have hf := ifT hf c9
        refine rx_tableIn hG 62 1 (by rw [c9]; rfl) dX9_bench_23 (by decide) (by decide) rfl rfl ?_
        refine rx_aload_n hG dX9_bench_62 0 rfl ?_
        refine rx_aload_n hG dX9_bench_63 0 rfl ?_
        refine gfX_P_16_0 l E T hG dX9_bench_64 ?_
        refine gfX_P_158_2 l E T hG dX9_bench_67 ?_
        refine rx_iload_n hG dX9_bench_70 1 rfl ?_
        obtain ⟨v10, hv10, hf⟩ := bindE hf
        refine rx_iald hG (skX4 T) hv10 dX9_bench_71 ?_
        obtain ⟨q11, hq11, hf⟩ := bindE hf
        refine rx_cVi hG (c_P_granted_0 l E T v10 hq11) (skX0 T) rfl rfl kw_P_116 ⟨Nat.le_of_ble_eq_true rfl, Nat.le_of_ble_eq_true rfl⟩ rfl (Nat.le_of_ble_eq_true rfl) dX9_bench_72 ?_
        cases hf
        exact rx_iret hG dX9_bench_75
      have hf := ifF hf c9
      by_cases c12 : p1 = 2
      · have hf := ifT hf c12
        refine rx_tableIn hG 76 2 (by rw [c12]; rfl) dX9_bench_23 (by decide) (by decide) rfl rfl ?_
        refine rx_aload_n hG dX9_bench_76 0 rfl ?_
        refine rx_aload_n hG dX9_bench_77 0 rfl ?_
        refine gfX_P_16_0 l E T hG dX9_bench_78 ?_
        refine gfX_P_161_2 l E T hG dX9_bench_81 ?_
        refine rx_iload_n hG dX9_bench_84 1 rfl ?_
        obtain ⟨v13, hv13, hf⟩ := bindE hf
        refine rx_iald hG (skX5 T) hv13 dX9_bench_85 ?_
        obtain ⟨q14, hq14, hf⟩ := bindE hf
        refine rx_cVi hG (c_P_granted_0 l E T v13 hq14) (skX0 T) rfl rfl kw_P_116 ⟨Nat.le_of_ble_eq_true rfl, Nat.le_of_ble_eq_true rfl⟩ rfl (Nat.le_of_ble_eq_true rfl) dX9_bench_86 ?_
        cases hf
        exact rx_iret hG dX9_bench_89
      have hf := ifF hf c12
      refine rx_tableOut hG 90 dX9_bench_23 (by have := tiN c6 (z := 0) rfl; have := tiN c9 (z := 1) rfl; have := tiN c12 (z := 2) rfl; omega) rfl ?_
      refine rx_aload_n hG dX9_bench_90 0 rfl ?_
      refine rx_aload_n hG dX9_bench_91 0 rfl ?_
      refine gfX_P_32_0 l E T hG dX9_bench_92 ?_
      refine rx_iload_n hG dX9_bench_95 1 rfl ?_
      obtain ⟨v15, hv15, hf⟩ := bindE hf
      refine rx_cVi hG (c_V_timesAt_32 l E T p0 hv15) (skX32 T) rfl rfl kw_P_164 ⟨Nat.le_of_ble_eq_true rfl, Nat.le_of_ble_eq_true rfl⟩ rfl (Nat.le_of_ble_eq_true rfl) dX9_bench_96 ?_
      obtain ⟨q16, hq16, hf⟩ := bindE hf
      refine rx_cVi hG (c_P_granted_0 l E T v15 hq16) (skX0 T) rfl rfl kw_P_116 ⟨Nat.le_of_ble_eq_true rfl, Nat.le_of_ble_eq_true rfl⟩ rfl (Nat.le_of_ble_eq_true rfl) dX9_bench_99 ?_
      cases hf
      exact rx_iret hG dX9_bench_102
    · have hf := ifT hf c5
      refine rx_aload_n hG dX9_bench_16 0 rfl ?_
      refine rx_iconst hG 1 dX9_bench_17 ic_1 ?_
      obtain ⟨q17, hq17, hf⟩ := bindE hf
      refine rx_cVi hG (c_P_refused_0 l E T 1 hq17) (skX0 T) rfl rfl kw_P_79 ⟨Nat.le_of_ble_eq_true rfl, Nat.le_of_ble_eq_true rfl⟩ rfl (Nat.le_of_ble_eq_true rfl) dX9_bench_18 ?_
      cases hf
      exact rx_iret hG dX9_bench_21
set_option maxHeartbeats 4000000 in
set_option maxRecDepth 100000 in
theorem c_P_isKind_0 (l : Launch) (E : En) (T : List Sk) (p0 : Int32) {M : Mm} {r : Int32} (h : f_P_isKind_0 p0 M = some r) : Ct l (SKX ++ T) E yX9_isKind cX9_isKind 2 (some .boolean) 1 21 [.ref (adr E 0), .int p0] M (some (.int r)) M := by
  refine ct_of (by decide) (Nat.le_of_ble_eq_true rfl) ?_
  intro G hG
  show G 0 [(0, .ref (adr E 0)), (1, .int p0)] [] M
  have hf := h
  unfold f_P_isKind_0 at hf
  refine rx_aload_n hG dX9_isKind_0 0 rfl ?_
  refine gfX_P_103_0 l E T hG dX9_isKind_1 ?_
  refine rx_if_eq hG 27 dX9_isKind_4 rfl (fun c1 => ?_) (fun c1 => ?_)
  · have hf := ifT hf c1
    refine rx_iconst hG 0 dX9_isKind_27 ic_0 ?_
    cases hf
    exact rx_zret hG zr0 dX9_isKind_28
  · have hf := ifF hf c1
    refine rx_iload_n hG dX9_isKind_7 1 rfl ?_
    refine rx_aload_n hG dX9_isKind_8 0 rfl ?_
    refine gfX_P_16_0 l E T hG dX9_isKind_9 ?_
    refine gfX_P_132_2 l E T hG dX9_isKind_12 ?_
    refine rx_iconst hG 1 dX9_isKind_15 ic_1 ?_
    refine rx_isub hG dX9_isKind_16 ?_
    obtain ⟨v2, hv2, hf⟩ := bindE hf
    refine rx_cSi hG (c_P_within l E (SKX ++ T) p0 ((M.1 2 0) - 1) hv2) kw_P_128 ⟨Nat.le_of_ble_eq_true rfl, Nat.le_of_ble_eq_true rfl⟩ rfl (Nat.le_of_ble_eq_true rfl) dX9_isKind_17 ?_
    refine rx_if_eq hG 27 dX9_isKind_20 rfl (fun c3 => ?_) (fun c3 => ?_)
    · have hf := ifT hf c3
      refine rx_iconst hG 0 dX9_isKind_27 ic_0 ?_
      cases hf
      exact rx_zret hG zr0 dX9_isKind_28
    · have hf := ifF hf c3
      refine rx_iconst hG 1 dX9_isKind_23 ic_1 ?_
      refine rx_goto hG 28 dX9_isKind_24 rfl ?_
      cases hf
      exact rx_zret hG zr1 dX9_isKind_28
set_option maxHeartbeats 4000000 in
set_option maxRecDepth 100000 in
theorem c_P_timeOf_0 (l : Launch) (E : En) (T : List Sk) (p0 : Int32) (p1 : Int32) {M M' : Mm} {r : Int32} (h : f_P_timeOf_0 p0 p1 M = some (r, M')) : Ct l (SKX ++ T) E yX9_timeOf cX9_timeOf 3 (some .int) 2 42 [.ref (adr E 0), .int p0, .int p1] M (some (.int r)) M' := by
  refine ct_of (by decide) (Nat.le_of_ble_eq_true rfl) ?_
  intro G hG
  show G 0 [(0, .ref (adr E 0)), (1, .int p0), (2, .int p1)] [] M
  have hf := h
  unfold f_P_timeOf_0 at hf
  refine rx_aload_n hG dX9_timeOf_0 0 rfl ?_
  refine rx_iload_n hG dX9_timeOf_1 1 rfl ?_
  obtain ⟨v1, hv1, hf⟩ := bindE hf
  refine rx_cVi hG (c_P_isBench_0 l E T p0 hv1) (skX0 T) rfl rfl kw_P_150 ⟨Nat.le_of_ble_eq_true rfl, Nat.le_of_ble_eq_true rfl⟩ rfl (Nat.le_of_ble_eq_true rfl) dX9_timeOf_2 ?_
  refine rx_if_eq hG 16 dX9_timeOf_5 rfl (fun c2 => ?_) (fun c2 => ?_)
  · have hf := ifT hf c2
    refine rx_aload_n hG dX9_timeOf_16 0 rfl ?_
    refine rx_iconst hG 1 dX9_timeOf_17 ic_1 ?_
    obtain ⟨q3, hq3, hf⟩ := bindE hf
    refine rx_cVi hG (c_P_refused_0 l E T 1 hq3) (skX0 T) rfl rfl kw_P_79 ⟨Nat.le_of_ble_eq_true rfl, Nat.le_of_ble_eq_true rfl⟩ rfl (Nat.le_of_ble_eq_true rfl) dX9_timeOf_18 ?_
    cases hf
    exact rx_iret hG dX9_timeOf_21
  · have hf := ifF hf c2
    refine rx_aload_n hG dX9_timeOf_8 0 rfl ?_
    refine rx_iload_n hG dX9_timeOf_9 2 rfl ?_
    obtain ⟨v4, hv4, hf⟩ := bindE hf
    refine rx_cVi hG (c_P_isKind_0 l E T p1 hv4) (skX0 T) rfl rfl kw_P_167 ⟨Nat.le_of_ble_eq_true rfl, Nat.le_of_ble_eq_true rfl⟩ rfl (Nat.le_of_ble_eq_true rfl) dX9_timeOf_10 ?_
    refine rx_if_ne hG 22 dX9_timeOf_13 rfl (fun c5 => ?_) (fun c5 => ?_)
    · have hf := ifF hf c5
      refine rx_aload_n hG dX9_timeOf_22 0 rfl ?_
      refine rx_aload_n hG dX9_timeOf_23 0 rfl ?_
      refine gfX_P_32_0 l E T hG dX9_timeOf_24 ?_
      refine gfX_P_170_32 l E T hG dX9_timeOf_27 ?_
      refine rx_iload_n hG dX9_timeOf_30 1 rfl ?_
      refine rx_iload_n hG dX9_timeOf_31 2 rfl ?_
      obtain ⟨v6, hv6, hf⟩ := bindE hf
      refine rx_cSi hG (c_P_cell l E (SKX ++ T) p0 p1 hv6) kw_P_173 ⟨Nat.le_of_ble_eq_true rfl, Nat.le_of_ble_eq_true rfl⟩ rfl (Nat.le_of_ble_eq_true rfl) dX9_timeOf_32 ?_
      obtain ⟨v7, hv7, hf⟩ := bindE hf
      refine rx_iald hG (skX34 T) hv7 dX9_timeOf_35 ?_
      obtain ⟨q8, hq8, hf⟩ := bindE hf
      refine rx_cVi hG (c_P_granted_0 l E T v7 hq8) (skX0 T) rfl rfl kw_P_116 ⟨Nat.le_of_ble_eq_true rfl, Nat.le_of_ble_eq_true rfl⟩ rfl (Nat.le_of_ble_eq_true rfl) dX9_timeOf_36 ?_
      cases hf
      exact rx_iret hG dX9_timeOf_39
    · have hf := ifT hf c5
      refine rx_aload_n hG dX9_timeOf_16 0 rfl ?_
      refine rx_iconst hG 1 dX9_timeOf_17 ic_1 ?_
      obtain ⟨q9, hq9, hf⟩ := bindE hf
      refine rx_cVi hG (c_P_refused_0 l E T 1 hq9) (skX0 T) rfl rfl kw_P_79 ⟨Nat.le_of_ble_eq_true rfl, Nat.le_of_ble_eq_true rfl⟩ rfl (Nat.le_of_ble_eq_true rfl) dX9_timeOf_18 ?_
      cases hf
      exact rx_iret hG dX9_timeOf_21
set_option maxHeartbeats 4000000 in
set_option maxRecDepth 100000 in
theorem c_P_stream_0 (l : Launch) (E : En) (T : List Sk) (p0 : Int32) (p1 : Int32) {M M' : Mm} {r : Int32} (h : f_P_stream_0 p0 p1 M = some (r, M')) : Ct l (SKX ++ T) E yX9_stream cX9_stream 3 (some .int) 1 21 [.ref (adr E 0), .int p0, .int p1] M (some (.int r)) M' := by
  refine ct_of (by decide) (Nat.le_of_ble_eq_true rfl) ?_
  intro G hG
  show G 0 [(0, .ref (adr E 0)), (1, .int p0), (2, .int p1)] [] M
  have hf := h
  unfold f_P_stream_0 at hf
  refine rx_aload_n hG dX9_stream_0 0 rfl ?_
  refine gfX_P_103_0 l E T hG dX9_stream_1 ?_
  refine rx_if_eq hG 31 dX9_stream_4 rfl (fun c1 => ?_) (fun c1 => ?_)
  · have hf := ifT hf c1
    refine rx_aload_n hG dX9_stream_31 0 rfl ?_
    refine rx_iconst hG 1 dX9_stream_32 ic_1 ?_
    obtain ⟨q2, hq2, hf⟩ := bindE hf
    refine rx_cVi hG (c_P_refused_0 l E T 1 hq2) (skX0 T) rfl rfl kw_P_79 ⟨Nat.le_of_ble_eq_true rfl, Nat.le_of_ble_eq_true rfl⟩ rfl (Nat.le_of_ble_eq_true rfl) dX9_stream_33 ?_
    cases hf
    exact rx_iret hG dX9_stream_36
  · have hf := ifF hf c1
    refine rx_iload_n hG dX9_stream_7 1 rfl ?_
    refine rx_aload_n hG dX9_stream_8 0 rfl ?_
    refine gfX_P_16_0 l E T hG dX9_stream_9 ?_
    refine gfX_P_135_2 l E T hG dX9_stream_12 ?_
    refine rx_iconst hG 1 dX9_stream_15 ic_1 ?_
    refine rx_isub hG dX9_stream_16 ?_
    obtain ⟨v3, hv3, hf⟩ := bindE hf
    refine rx_cSi hG (c_P_within l E (SKX ++ T) p0 ((M.1 2 2) - 1) hv3) kw_P_128 ⟨Nat.le_of_ble_eq_true rfl, Nat.le_of_ble_eq_true rfl⟩ rfl (Nat.le_of_ble_eq_true rfl) dX9_stream_17 ?_
    refine rx_if_eq hG 31 dX9_stream_20 rfl (fun c4 => ?_) (fun c4 => ?_)
    · have hf := ifT hf c4
      refine rx_aload_n hG dX9_stream_31 0 rfl ?_
      refine rx_iconst hG 1 dX9_stream_32 ic_1 ?_
      obtain ⟨q5, hq5, hf⟩ := bindE hf
      refine rx_cVi hG (c_P_refused_0 l E T 1 hq5) (skX0 T) rfl rfl kw_P_79 ⟨Nat.le_of_ble_eq_true rfl, Nat.le_of_ble_eq_true rfl⟩ rfl (Nat.le_of_ble_eq_true rfl) dX9_stream_33 ?_
      cases hf
      exact rx_iret hG dX9_stream_36
    · have hf := ifF hf c4
      refine rx_iload_n hG dX9_stream_23 2 rfl ?_
      refine rx_iconst hG 2 dX9_stream_24 ic_2 ?_
      obtain ⟨v6, hv6, hf⟩ := bindE hf
      refine rx_cSi hG (c_P_within l E (SKX ++ T) p1 2 hv6) kw_P_128 ⟨Nat.le_of_ble_eq_true rfl, Nat.le_of_ble_eq_true rfl⟩ rfl (Nat.le_of_ble_eq_true rfl) dX9_stream_25 ?_
      refine rx_if_ne hG 37 dX9_stream_28 rfl (fun c7 => ?_) (fun c7 => ?_)
      · have hf := ifF hf c7
        refine rx_iload_n hG dX9_stream_37 2 rfl ?_
        by_cases c8 : p1 = 0
        · have hf := ifT hf c8
          refine rx_lookup hG 64 dX9_stream_38 rfl (by rw [c8]) rfl ?_
          refine rx_aload_n hG dX9_stream_64 0 rfl ?_
          refine rx_aload_n hG dX9_stream_65 0 rfl ?_
          refine gfX_P_16_0 l E T hG dX9_stream_66 ?_
          refine gfX_P_177_2 l E T hG dX9_stream_69 ?_
          refine rx_iload_n hG dX9_stream_72 1 rfl ?_
          obtain ⟨v9, hv9, hf⟩ := bindE hf
          refine rx_iald hG (skX6 T) hv9 dX9_stream_73 ?_
          obtain ⟨q10, hq10, hf⟩ := bindE hf
          refine rx_cVi hG (c_P_granted_0 l E T v9 hq10) (skX0 T) rfl rfl kw_P_116 ⟨Nat.le_of_ble_eq_true rfl, Nat.le_of_ble_eq_true rfl⟩ rfl (Nat.le_of_ble_eq_true rfl) dX9_stream_74 ?_
          cases hf
          exact rx_iret hG dX9_stream_77
        have hf := ifF hf c8
        by_cases c11 : p1 = 1
        · have hf := ifT hf c11
          refine rx_lookup hG 78 dX9_stream_38 rfl (by rw [c11]) rfl ?_
          refine rx_aload_n hG dX9_stream_78 0 rfl ?_
          refine rx_aload_n hG dX9_stream_79 0 rfl ?_
          refine gfX_P_16_0 l E T hG dX9_stream_80 ?_
          refine gfX_P_180_2 l E T hG dX9_stream_83 ?_
          refine rx_iload_n hG dX9_stream_86 1 rfl ?_
          obtain ⟨v12, hv12, hf⟩ := bindE hf
          refine rx_iald hG (skX7 T) hv12 dX9_stream_87 ?_
          obtain ⟨q13, hq13, hf⟩ := bindE hf
          refine rx_cVi hG (c_P_granted_0 l E T v12 hq13) (skX0 T) rfl rfl kw_P_116 ⟨Nat.le_of_ble_eq_true rfl, Nat.le_of_ble_eq_true rfl⟩ rfl (Nat.le_of_ble_eq_true rfl) dX9_stream_88 ?_
          cases hf
          exact rx_iret hG dX9_stream_91
        have hf := ifF hf c11
        refine rx_lookup hG 92 dX9_stream_38 rfl (show (if (0 : Int) = Int32.toInt p1 then (26 : Int) else if (1 : Int) = Int32.toInt p1 then (40 : Int) else 54) = 54 by rw [if_neg (Ne.symm (tiN c8 (z := 0) rfl)), if_neg (Ne.symm (tiN c11 (z := 1) rfl))]) rfl ?_
        refine rx_aload_n hG dX9_stream_92 0 rfl ?_
        refine rx_aload_n hG dX9_stream_93 0 rfl ?_
        refine gfX_P_16_0 l E T hG dX9_stream_94 ?_
        refine gfX_P_183_2 l E T hG dX9_stream_97 ?_
        refine rx_iload_n hG dX9_stream_100 1 rfl ?_
        obtain ⟨v14, hv14, hf⟩ := bindE hf
        refine rx_iald hG (skX8 T) hv14 dX9_stream_101 ?_
        obtain ⟨q15, hq15, hf⟩ := bindE hf
        refine rx_cVi hG (c_P_granted_0 l E T v14 hq15) (skX0 T) rfl rfl kw_P_116 ⟨Nat.le_of_ble_eq_true rfl, Nat.le_of_ble_eq_true rfl⟩ rfl (Nat.le_of_ble_eq_true rfl) dX9_stream_102 ?_
        cases hf
        exact rx_iret hG dX9_stream_105
      · have hf := ifT hf c7
        refine rx_aload_n hG dX9_stream_31 0 rfl ?_
        refine rx_iconst hG 1 dX9_stream_32 ic_1 ?_
        obtain ⟨q16, hq16, hf⟩ := bindE hf
        refine rx_cVi hG (c_P_refused_0 l E T 1 hq16) (skX0 T) rfl rfl kw_P_79 ⟨Nat.le_of_ble_eq_true rfl, Nat.le_of_ble_eq_true rfl⟩ rfl (Nat.le_of_ble_eq_true rfl) dX9_stream_33 ?_
        cases hf
        exact rx_iret hG dX9_stream_36
set_option maxHeartbeats 4000000 in
set_option maxRecDepth 100000 in
theorem c_L_free_35 (l : Launch) (E : En) (T : List Sk) (p0 : Int32) {M : Mm} {r : Int32} (h : f_L_free_35 p0 M = some r) : Ct l (SKX ++ T) E yX3_free cX3_free 2 (some .int) 1 13 [.ref (adr E 35), .int p0] M (some (.int r)) M := by
  refine ct_of (by decide) (Nat.le_of_ble_eq_true rfl) ?_
  intro G hG
  show G 0 [(0, .ref (adr E 35)), (1, .int p0)] [] M
  have hf := h
  unfold f_L_free_35 at hf
  refine rx_iconst hG 0 dX3_free_0 ic_0 ?_
  refine rx_aload_n hG dX3_free_1 0 rfl ?_
  refine gfX_L_52_35 l E T hG dX3_free_2 ?_
  refine gfX_L_62_32 l E T hG dX3_free_5 ?_
  refine rx_iload_n hG dX3_free_8 1 rfl ?_
  obtain ⟨v1, hv1, hf⟩ := bindE hf
  refine rx_iald hG (skX33 T) hv1 dX3_free_9 ?_
  refine rx_aload_n hG dX3_free_10 0 rfl ?_
  refine gfX_L_15_35 l E T hG dX3_free_11 ?_
  refine rx_iload_n hG dX3_free_14 1 rfl ?_
  obtain ⟨v2, hv2, hf⟩ := bindE hf
  refine rx_iald hG (skX37 T) hv2 dX3_free_15 ?_
  refine rx_isub hG dX3_free_16 ?_
  refine rx_max hG kw_L_119 ⟨Nat.le_of_ble_eq_true rfl, Nat.le_of_ble_eq_true rfl⟩ dX3_free_17 ?_
  cases hf
  exact rx_iret hG dX3_free_20
set_option maxHeartbeats 4000000 in
set_option maxRecDepth 100000 in
theorem c_P_cardsOf_0 (l : Launch) (E : En) (T : List Sk) (p0 : Int32) (p1 : Int32) (p2 : Int32) {M M' : Mm} {r : Int32} (h : f_P_cardsOf_0 p0 p1 p2 M = some (r, M')) : Ct l (SKX ++ T) E yX9_cardsOf cX9_cardsOf 5 (some .int) 2 42 [.ref (adr E 0), .int p0, .int p1, .int p2] M (some (.int r)) M' := by
  refine ct_of (by decide) (Nat.le_of_ble_eq_true rfl) ?_
  intro G hG
  show G 0 [(0, .ref (adr E 0)), (1, .int p0), (2, .int p1), (3, .int p2)] [] M
  have hf := h
  unfold f_P_cardsOf_0 at hf
  refine rx_aload_n hG dX9_cardsOf_0 0 rfl ?_
  refine rx_iload_n hG dX9_cardsOf_1 1 rfl ?_
  obtain ⟨v1, hv1, hf⟩ := bindE hf
  refine rx_cVi hG (c_P_isBench_0 l E T p0 hv1) (skX0 T) rfl rfl kw_P_150 ⟨Nat.le_of_ble_eq_true rfl, Nat.le_of_ble_eq_true rfl⟩ rfl (Nat.le_of_ble_eq_true rfl) dX9_cardsOf_2 ?_
  refine rx_if_eq hG 24 dX9_cardsOf_5 rfl (fun c2 => ?_) (fun c2 => ?_)
  · have hf := ifT hf c2
    refine rx_aload_n hG dX9_cardsOf_24 0 rfl ?_
    refine rx_iconst hG 1 dX9_cardsOf_25 ic_1 ?_
    obtain ⟨q3, hq3, hf⟩ := bindE hf
    refine rx_cVi hG (c_P_refused_0 l E T 1 hq3) (skX0 T) rfl rfl kw_P_79 ⟨Nat.le_of_ble_eq_true rfl, Nat.le_of_ble_eq_true rfl⟩ rfl (Nat.le_of_ble_eq_true rfl) dX9_cardsOf_26 ?_
    cases hf
    exact rx_iret hG dX9_cardsOf_29
  · have hf := ifF hf c2
    refine rx_aload_n hG dX9_cardsOf_8 0 rfl ?_
    refine rx_iload_n hG dX9_cardsOf_9 2 rfl ?_
    obtain ⟨v4, hv4, hf⟩ := bindE hf
    refine rx_cVi hG (c_P_isKind_0 l E T p1 hv4) (skX0 T) rfl rfl kw_P_167 ⟨Nat.le_of_ble_eq_true rfl, Nat.le_of_ble_eq_true rfl⟩ rfl (Nat.le_of_ble_eq_true rfl) dX9_cardsOf_10 ?_
    refine rx_if_eq hG 24 dX9_cardsOf_13 rfl (fun c5 => ?_) (fun c5 => ?_)
    · have hf := ifT hf c5
      refine rx_aload_n hG dX9_cardsOf_24 0 rfl ?_
      refine rx_iconst hG 1 dX9_cardsOf_25 ic_1 ?_
      obtain ⟨q6, hq6, hf⟩ := bindE hf
      refine rx_cVi hG (c_P_refused_0 l E T 1 hq6) (skX0 T) rfl rfl kw_P_79 ⟨Nat.le_of_ble_eq_true rfl, Nat.le_of_ble_eq_true rfl⟩ rfl (Nat.le_of_ble_eq_true rfl) dX9_cardsOf_26 ?_
      cases hf
      exact rx_iret hG dX9_cardsOf_29
    · have hf := ifF hf c5
      refine rx_iload_n hG dX9_cardsOf_16 3 rfl ?_
      refine rx_iconst hG 3 dX9_cardsOf_17 ic_3 ?_
      obtain ⟨v7, hv7, hf⟩ := bindE hf
      refine rx_cSi hG (c_P_within l E (SKX ++ T) p2 3 hv7) kw_P_128 ⟨Nat.le_of_ble_eq_true rfl, Nat.le_of_ble_eq_true rfl⟩ rfl (Nat.le_of_ble_eq_true rfl) dX9_cardsOf_18 ?_
      refine rx_if_ne hG 30 dX9_cardsOf_21 rfl (fun c8 => ?_) (fun c8 => ?_)
      · have hf := ifF hf c8
        refine rx_iload_n hG dX9_cardsOf_30 1 rfl ?_
        refine rx_iload_n hG dX9_cardsOf_31 2 rfl ?_
        obtain ⟨v9, hv9, hf⟩ := bindE hf
        refine rx_cSi hG (c_P_cell l E (SKX ++ T) p0 p1 hv9) kw_P_173 ⟨Nat.le_of_ble_eq_true rfl, Nat.le_of_ble_eq_true rfl⟩ rfl (Nat.le_of_ble_eq_true rfl) dX9_cardsOf_32 ?_
        refine rx_istore (lv2 := [(4, .int v9), (0, .ref (adr E 0)), (1, .int p0), (2, .int p1), (3, .int p2)]) hG dX9_cardsOf_35 (Nat.le_of_ble_eq_true rfl) rfl ?_
        refine rx_iload_n hG dX9_cardsOf_37 4 rfl ?_
        by_cases c10 : p2 = 0
        · have hf := ifT hf c10
          refine rx_tableIn hG 64 0 (by rw [c10]; rfl) dX9_cardsOf_38 (by decide) (by decide) rfl rfl ?_
          refine rx_aload_n hG dX9_cardsOf_64 1 rfl ?_
          refine rx_aload_n hG dX9_cardsOf_65 1 rfl ?_
          refine gfX_P_32_0 l E T hG dX9_cardsOf_66 ?_
          refine gfX_P_186_32 l E T hG dX9_cardsOf_69 ?_
          refine rx_iload hG dX9_cardsOf_72 0 rfl ?_
          obtain ⟨v11, hv11, hf⟩ := bindE hf
          refine rx_iald hG (skX33 T) hv11 dX9_cardsOf_74 ?_
          obtain ⟨q12, hq12, hf⟩ := bindE hf
          refine rx_cVi hG (c_P_granted_0 l E T v11 hq12) (skX0 T) rfl rfl kw_P_116 ⟨Nat.le_of_ble_eq_true rfl, Nat.le_of_ble_eq_true rfl⟩ rfl (Nat.le_of_ble_eq_true rfl) dX9_cardsOf_75 ?_
          cases hf
          exact rx_iret hG dX9_cardsOf_78
        have hf := ifF hf c10
        by_cases c13 : p2 = 1
        · have hf := ifT hf c13
          refine rx_tableIn hG 79 1 (by rw [c13]; rfl) dX9_cardsOf_38 (by decide) (by decide) rfl rfl ?_
          refine rx_aload_n hG dX9_cardsOf_79 1 rfl ?_
          refine rx_aload_n hG dX9_cardsOf_80 1 rfl ?_
          refine gfX_P_41_0 l E T hG dX9_cardsOf_81 ?_
          refine gfX_P_189_35 l E T hG dX9_cardsOf_84 ?_
          refine rx_iload hG dX9_cardsOf_87 0 rfl ?_
          obtain ⟨v14, hv14, hf⟩ := bindE hf
          refine rx_iald hG (skX36 T) hv14 dX9_cardsOf_89 ?_
          obtain ⟨q15, hq15, hf⟩ := bindE hf
          refine rx_cVi hG (c_P_granted_0 l E T v14 hq15) (skX0 T) rfl rfl kw_P_116 ⟨Nat.le_of_ble_eq_true rfl, Nat.le_of_ble_eq_true rfl⟩ rfl (Nat.le_of_ble_eq_true rfl) dX9_cardsOf_90 ?_
          cases hf
          exact rx_iret hG dX9_cardsOf_93
        have hf := ifF hf c13
        by_cases c16 : p2 = 2
        · have hf := ifT hf c16
          refine rx_tableIn hG 94 2 (by rw [c16]; rfl) dX9_cardsOf_38 (by decide) (by decide) rfl rfl ?_
          refine rx_aload_n hG dX9_cardsOf_94 1 rfl ?_
          refine rx_aload_n hG dX9_cardsOf_95 1 rfl ?_
          refine gfX_P_41_0 l E T hG dX9_cardsOf_96 ?_
          refine gfX_P_192_35 l E T hG dX9_cardsOf_99 ?_
          refine rx_iload hG dX9_cardsOf_102 0 rfl ?_
          obtain ⟨v17, hv17, hf⟩ := bindE hf
          refine rx_iald hG (skX37 T) hv17 dX9_cardsOf_104 ?_
          refine rx_aload_n hG dX9_cardsOf_105 1 rfl ?_
          refine gfX_P_41_0 l E T hG dX9_cardsOf_106 ?_
          refine gfX_P_189_35 l E T hG dX9_cardsOf_109 ?_
          refine rx_iload hG dX9_cardsOf_112 0 rfl ?_
          obtain ⟨v18, hv18, hf⟩ := bindE hf
          refine rx_iald hG (skX36 T) hv18 dX9_cardsOf_114 ?_
          refine rx_isub hG dX9_cardsOf_115 ?_
          obtain ⟨q19, hq19, hf⟩ := bindE hf
          refine rx_cVi hG (c_P_granted_0 l E T (v17 - v18) hq19) (skX0 T) rfl rfl kw_P_116 ⟨Nat.le_of_ble_eq_true rfl, Nat.le_of_ble_eq_true rfl⟩ rfl (Nat.le_of_ble_eq_true rfl) dX9_cardsOf_116 ?_
          cases hf
          exact rx_iret hG dX9_cardsOf_119
        have hf := ifF hf c16
        refine rx_tableOut hG 120 dX9_cardsOf_38 (by have := tiN c10 (z := 0) rfl; have := tiN c13 (z := 1) rfl; have := tiN c16 (z := 2) rfl; omega) rfl ?_
        refine rx_aload_n hG dX9_cardsOf_120 1 rfl ?_
        refine rx_aload_n hG dX9_cardsOf_121 1 rfl ?_
        refine gfX_P_41_0 l E T hG dX9_cardsOf_122 ?_
        refine rx_iload hG dX9_cardsOf_125 0 rfl ?_
        obtain ⟨v20, hv20, hf⟩ := bindE hf
        refine rx_cVi hG (c_L_free_35 l E T v9 hv20) (skX35 T) rfl rfl kw_P_195 ⟨Nat.le_of_ble_eq_true rfl, Nat.le_of_ble_eq_true rfl⟩ rfl (Nat.le_of_ble_eq_true rfl) dX9_cardsOf_127 ?_
        obtain ⟨q21, hq21, hf⟩ := bindE hf
        refine rx_cVi hG (c_P_granted_0 l E T v20 hq21) (skX0 T) rfl rfl kw_P_116 ⟨Nat.le_of_ble_eq_true rfl, Nat.le_of_ble_eq_true rfl⟩ rfl (Nat.le_of_ble_eq_true rfl) dX9_cardsOf_130 ?_
        cases hf
        exact rx_iret hG dX9_cardsOf_133
      · have hf := ifT hf c8
        refine rx_aload_n hG dX9_cardsOf_24 0 rfl ?_
        refine rx_iconst hG 1 dX9_cardsOf_25 ic_1 ?_
        obtain ⟨q22, hq22, hf⟩ := bindE hf
        refine rx_cVi hG (c_P_refused_0 l E T 1 hq22) (skX0 T) rfl rfl kw_P_79 ⟨Nat.le_of_ble_eq_true rfl, Nat.le_of_ble_eq_true rfl⟩ rfl (Nat.le_of_ble_eq_true rfl) dX9_cardsOf_26 ?_
        cases hf
        exact rx_iret hG dX9_cardsOf_29
set_option maxHeartbeats 4000000 in
set_option maxRecDepth 100000 in
theorem c_P_begin_0 (l : Launch) (E : En) (T : List Sk) (p0 : Int32) {M M' : Mm} {r : Int32} (h : f_P_begin_0 p0 M = some (r, M')) : Ct l (SKX ++ T) E yX9_begin cX9_begin 2 (some .boolean) 4 86 [.ref (adr E 0), .int p0] M (some (.int r)) M' := by
  refine ct_of (by decide) (Nat.le_of_ble_eq_true rfl) ?_
  intro G hG
  show G 0 [(0, .ref (adr E 0)), (1, .int p0)] [] M
  have hf := h
  unfold f_P_begin_0 at hf
  refine rx_aload_n hG dX9_begin_0 0 rfl ?_
  refine gfX_P_103_0 l E T hG dX9_begin_1 ?_
  refine rx_if_ne hG 15 dX9_begin_4 rfl (fun c1 => ?_) (fun c1 => ?_)
  · have hf := ifF hf c1
    refine rx_aload_n hG dX9_begin_15 0 rfl ?_
    refine gfX_P_41_0 l E T hG dX9_begin_16 ?_
    refine rx_iload_n hG dX9_begin_19 1 rfl ?_
    obtain ⟨M2, hM2, hf⟩ := bindE hf
    refine rx_cVv hG (c_L_start_35 l E T p0 hM2) (skX35 T) rfl rfl kw_P_106 ⟨Nat.le_of_ble_eq_true rfl, Nat.le_of_ble_eq_true rfl⟩ rfl (Nat.le_of_ble_eq_true rfl) dX9_begin_20 ?_
    refine rx_aload_n hG dX9_begin_23 0 rfl ?_
    refine rx_iconst hG 0 dX9_begin_24 ic_0 ?_
    obtain ⟨q3, hq3, hf⟩ := bindE hf
    refine rx_cVi hG (c_P_granted_0 l E T 0 hq3) (skX0 T) rfl rfl kw_P_116 ⟨Nat.le_of_ble_eq_true rfl, Nat.le_of_ble_eq_true rfl⟩ rfl (Nat.le_of_ble_eq_true rfl) dX9_begin_25 ?_
    refine rx_pop hG dX9_begin_28 rfl ?_
    refine rx_iconst hG 1 dX9_begin_29 ic_1 ?_
    cases hf
    exact rx_zret hG zr1 dX9_begin_30
  · have hf := ifT hf c1
    refine rx_aload_n hG dX9_begin_7 0 rfl ?_
    refine rx_iconst hG 1 dX9_begin_8 ic_1 ?_
    obtain ⟨q4, hq4, hf⟩ := bindE hf
    refine rx_cVi hG (c_P_refused_0 l E T 1 hq4) (skX0 T) rfl rfl kw_P_79 ⟨Nat.le_of_ble_eq_true rfl, Nat.le_of_ble_eq_true rfl⟩ rfl (Nat.le_of_ble_eq_true rfl) dX9_begin_9 ?_
    refine rx_pop hG dX9_begin_12 rfl ?_
    refine rx_iconst hG 0 dX9_begin_13 ic_0 ?_
    cases hf
    exact rx_zret hG zr0 dX9_begin_14
set_option maxHeartbeats 4000000 in
set_option maxRecDepth 100000 in
theorem Lblp_L_ageOrders_35_2 (l : Launch) (E : En) (T : List Sk) {a0 b0 kc ks : Nat} {M' : Mm} {G : Nat → List (Nat × Value) → List Value → Mm → Prop} (hG : RX l (SKX ++ T) E RX3 cX3_ageOrders 2 none { frames := 0, cells := a0, slots := b0, locals := 0 } kc ks none M' G) (rc2 : Int32 → Mm → Option Mm) (hrc2 : ∀ (x1 : Int32) (M : Mm), rc2 x1 M = some M' → G 2 [(0, .ref (adr E 35)), (1, .int x1)] [] M) : ∀ (x1 : Int32) (M : Mm), blp_L_ageOrders_35_2 rc2 x1 M = some M' → G 2 [(0, .ref (adr E 35)), (1, .int x1)] [] M := by
  intro x1 M hf
  unfold blp_L_ageOrders_35_2 at hf
  refine rx_iload_n hG dX3_ageOrders_2 1 rfl ?_
  refine rx_aload_n hG dX3_ageOrders_3 0 rfl ?_
  refine gfX_L_48_35 l E T hG dX3_ageOrders_4 ?_
  refine gfX_L_138_2 l E T hG dX3_ageOrders_7 ?_
  refine rx_icmp_ge hG 34 dX3_ageOrders_10 rfl (fun c1 => ?_) (fun c1 => ?_)
  · have hf := ifT hf c1
    cases hf
    exact rx_vret hG dX3_ageOrders_34
  · have hf := ifF hf c1
    refine rx_aload_n hG dX3_ageOrders_13 0 rfl ?_
    refine gfX_L_42_35 l E T hG dX3_ageOrders_14 ?_
    refine rx_iload_n hG dX3_ageOrders_17 1 rfl ?_
    refine rx_dup2 hG dX3_ageOrders_18 rfl rfl ?_
    obtain ⟨v2, hv2, hf⟩ := bindE hf
    refine rx_iald hG (skX46 T) hv2 dX3_ageOrders_19 ?_
    refine rx_aload_n hG dX3_ageOrders_20 0 rfl ?_
    refine gfX_L_39_35 l E T hG dX3_ageOrders_21 ?_
    refine rx_iload_n hG dX3_ageOrders_24 1 rfl ?_
    obtain ⟨v3, hv3, hf⟩ := bindE hf
    refine rx_iald hG (skX45 T) hv3 dX3_ageOrders_25 ?_
    refine rx_iadd hG dX3_ageOrders_26 ?_
    obtain ⟨M4, hM4, hf⟩ := bindE hf
    refine rx_iast hG (skX46 T) hM4 dX3_ageOrders_27 ?_
    refine rx_iinc (lv2 := [(1, .int (x1 + 1)), (0, .ref (adr E 35))]) hG 1 dX3_ageOrders_28 ic_1 1 rfl (Nat.le_of_ble_eq_true rfl) rfl ?_
    refine rx_goto hG 2 dX3_ageOrders_31 rfl ?_
    refine rx_sub hG [1, 0] (lv' := [(0, .ref (adr E 35)), (1, .int (x1 + 1))]) rfl ?_
    exact hrc2 (x1 + 1) M4 hf
theorem Llp_L_ageOrders_35_2 (l : Launch) (E : En) (T : List Sk) {a0 b0 kc ks : Nat} {M' : Mm} {G : Nat → List (Nat × Value) → List Value → Mm → Prop} (hG : RX l (SKX ++ T) E RX3 cX3_ageOrders 2 none { frames := 0, cells := a0, slots := b0, locals := 0 } kc ks none M' G)  : ∀ (n : Nat) (x1 : Int32) (M : Mm), lp_L_ageOrders_35_2  n x1 M = some M' → G 2 [(0, .ref (adr E 35)), (1, .int x1)] [] M := by
  intro n
  induction n with
  | zero => intro x1 M hf; cases hf
  | succ n ih => intro x1 M hf; exact Lblp_L_ageOrders_35_2 l E T hG  (lp_L_ageOrders_35_2  n) ih x1 M hf
set_option maxHeartbeats 4000000 in
set_option maxRecDepth 100000 in
theorem c_L_ageOrders_35 (l : Launch) (E : En) (T : List Sk)  {M M' : Mm} (h : f_L_ageOrders_35 M = some M') : Ct l (SKX ++ T) E yX3_ageOrders cX3_ageOrders 2 none 0 0 [.ref (adr E 35)] M none M' := by
  refine ct_of (by decide) (Nat.le_of_ble_eq_true rfl) ?_
  intro G hG
  show G 0 [(0, .ref (adr E 35))] [] M
  have hf := h
  unfold f_L_ageOrders_35 at hf
  refine rx_iconst hG 0 dX3_ageOrders_0 ic_0 ?_
  refine rx_istore_n (lv2 := [(1, .int 0), (0, .ref (adr E 35))]) hG dX3_ageOrders_1 (Nat.le_of_ble_eq_true rfl) rfl ?_
  refine rx_sub hG [1, 0] (lv' := [(0, .ref (adr E 35)), (1, .int 0)]) rfl ?_
  exact Llp_L_ageOrders_35_2 l E T hG  FW 0 M hf
set_option maxHeartbeats 4000000 in
set_option maxRecDepth 100000 in
theorem Lj_L_beginAt_35_109 (l : Launch) (E : En) (T : List Sk) {a0 b0 kc ks : Nat} {M' : Mm} {G : Nat → List (Nat × Value) → List Value → Mm → Prop} (hG : RX l (SKX ++ T) E RX3 cX3_beginAt 5 none { frames := 1, cells := a0, slots := b0, locals := 21 } kc ks none M' G)  : ∀ (x1 : Int32) (x2 : Int32) (t0 : Int32) (t1 : Int32) (t2 : Int32) (M : Mm), j_L_beginAt_35_109  x1 x2 t0 t1 t2 M = some M' → G 109 [(0, .ref (adr E 35)), (1, .int x1), (2, .int x2)] [.int t0, .int t1, .int t2, .ref (adr E 40)] M := by
  intro x1 x2 t0 t1 t2 M hf
  unfold j_L_beginAt_35_109 at hf
  refine rx_iadd hG dX3_beginAt_109 ?_
  obtain ⟨M1, hM1, hf⟩ := bindE hf
  refine rx_iast hG (skX40 T) hM1 dX3_beginAt_110 ?_
  refine rx_aload_n hG dX3_beginAt_111 0 rfl ?_
  refine gfX_L_18_35 l E T hG dX3_beginAt_112 ?_
  refine rx_iload_n hG dX3_beginAt_115 1 rfl ?_
  refine rx_iconst hG 1 dX3_beginAt_116 ic_1 ?_
  obtain ⟨M2, hM2, hf⟩ := bindE hf
  refine rx_iast hG (skX38 T) hM2 dX3_beginAt_117 ?_
  refine rx_aload_n hG dX3_beginAt_118 0 rfl ?_
  refine gfX_L_21_35 l E T hG dX3_beginAt_119 ?_
  refine rx_iload_n hG dX3_beginAt_122 1 rfl ?_
  refine rx_iload_n hG dX3_beginAt_123 2 rfl ?_
  obtain ⟨M3, hM3, hf⟩ := bindE hf
  refine rx_iast hG (skX39 T) hM3 dX3_beginAt_124 ?_
  cases hf
  exact rx_vret hG dX3_beginAt_125
set_option maxHeartbeats 4000000 in
set_option maxRecDepth 100000 in
theorem Lj_L_beginAt_35_70 (l : Launch) (E : En) (T : List Sk) {a0 b0 kc ks : Nat} {M' : Mm} {G : Nat → List (Nat × Value) → List Value → Mm → Prop} (hG : RX l (SKX ++ T) E RX3 cX3_beginAt 5 none { frames := 1, cells := a0, slots := b0, locals := 21 } kc ks none M' G)  : ∀ (x1 : Int32) (x2 : Int32) (x3 : Int32) (t0 : Int32) (M : Mm), j_L_beginAt_35_70  x1 x2 x3 t0 M = some M' → G 70 [(0, .ref (adr E 35)), (1, .int x1), (2, .int x2), (3, .int x3)] [.int t0] M := by
  intro x1 x2 x3 t0 M hf
  unfold j_L_beginAt_35_70 at hf
  refine rx_istore (lv2 := [(4, .int t0), (0, .ref (adr E 35)), (1, .int x1), (2, .int x2), (3, .int x3)]) hG dX3_beginAt_70 (Nat.le_of_ble_eq_true rfl) rfl ?_
  refine rx_aload_n hG dX3_beginAt_72 1 rfl ?_
  refine gfX_L_24_35 l E T hG dX3_beginAt_73 ?_
  refine rx_iload_n hG dX3_beginAt_76 2 rfl ?_
  refine rx_aload_n hG dX3_beginAt_77 1 rfl ?_
  refine gfX_L_73_35 l E T hG dX3_beginAt_78 ?_
  refine rx_aload_n hG dX3_beginAt_81 1 rfl ?_
  refine gfX_L_52_35 l E T hG dX3_beginAt_82 ?_
  refine gfX_L_163_32 l E T hG dX3_beginAt_85 ?_
  refine rx_iload_n hG dX3_beginAt_88 4 rfl ?_
  obtain ⟨v1, hv1, hf⟩ := bindE hf
  refine rx_iald hG (skX34 T) hv1 dX3_beginAt_89 ?_
  refine rx_iadd hG dX3_beginAt_90 ?_
  refine rx_iload hG dX3_beginAt_91 0 rfl ?_
  refine rx_if_eq hG 108 dX3_beginAt_93 rfl (fun c2 => ?_) (fun c2 => ?_)
  · have hf := ifT hf c2
    refine rx_iconst hG 0 dX3_beginAt_108 ic_0 ?_
    refine rx_sub hG [1, 2, 3] (lv' := [(0, .ref (adr E 35)), (1, .int x1), (2, .int x2)]) rfl ?_
    exact Lj_L_beginAt_35_109 l E T hG  x1 x2 0 ((M.1 35 14) + v1) x1 M hf
  · have hf := ifF hf c2
    refine rx_aload_n hG dX3_beginAt_96 1 rfl ?_
    refine gfX_L_48_35 l E T hG dX3_beginAt_97 ?_
    refine gfX_L_166_2 l E T hG dX3_beginAt_100 ?_
    refine rx_iload_n hG dX3_beginAt_103 2 rfl ?_
    obtain ⟨v3, hv3, hf⟩ := bindE hf
    refine rx_iald hG (skX3 T) hv3 dX3_beginAt_104 ?_
    refine rx_goto hG 109 dX3_beginAt_105 rfl ?_
    refine rx_sub hG [1, 2, 3] (lv' := [(0, .ref (adr E 35)), (1, .int x1), (2, .int x2)]) rfl ?_
    exact Lj_L_beginAt_35_109 l E T hG  x1 x2 v3 ((M.1 35 14) + v1) x1 M hf
set_option maxHeartbeats 4000000 in
set_option maxRecDepth 100000 in
theorem Lj_L_beginAt_35_69 (l : Launch) (E : En) (T : List Sk) {a0 b0 kc ks : Nat} {M' : Mm} {G : Nat → List (Nat × Value) → List Value → Mm → Prop} (hG : RX l (SKX ++ T) E RX3 cX3_beginAt 5 none { frames := 1, cells := a0, slots := b0, locals := 21 } kc ks none M' G)  : ∀ (x1 : Int32) (x2 : Int32) (x3 : Int32) (M : Mm), j_L_beginAt_35_69  x1 x2 x3 M = some M' → G 69 [(0, .ref (adr E 35)), (1, .int x1), (2, .int x2), (3, .int x3)] [] M := by
  intro x1 x2 x3 M hf
  unfold j_L_beginAt_35_69 at hf
  refine rx_iconst hG 0 dX3_beginAt_69 ic_0 ?_
  exact Lj_L_beginAt_35_70 l E T hG  x1 x2 x3 0 M hf
set_option maxHeartbeats 4000000 in
set_option maxRecDepth 100000 in
theorem Lj_L_beginAt_35_34 (l : Launch) (E : En) (T : List Sk) {a0 b0 kc ks : Nat} {M' : Mm} {G : Nat → List (Nat × Value) → List Value → Mm → Prop} (hG : RX l (SKX ++ T) E RX3 cX3_beginAt 5 none { frames := 1, cells := a0, slots := b0, locals := 21 } kc ks none M' G)  : ∀ (x1 : Int32) (x2 : Int32) (x3 : Int32) (M : Mm), j_L_beginAt_35_34  x1 x2 x3 M = some M' → G 34 [(0, .ref (adr E 35)), (1, .int x1), (2, .int x2), (3, .int x3)] [] M := by
  intro x1 x2 x3 M hf
  unfold j_L_beginAt_35_34 at hf
  refine rx_aload_n hG dX3_beginAt_34 0 rfl ?_
  refine gfX_L_15_35 l E T hG dX3_beginAt_35 ?_
  refine rx_iload_n hG dX3_beginAt_38 3 rfl ?_
  refine rx_dup2 hG dX3_beginAt_39 rfl rfl ?_
  obtain ⟨v1, hv1, hf⟩ := bindE hf
  refine rx_iald hG (skX37 T) hv1 dX3_beginAt_40 ?_
  refine rx_iconst hG 1 dX3_beginAt_41 ic_1 ?_
  refine rx_iadd hG dX3_beginAt_42 ?_
  obtain ⟨M2, hM2, hf⟩ := bindE hf
  refine rx_iast hG (skX37 T) hM2 dX3_beginAt_43 ?_
  refine rx_aload_n hG dX3_beginAt_44 0 rfl ?_
  refine gfX_L_21_35 l E T hG dX3_beginAt_45 ?_
  refine rx_iload_n hG dX3_beginAt_48 1 rfl ?_
  obtain ⟨v3, hv3, hf⟩ := bindE hf
  refine rx_iald hG (skX39 T) hv3 dX3_beginAt_49 ?_
  refine rx_bipush hG (-2) dX3_beginAt_50 bp_m2 ?_
  refine rx_icmp_eq hG 69 dX3_beginAt_52 rfl (fun c4 => ?_) (fun c4 => ?_)
  · have hf := ifT hf c4
    exact Lj_L_beginAt_35_69 l E T hG  x1 x2 x3 M2 hf
  · have hf := ifF hf c4
    refine rx_aload_n hG dX3_beginAt_55 0 rfl ?_
    refine gfX_L_21_35 l E T hG dX3_beginAt_56 ?_
    refine rx_iload_n hG dX3_beginAt_59 1 rfl ?_
    obtain ⟨v5, hv5, hf⟩ := bindE hf
    refine rx_iald hG (skX39 T) hv5 dX3_beginAt_60 ?_
    refine rx_iload_n hG dX3_beginAt_61 2 rfl ?_
    refine rx_icmp_eq hG 69 dX3_beginAt_62 rfl (fun c6 => ?_) (fun c6 => ?_)
    · have hf := ifT hf c6
      exact Lj_L_beginAt_35_69 l E T hG  x1 x2 x3 M2 hf
    · have hf := ifF hf c6
      refine rx_iconst hG 1 dX3_beginAt_65 ic_1 ?_
      refine rx_goto hG 70 dX3_beginAt_66 rfl ?_
      exact Lj_L_beginAt_35_70 l E T hG  x1 x2 x3 1 M2 hf
set_option maxHeartbeats 4000000 in
set_option maxRecDepth 100000 in
theorem c_L_beginAt_35 (l : Launch) (E : En) (T : List Sk) (p0 : Int32) (p1 : Int32) {M M' : Mm} (h : f_L_beginAt_35 p0 p1 M = some M') : Ct l (SKX ++ T) E yX3_beginAt cX3_beginAt 5 none 1 21 [.ref (adr E 35), .int p0, .int p1] M none M' := by
  refine ct_of (by decide) (Nat.le_of_ble_eq_true rfl) ?_
  intro G hG
  show G 0 [(0, .ref (adr E 35)), (1, .int p0), (2, .int p1)] [] M
  have hf := h
  unfold f_L_beginAt_35 at hf
  refine rx_iload_n hG dX3_beginAt_0 1 rfl ?_
  refine rx_iload_n hG dX3_beginAt_1 2 rfl ?_
  obtain ⟨v1, hv1, hf⟩ := bindE hf
  refine rx_cNi hG (c_P_cell l E (SKX ++ T) p0 p1 hv1) kw_L_151 ⟨Nat.le_of_ble_eq_true rfl, Nat.le_of_ble_eq_true rfl⟩ rfl (Nat.le_of_ble_eq_true rfl) dX3_beginAt_2 ?_
  refine rx_istore_n (lv2 := [(3, .int v1), (0, .ref (adr E 35)), (1, .int p0), (2, .int p1)]) hG dX3_beginAt_5 (Nat.le_of_ble_eq_true rfl) rfl ?_
  refine rx_iload_n hG dX3_beginAt_6 2 rfl ?_
  refine rx_if_le hG 34 dX3_beginAt_7 rfl (fun c2 => ?_) (fun c2 => ?_)
  · have hf := ifT hf c2
    refine rx_sub hG [1, 2, 3, 0] (lv' := [(0, .ref (adr E 35)), (1, .int p0), (2, .int p1), (3, .int v1)]) rfl ?_
    exact Lj_L_beginAt_35_34 l E T hG  p0 p1 v1 M hf
  · have hf := ifF hf c2
    refine rx_aload_n hG dX3_beginAt_10 1 rfl ?_
    refine gfX_L_9_35 l E T hG dX3_beginAt_11 ?_
    refine rx_iload_n hG dX3_beginAt_14 0 rfl ?_
    refine rx_iconst hG 3 dX3_beginAt_15 ic_3 ?_
    refine rx_isub hG dX3_beginAt_16 ?_
    refine rx_dup2 hG dX3_beginAt_17 rfl rfl ?_
    obtain ⟨v3, hv3, hf⟩ := bindE hf
    refine rx_iald hG (skX36 T) hv3 dX3_beginAt_18 ?_
    refine rx_iconst hG 1 dX3_beginAt_19 ic_1 ?_
    refine rx_isub hG dX3_beginAt_20 ?_
    obtain ⟨M4, hM4, hf⟩ := bindE hf
    refine rx_iast hG (skX36 T) hM4 dX3_beginAt_21 ?_
    refine rx_aload_n hG dX3_beginAt_22 1 rfl ?_
    refine gfX_L_15_35 l E T hG dX3_beginAt_23 ?_
    refine rx_iload_n hG dX3_beginAt_26 0 rfl ?_
    refine rx_iconst hG 3 dX3_beginAt_27 ic_3 ?_
    refine rx_isub hG dX3_beginAt_28 ?_
    refine rx_dup2 hG dX3_beginAt_29 rfl rfl ?_
    obtain ⟨v5, hv5, hf⟩ := bindE hf
    refine rx_iald hG (skX37 T) hv5 dX3_beginAt_30 ?_
    refine rx_iconst hG 1 dX3_beginAt_31 ic_1 ?_
    refine rx_isub hG dX3_beginAt_32 ?_
    obtain ⟨M6, hM6, hf⟩ := bindE hf
    refine rx_iast hG (skX37 T) hM6 dX3_beginAt_33 ?_
    refine rx_sub hG [1, 2, 3, 0] (lv' := [(0, .ref (adr E 35)), (1, .int p0), (2, .int p1), (3, .int v1)]) rfl ?_
    exact Lj_L_beginAt_35_34 l E T hG  p0 p1 v1 M6 hf
set_option maxHeartbeats 4000000 in
set_option maxRecDepth 100000 in
theorem c_P_remainder (l : Launch) (E : En) (T : List Sk) (p0 : Int32) (p1 : Int32) {M : Mm} {r : Int32} (h : f_P_remainder p0 p1 = some r) : Ct l T E yX9_remainder cX9_remainder 2 (some .int) 0 0 [.int p0, .int p1] M (some (.int r)) M := by
  refine ct_of (by decide) (Nat.le_of_ble_eq_true rfl) ?_
  intro G hG
  show G 0 [(0, .int p0), (1, .int p1)] [] M
  have hf := h
  unfold f_P_remainder at hf
  refine rx_iload_n hG dX9_remainder_0 1 rfl ?_
  refine rx_if_le hG 10 dX9_remainder_1 rfl (fun c1 => ?_) (fun c1 => ?_)
  · have hf := ifT hf c1
    refine rx_iconst hG 0 dX9_remainder_10 ic_0 ?_
    cases hf
    exact rx_iret hG dX9_remainder_11
  · have hf := ifF hf c1
    refine rx_iload_n hG dX9_remainder_4 0 rfl ?_
    refine rx_iload_n hG dX9_remainder_5 1 rfl ?_
    obtain ⟨v2, hv2, hf⟩ := bindE hf
    refine rx_irem hG hv2 dX9_remainder_6 ?_
    refine rx_goto hG 11 dX9_remainder_7 rfl ?_
    cases hf
    exact rx_iret hG dX9_remainder_11
set_option maxHeartbeats 4000000 in
set_option maxRecDepth 100000 in
theorem Lj_L_freeIfCan_35_23 (l : Launch) (E : En) (T : List Sk) {a0 b0 kc ks : Nat} {r : Int32} {M : Mm} {G : Nat → List (Nat × Value) → List Value → Mm → Prop} (hG : RX l (SKX ++ T) E RX3 cX3_freeIfCan 4 (some .int) { frames := 0, cells := a0, slots := b0, locals := 0 } kc ks (some (.int r)) M G)  : ∀ (x3 : Int32), j_L_freeIfCan_35_23  x3 M = some r → G 23 [(0, .ref (adr E 35)), (3, .int x3)] [] M := by
  intro x3 hf
  unfold j_L_freeIfCan_35_23 at hf
  refine rx_aload_n hG dX3_freeIfCan_23 0 rfl ?_
  refine gfX_L_52_35 l E T hG dX3_freeIfCan_24 ?_
  refine gfX_L_62_32 l E T hG dX3_freeIfCan_27 ?_
  refine rx_iload_n hG dX3_freeIfCan_30 1 rfl ?_
  obtain ⟨v1, hv1, hf⟩ := bindE hf
  refine rx_iald hG (skX33 T) hv1 dX3_freeIfCan_31 ?_
  refine rx_aload_n hG dX3_freeIfCan_32 0 rfl ?_
  refine gfX_L_15_35 l E T hG dX3_freeIfCan_33 ?_
  refine rx_iload_n hG dX3_freeIfCan_36 1 rfl ?_
  obtain ⟨v2, hv2, hf⟩ := bindE hf
  refine rx_iald hG (skX37 T) hv2 dX3_freeIfCan_37 ?_
  refine rx_isub hG dX3_freeIfCan_38 ?_
  cases hf
  exact rx_iret hG dX3_freeIfCan_39
set_option maxHeartbeats 4000000 in
set_option maxRecDepth 100000 in
theorem c_L_freeIfCan_35 (l : Launch) (E : En) (T : List Sk) (p0 : Int32) (p1 : Int32) {M : Mm} {r : Int32} (h : f_L_freeIfCan_35 p0 p1 M = some r) : Ct l (SKX ++ T) E yX3_freeIfCan cX3_freeIfCan 4 (some .int) 0 0 [.ref (adr E 35), .int p0, .int p1] M (some (.int r)) M := by
  refine ct_of (by decide) (Nat.le_of_ble_eq_true rfl) ?_
  intro G hG
  show G 0 [(0, .ref (adr E 35)), (1, .int p0), (2, .int p1)] [] M
  have hf := h
  unfold f_L_freeIfCan_35 at hf
  refine rx_iconst hG 3 dX3_freeIfCan_0 ic_3 ?_
  refine rx_iload_n hG dX3_freeIfCan_1 1 rfl ?_
  refine rx_imul hG dX3_freeIfCan_2 ?_
  refine rx_iload_n hG dX3_freeIfCan_3 2 rfl ?_
  refine rx_iadd hG dX3_freeIfCan_4 ?_
  refine rx_istore_n (lv2 := [(3, .int ((3 * p0) + p1)), (0, .ref (adr E 35)), (1, .int p0), (2, .int p1)]) hG dX3_freeIfCan_5 (Nat.le_of_ble_eq_true rfl) rfl ?_
  refine rx_iload_n hG dX3_freeIfCan_6 2 rfl ?_
  refine rx_if_le hG 23 dX3_freeIfCan_7 rfl (fun c1 => ?_) (fun c1 => ?_)
  · have hf := ifT hf c1
    refine rx_sub hG [1, 0] (lv' := [(0, .ref (adr E 35)), (3, .int ((3 * p0) + p1))]) rfl ?_
    exact Lj_L_freeIfCan_35_23 l E T hG  ((3 * p0) + p1) hf
  · have hf := ifF hf c1
    refine rx_aload_n hG dX3_freeIfCan_10 1 rfl ?_
    refine gfX_L_9_35 l E T hG dX3_freeIfCan_11 ?_
    refine rx_iload_n hG dX3_freeIfCan_14 0 rfl ?_
    refine rx_iconst hG 3 dX3_freeIfCan_15 ic_3 ?_
    refine rx_isub hG dX3_freeIfCan_16 ?_
    obtain ⟨v2, hv2, hf⟩ := bindE hf
    refine rx_iald hG (skX36 T) hv2 dX3_freeIfCan_17 ?_
    refine rx_if_gt hG 23 dX3_freeIfCan_18 rfl (fun c3 => ?_) (fun c3 => ?_)
    · have hf := ifT hf c3
      refine rx_sub hG [1, 0] (lv' := [(0, .ref (adr E 35)), (3, .int ((3 * p0) + p1))]) rfl ?_
      exact Lj_L_freeIfCan_35_23 l E T hG  ((3 * p0) + p1) hf
    · have hf := ifF hf c3
      refine rx_iconst hG 0 dX3_freeIfCan_21 ic_0 ?_
      cases hf
      exact rx_iret hG dX3_freeIfCan_22
set_option maxHeartbeats 4000000 in
set_option maxRecDepth 100000 in
theorem Lj_L_chosen_35_126 (l : Launch) (E : En) (T : List Sk) {a0 b0 kc ks : Nat} {r : Int32} {M : Mm} {G : Nat → List (Nat × Value) → List Value → Mm → Prop} (hG : RX l (SKX ++ T) E RX3 cX3_chosen 9 (some .int) { frames := 1, cells := a0, slots := b0, locals := 23 } kc ks (some (.int r)) M G) (rc55 : Int32 → Int32 → Int32 → Int32 → Int32 → Mm → Option Int32) (hrc55 : ∀ (x1 : Int32) (x3 : Int32) (x4 : Int32) (x5 : Int32) (x6 : Int32), rc55 x1 x3 x4 x5 x6 M = some r → G 55 [(0, .ref (adr E 35)), (1, .int x1), (3, .int x3), (4, .int x4), (5, .int x5), (6, .int x6)] [] M) : ∀ (x1 : Int32) (x3 : Int32) (x4 : Int32) (x5 : Int32) (x6 : Int32), j_L_chosen_35_126 rc55 x1 x3 x4 x5 x6 M = some r → G 126 [(0, .ref (adr E 35)), (1, .int x1), (3, .int x3), (4, .int x4), (5, .int x5), (6, .int x6)] [] M := by
  intro x1 x3 x4 x5 x6 hf
  unfold j_L_chosen_35_126 at hf
  refine rx_iinc (lv2 := [(6, .int (x6 + 1)), (0, .ref (adr E 35)), (1, .int x1), (3, .int x3), (4, .int x4), (5, .int x5)]) hG 1 dX3_chosen_126 ic_1 5 rfl (Nat.le_of_ble_eq_true rfl) rfl ?_
  refine rx_goto hG 55 dX3_chosen_129 rfl ?_
  refine rx_sub hG [1, 2, 3, 4, 5, 0] (lv' := [(0, .ref (adr E 35)), (1, .int x1), (3, .int x3), (4, .int x4), (5, .int x5), (6, .int (x6 + 1))]) rfl ?_
  exact hrc55 x1 x3 x4 x5 (x6 + 1) hf
set_option maxHeartbeats 4000000 in
set_option maxRecDepth 100000 in
theorem Lj_L_chosen_35_111 (l : Launch) (E : En) (T : List Sk) {a0 b0 kc ks : Nat} {r : Int32} {M : Mm} {G : Nat → List (Nat × Value) → List Value → Mm → Prop} (hG : RX l (SKX ++ T) E RX3 cX3_chosen 9 (some .int) { frames := 1, cells := a0, slots := b0, locals := 23 } kc ks (some (.int r)) M G) (rc55 : Int32 → Int32 → Int32 → Int32 → Int32 → Mm → Option Int32) (hrc55 : ∀ (x1 : Int32) (x3 : Int32) (x4 : Int32) (x5 : Int32) (x6 : Int32), rc55 x1 x3 x4 x5 x6 M = some r → G 55 [(0, .ref (adr E 35)), (1, .int x1), (3, .int x3), (4, .int x4), (5, .int x5), (6, .int x6)] [] M) : ∀ (x1 : Int32) (x3 : Int32) (x4 : Int32) (x5 : Int32) (x6 : Int32) (x7 : Int32) (x8 : Int32), j_L_chosen_35_111 rc55 x1 x3 x4 x5 x6 x7 x8 M = some r → G 111 [(0, .ref (adr E 35)), (1, .int x1), (3, .int x3), (4, .int x4), (5, .int x5), (6, .int x6), (7, .int x7), (8, .int x8)] [] M := by
  intro x1 x3 x4 x5 x6 x7 x8 hf
  unfold j_L_chosen_35_111 at hf
  refine rx_iload hG dX3_chosen_111 7 rfl ?_
  refine rx_iload hG dX3_chosen_113 4 rfl ?_
  refine rx_icmp_le hG 126 dX3_chosen_115 rfl (fun c1 => ?_) (fun c1 => ?_)
  · have hf := ifT hf c1
    refine rx_sub hG [0, 1, 2, 3, 4, 5] (lv' := [(0, .ref (adr E 35)), (1, .int x1), (3, .int x3), (4, .int x4), (5, .int x5), (6, .int x6)]) rfl ?_
    exact Lj_L_chosen_35_126 l E T hG rc55 hrc55 x1 x3 x4 x5 x6 hf
  · have hf := ifF hf c1
    refine rx_iload hG dX3_chosen_118 6 rfl ?_
    refine rx_istore (lv2 := [(4, .int x7), (0, .ref (adr E 35)), (1, .int x1), (3, .int x3), (5, .int x5), (6, .int x6), (7, .int x7), (8, .int x8)]) hG dX3_chosen_120 (Nat.le_of_ble_eq_true rfl) rfl ?_
    refine rx_iload hG dX3_chosen_122 7 rfl ?_
    refine rx_istore (lv2 := [(5, .int x8), (4, .int x7), (0, .ref (adr E 35)), (1, .int x1), (3, .int x3), (6, .int x6), (7, .int x7), (8, .int x8)]) hG dX3_chosen_124 (Nat.le_of_ble_eq_true rfl) rfl ?_
    refine rx_sub hG [2, 3, 4, 1, 0, 5] (lv' := [(0, .ref (adr E 35)), (1, .int x1), (3, .int x3), (4, .int x7), (5, .int x8), (6, .int x6)]) rfl ?_
    exact Lj_L_chosen_35_126 l E T hG rc55 hrc55 x1 x3 x7 x8 x6 hf
set_option maxHeartbeats 4000000 in
set_option maxRecDepth 100000 in
theorem Lblp_L_chosen_35_55 (l : Launch) (E : En) (T : List Sk) {a0 b0 kc ks : Nat} {r : Int32} {M : Mm} {G : Nat → List (Nat × Value) → List Value → Mm → Prop} (hG : RX l (SKX ++ T) E RX3 cX3_chosen 9 (some .int) { frames := 1, cells := a0, slots := b0, locals := 23 } kc ks (some (.int r)) M G) (rc55 : Int32 → Int32 → Int32 → Int32 → Int32 → Mm → Option Int32) (hrc55 : ∀ (x1 : Int32) (x3 : Int32) (x4 : Int32) (x5 : Int32) (x6 : Int32), rc55 x1 x3 x4 x5 x6 M = some r → G 55 [(0, .ref (adr E 35)), (1, .int x1), (3, .int x3), (4, .int x4), (5, .int x5), (6, .int x6)] [] M) : ∀ (x1 : Int32) (x3 : Int32) (x4 : Int32) (x5 : Int32) (x6 : Int32), blp_L_chosen_35_55 rc55 x1 x3 x4 x5 x6 M = some r → G 55 [(0, .ref (adr E 35)), (1, .int x1), (3, .int x3), (4, .int x4), (5, .int x5), (6, .int x6)] [] M := by
  intro x1 x3 x4 x5 x6 hf
  unfold blp_L_chosen_35_55 at hf
  refine rx_iload hG dX3_chosen_55 5 rfl ?_
  refine rx_aload_n hG dX3_chosen_57 0 rfl ?_
  refine gfX_L_48_35 l E T hG dX3_chosen_58 ?_
  refine gfX_L_138_2 l E T hG dX3_chosen_61 ?_
  refine rx_icmp_ge hG 132 dX3_chosen_64 rfl (fun c1 => ?_) (fun c1 => ?_)
  · have hf := ifT hf c1
    refine rx_iload hG dX3_chosen_132 3 rfl ?_
    cases hf
    exact rx_iret hG dX3_chosen_134
  · have hf := ifF hf c1
    refine rx_iload_n hG dX3_chosen_67 2 rfl ?_
    refine rx_iload hG dX3_chosen_68 5 rfl ?_
    refine rx_iadd hG dX3_chosen_70 ?_
    refine rx_aload_n hG dX3_chosen_71 0 rfl ?_
    refine gfX_L_48_35 l E T hG dX3_chosen_72 ?_
    refine gfX_L_138_2 l E T hG dX3_chosen_75 ?_
    obtain ⟨v2, hv2, hf⟩ := bindE hf
    refine rx_cNi hG (c_P_remainder l E (SKX ++ T) (x3 + x6) (M.1 2 0) hv2) kw_L_128 ⟨Nat.le_of_ble_eq_true rfl, Nat.le_of_ble_eq_true rfl⟩ rfl (Nat.le_of_ble_eq_true rfl) dX3_chosen_78 ?_
    refine rx_istore (lv2 := [(7, .int v2), (0, .ref (adr E 35)), (1, .int x1), (3, .int x3), (4, .int x4), (5, .int x5), (6, .int x6)]) hG dX3_chosen_81 (Nat.le_of_ble_eq_true rfl) rfl ?_
    refine rx_aload_n hG dX3_chosen_83 1 rfl ?_
    refine rx_iload_n hG dX3_chosen_84 2 rfl ?_
    refine rx_iload hG dX3_chosen_85 0 rfl ?_
    obtain ⟨v3, hv3, hf⟩ := bindE hf
    refine rx_cVi hG (c_L_freeIfCan_35 l E T x1 v2 hv3) (skX35 T) rfl rfl kw_L_172 ⟨Nat.le_of_ble_eq_true rfl, Nat.le_of_ble_eq_true rfl⟩ rfl (Nat.le_of_ble_eq_true rfl) dX3_chosen_87 ?_
    refine rx_istore (lv2 := [(8, .int v3), (7, .int v2), (0, .ref (adr E 35)), (1, .int x1), (3, .int x3), (4, .int x4), (5, .int x5), (6, .int x6)]) hG dX3_chosen_90 (Nat.le_of_ble_eq_true rfl) rfl ?_
    refine rx_iload hG dX3_chosen_92 0 rfl ?_
    refine rx_if_le hG 111 dX3_chosen_94 rfl (fun c4 => ?_) (fun c4 => ?_)
    · have hf := ifT hf c4
      refine rx_sub hG [2, 3, 4, 5, 6, 7, 1, 0] (lv' := [(0, .ref (adr E 35)), (1, .int x1), (3, .int x3), (4, .int x4), (5, .int x5), (6, .int x6), (7, .int v2), (8, .int v3)]) rfl ?_
      exact Lj_L_chosen_35_111 l E T hG rc55 hrc55 x1 x3 x4 x5 x6 v2 v3 hf
    · have hf := ifF hf c4
      refine rx_aload_n hG dX3_chosen_97 2 rfl ?_
      refine gfX_L_52_35 l E T hG dX3_chosen_98 ?_
      refine gfX_L_169_32 l E T hG dX3_chosen_101 ?_
      refine rx_iconst hG 1 dX3_chosen_104 ic_1 ?_
      refine rx_icmp_eq hG 111 dX3_chosen_105 rfl (fun c5 => ?_) (fun c5 => ?_)
      · have hf := ifT hf c5
        refine rx_sub hG [2, 3, 4, 5, 6, 7, 1, 0] (lv' := [(0, .ref (adr E 35)), (1, .int x1), (3, .int x3), (4, .int x4), (5, .int x5), (6, .int x6), (7, .int v2), (8, .int v3)]) rfl ?_
        exact Lj_L_chosen_35_111 l E T hG rc55 hrc55 x1 x3 x4 x5 x6 v2 v3 hf
      · have hf := ifF hf c5
        refine rx_iload hG dX3_chosen_108 1 rfl ?_
        cases hf
        exact rx_iret hG dX3_chosen_110
theorem Llp_L_chosen_35_55 (l : Launch) (E : En) (T : List Sk) {a0 b0 kc ks : Nat} {r : Int32} {M : Mm} {G : Nat → List (Nat × Value) → List Value → Mm → Prop} (hG : RX l (SKX ++ T) E RX3 cX3_chosen 9 (some .int) { frames := 1, cells := a0, slots := b0, locals := 23 } kc ks (some (.int r)) M G)  : ∀ (n : Nat) (x1 : Int32) (x3 : Int32) (x4 : Int32) (x5 : Int32) (x6 : Int32), lp_L_chosen_35_55  n x1 x3 x4 x5 x6 M = some r → G 55 [(0, .ref (adr E 35)), (1, .int x1), (3, .int x3), (4, .int x4), (5, .int x5), (6, .int x6)] [] M := by
  intro n
  induction n with
  | zero => intro x1 x3 x4 x5 x6 hf; cases hf
  | succ n ih => intro x1 x3 x4 x5 x6 hf; exact Lblp_L_chosen_35_55 l E T hG  (lp_L_chosen_35_55  n) ih x1 x3 x4 x5 x6 hf
set_option maxHeartbeats 4000000 in
set_option maxRecDepth 100000 in
theorem Lj_L_chosen_35_44 (l : Launch) (E : En) (T : List Sk) {a0 b0 kc ks : Nat} {r : Int32} {M : Mm} {G : Nat → List (Nat × Value) → List Value → Mm → Prop} (hG : RX l (SKX ++ T) E RX3 cX3_chosen 9 (some .int) { frames := 1, cells := a0, slots := b0, locals := 23 } kc ks (some (.int r)) M G)  : ∀ (x1 : Int32) (t0 : Int32), j_L_chosen_35_44  x1 t0 M = some r → G 44 [(0, .ref (adr E 35)), (1, .int x1)] [.int t0] M := by
  intro x1 t0 hf
  unfold j_L_chosen_35_44 at hf
  refine rx_istore_n (lv2 := [(3, .int t0), (0, .ref (adr E 35)), (1, .int x1)]) hG dX3_chosen_44 (Nat.le_of_ble_eq_true rfl) rfl ?_
  refine rx_bipush hG (-2) dX3_chosen_45 bp_m2 ?_
  refine rx_istore (lv2 := [(4, .int (-2)), (3, .int t0), (0, .ref (adr E 35)), (1, .int x1)]) hG dX3_chosen_47 (Nat.le_of_ble_eq_true rfl) rfl ?_
  refine rx_iconst hG 0 dX3_chosen_49 ic_0 ?_
  refine rx_istore (lv2 := [(5, .int 0), (4, .int (-2)), (3, .int t0), (0, .ref (adr E 35)), (1, .int x1)]) hG dX3_chosen_50 (Nat.le_of_ble_eq_true rfl) rfl ?_
  refine rx_iconst hG 0 dX3_chosen_52 ic_0 ?_
  refine rx_istore (lv2 := [(6, .int 0), (5, .int 0), (4, .int (-2)), (3, .int t0), (0, .ref (adr E 35)), (1, .int x1)]) hG dX3_chosen_53 (Nat.le_of_ble_eq_true rfl) rfl ?_
  refine rx_sub hG [4, 5, 3, 2, 1, 0] (lv' := [(0, .ref (adr E 35)), (1, .int x1), (3, .int t0), (4, .int (-2)), (5, .int 0), (6, .int 0)]) rfl ?_
  exact Llp_L_chosen_35_55 l E T hG  FW x1 t0 (-2) 0 0 hf
set_option maxHeartbeats 4000000 in
set_option maxRecDepth 100000 in
theorem Lj_L_chosen_35_27 (l : Launch) (E : En) (T : List Sk) {a0 b0 kc ks : Nat} {r : Int32} {M : Mm} {G : Nat → List (Nat × Value) → List Value → Mm → Prop} (hG : RX l (SKX ++ T) E RX3 cX3_chosen 9 (some .int) { frames := 1, cells := a0, slots := b0, locals := 23 } kc ks (some (.int r)) M G)  : ∀ (x1 : Int32) (t0 : Int32), j_L_chosen_35_27  x1 t0 M = some r → G 27 [(0, .ref (adr E 35)), (1, .int x1)] [.int t0] M := by
  intro x1 t0 hf
  unfold j_L_chosen_35_27 at hf
  refine rx_istore_n (lv2 := [(2, .int t0), (0, .ref (adr E 35)), (1, .int x1)]) hG dX3_chosen_27 (Nat.le_of_ble_eq_true rfl) rfl ?_
  refine rx_iload_n hG dX3_chosen_28 0 rfl ?_
  refine rx_if_eq hG 43 dX3_chosen_29 rfl (fun c1 => ?_) (fun c1 => ?_)
  · have hf := ifT hf c1
    refine rx_iconst hG 0 dX3_chosen_43 ic_0 ?_
    refine rx_sub hG [1, 2] (lv' := [(0, .ref (adr E 35)), (1, .int x1)]) rfl ?_
    exact Lj_L_chosen_35_44 l E T hG  x1 0 hf
  · have hf := ifF hf c1
    refine rx_aload_n hG dX3_chosen_32 1 rfl ?_
    refine gfX_L_21_35 l E T hG dX3_chosen_33 ?_
    refine rx_iload_n hG dX3_chosen_36 2 rfl ?_
    obtain ⟨v2, hv2, hf⟩ := bindE hf
    refine rx_iald hG (skX39 T) hv2 dX3_chosen_37 ?_
    refine rx_iconst hG 1 dX3_chosen_38 ic_1 ?_
    refine rx_iadd hG dX3_chosen_39 ?_
    refine rx_goto hG 44 dX3_chosen_40 rfl ?_
    refine rx_sub hG [1, 2] (lv' := [(0, .ref (adr E 35)), (1, .int x1)]) rfl ?_
    exact Lj_L_chosen_35_44 l E T hG  x1 (v2 + 1) hf
set_option maxHeartbeats 4000000 in
set_option maxRecDepth 100000 in
theorem Lj_L_chosen_35_26 (l : Launch) (E : En) (T : List Sk) {a0 b0 kc ks : Nat} {r : Int32} {M : Mm} {G : Nat → List (Nat × Value) → List Value → Mm → Prop} (hG : RX l (SKX ++ T) E RX3 cX3_chosen 9 (some .int) { frames := 1, cells := a0, slots := b0, locals := 23 } kc ks (some (.int r)) M G)  : ∀ (x1 : Int32), j_L_chosen_35_26  x1 M = some r → G 26 [(0, .ref (adr E 35)), (1, .int x1)] [] M := by
  intro x1 hf
  unfold j_L_chosen_35_26 at hf
  refine rx_iconst hG 0 dX3_chosen_26 ic_0 ?_
  exact Lj_L_chosen_35_27 l E T hG  x1 0 hf
set_option maxHeartbeats 4000000 in
set_option maxRecDepth 100000 in
theorem c_L_chosen_35 (l : Launch) (E : En) (T : List Sk) (p0 : Int32) {M : Mm} {r : Int32} (h : f_L_chosen_35 p0 M = some r) : Ct l (SKX ++ T) E yX3_chosen cX3_chosen 9 (some .int) 1 23 [.ref (adr E 35), .int p0] M (some (.int r)) M := by
  refine ct_of (by decide) (Nat.le_of_ble_eq_true rfl) ?_
  intro G hG
  show G 0 [(0, .ref (adr E 35)), (1, .int p0)] [] M
  have hf := h
  unfold f_L_chosen_35 at hf
  refine rx_aload_n hG dX3_chosen_0 0 rfl ?_
  refine gfX_L_52_35 l E T hG dX3_chosen_1 ?_
  refine gfX_L_169_32 l E T hG dX3_chosen_4 ?_
  refine rx_iconst hG 2 dX3_chosen_7 ic_2 ?_
  refine rx_icmp_ne hG 26 dX3_chosen_8 rfl (fun c1 => ?_) (fun c1 => ?_)
  · have hf := ifF hf c1
    exact Lj_L_chosen_35_26 l E T hG  p0 hf
  · have hf := ifT hf c1
    refine rx_aload_n hG dX3_chosen_11 0 rfl ?_
    refine gfX_L_21_35 l E T hG dX3_chosen_12 ?_
    refine rx_iload_n hG dX3_chosen_15 1 rfl ?_
    obtain ⟨v2, hv2, hf⟩ := bindE hf
    refine rx_iald hG (skX39 T) hv2 dX3_chosen_16 ?_
    refine rx_bipush hG (-2) dX3_chosen_17 bp_m2 ?_
    refine rx_icmp_eq hG 26 dX3_chosen_19 rfl (fun c3 => ?_) (fun c3 => ?_)
    · have hf := ifT hf c3
      exact Lj_L_chosen_35_26 l E T hG  p0 hf
    · have hf := ifF hf c3
      refine rx_iconst hG 1 dX3_chosen_22 ic_1 ?_
      refine rx_goto hG 27 dX3_chosen_23 rfl ?_
      exact Lj_L_chosen_35_27 l E T hG  p0 1 hf
set_option maxHeartbeats 4000000 in
set_option maxRecDepth 100000 in
theorem Lj_L_deliver_35_37 (l : Launch) (E : En) (T : List Sk) {a0 b0 kc ks : Nat} {M' : Mm} {G : Nat → List (Nat × Value) → List Value → Mm → Prop} (hG : RX l (SKX ++ T) E RX3 cX3_deliver 4 none { frames := 1, cells := a0, slots := b0, locals := 21 } kc ks none M' G)  : ∀ (x1 : Int32) (x2 : Int32) (t0 : Int32) (M : Mm), j_L_deliver_35_37  x1 x2 t0 M = some M' → G 37 [(0, .ref (adr E 35)), (1, .int x1), (2, .int x2)] [.int t0] M := by
  intro x1 x2 t0 M hf
  unfold j_L_deliver_35_37 at hf
  refine rx_istore_n (lv2 := [(3, .int t0), (0, .ref (adr E 35)), (1, .int x1), (2, .int x2)]) hG dX3_deliver_37 (Nat.le_of_ble_eq_true rfl) rfl ?_
  refine rx_iload_n hG dX3_deliver_38 0 rfl ?_
  refine rx_if_le hG 103 dX3_deliver_39 rfl (fun c1 => ?_) (fun c1 => ?_)
  · have hf := ifT hf c1
    cases hf
    exact rx_vret hG dX3_deliver_103
  · have hf := ifF hf c1
    refine rx_aload_n hG dX3_deliver_42 1 rfl ?_
    refine gfX_L_39_35 l E T hG dX3_deliver_43 ?_
    refine rx_iload_n hG dX3_deliver_46 2 rfl ?_
    refine rx_dup2 hG dX3_deliver_47 rfl rfl ?_
    obtain ⟨v2, hv2, hf⟩ := bindE hf
    refine rx_iald hG (skX45 T) hv2 dX3_deliver_48 ?_
    refine rx_iload_n hG dX3_deliver_49 0 rfl ?_
    refine rx_isub hG dX3_deliver_50 ?_
    obtain ⟨M3, hM3, hf⟩ := bindE hf
    refine rx_iast hG (skX45 T) hM3 dX3_deliver_51 ?_
    refine rx_aload_n hG dX3_deliver_52 1 rfl ?_
    refine gfX_L_9_35 l E T hG dX3_deliver_53 ?_
    refine rx_iload_n hG dX3_deliver_56 3 rfl ?_
    refine rx_dup2 hG dX3_deliver_57 rfl rfl ?_
    obtain ⟨v4, hv4, hf⟩ := bindE hf
    refine rx_iald hG (skX36 T) hv4 dX3_deliver_58 ?_
    refine rx_iload_n hG dX3_deliver_59 0 rfl ?_
    refine rx_isub hG dX3_deliver_60 ?_
    obtain ⟨M5, hM5, hf⟩ := bindE hf
    refine rx_iast hG (skX36 T) hM5 dX3_deliver_61 ?_
    refine rx_aload_n hG dX3_deliver_62 1 rfl ?_
    refine gfX_L_15_35 l E T hG dX3_deliver_63 ?_
    refine rx_iload_n hG dX3_deliver_66 3 rfl ?_
    refine rx_dup2 hG dX3_deliver_67 rfl rfl ?_
    obtain ⟨v6, hv6, hf⟩ := bindE hf
    refine rx_iald hG (skX37 T) hv6 dX3_deliver_68 ?_
    refine rx_iload_n hG dX3_deliver_69 0 rfl ?_
    refine rx_isub hG dX3_deliver_70 ?_
    obtain ⟨M7, hM7, hf⟩ := bindE hf
    refine rx_iast hG (skX37 T) hM7 dX3_deliver_71 ?_
    refine rx_aload_n hG dX3_deliver_72 1 rfl ?_
    refine rx_dup hG dX3_deliver_73 rfl ?_
    refine gfX_L_77_35 l E T hG dX3_deliver_74 ?_
    refine rx_iload_n hG dX3_deliver_77 0 rfl ?_
    refine rx_iadd hG dX3_deliver_78 ?_
    obtain ⟨M8, hM8, hf⟩ := bindE hf
    refine pfX_L_77_35 l E T hG hM8 dX3_deliver_79 ?_
    refine rx_aload_n hG dX3_deliver_82 1 rfl ?_
    refine gfX_L_45_35 l E T hG dX3_deliver_83 ?_
    refine rx_iload_n hG dX3_deliver_86 2 rfl ?_
    obtain ⟨v9, hv9, hf⟩ := bindE hf
    refine rx_iald hG (skX47 T) hv9 dX3_deliver_87 ?_
    refine rx_bipush hG (-2) dX3_deliver_88 bp_m2 ?_
    refine rx_icmp_ne hG 103 dX3_deliver_90 rfl (fun c10 => ?_) (fun c10 => ?_)
    · have hf := ifF hf c10
      cases hf
      exact rx_vret hG dX3_deliver_103
    · have hf := ifT hf c10
      refine rx_aload_n hG dX3_deliver_93 1 rfl ?_
      refine gfX_L_45_35 l E T hG dX3_deliver_94 ?_
      refine rx_iload_n hG dX3_deliver_97 2 rfl ?_
      refine rx_aload_n hG dX3_deliver_98 1 rfl ?_
      refine gfX_L_73_35 l E T hG dX3_deliver_99 ?_
      obtain ⟨M11, hM11, hf⟩ := bindE hf
      refine rx_iast hG (skX47 T) hM11 dX3_deliver_102 ?_
      cases hf
      exact rx_vret hG dX3_deliver_103
set_option maxHeartbeats 4000000 in
set_option maxRecDepth 100000 in
theorem c_L_deliver_35 (l : Launch) (E : En) (T : List Sk) (p0 : Int32) {M M' : Mm} (h : f_L_deliver_35 p0 M = some M') : Ct l (SKX ++ T) E yX3_deliver cX3_deliver 4 none 1 21 [.ref (adr E 35), .int p0] M none M' := by
  refine ct_of (by decide) (Nat.le_of_ble_eq_true rfl) ?_
  intro G hG
  show G 0 [(0, .ref (adr E 35)), (1, .int p0)] [] M
  have hf := h
  unfold f_L_deliver_35 at hf
  refine rx_aload_n hG dX3_deliver_0 0 rfl ?_
  refine gfX_L_48_35 l E T hG dX3_deliver_1 ?_
  refine gfX_L_102_2 l E T hG dX3_deliver_4 ?_
  refine rx_iconst hG 1 dX3_deliver_7 ic_1 ?_
  refine rx_isub hG dX3_deliver_8 ?_
  refine rx_iload_n hG dX3_deliver_9 1 rfl ?_
  obtain ⟨v1, hv1, hf⟩ := bindE hf
  refine rx_cNi hG (c_P_cell l E (SKX ++ T) ((M.1 2 1) - 1) p0 hv1) kw_L_151 ⟨Nat.le_of_ble_eq_true rfl, Nat.le_of_ble_eq_true rfl⟩ rfl (Nat.le_of_ble_eq_true rfl) dX3_deliver_10 ?_
  refine rx_istore_n (lv2 := [(2, .int v1), (0, .ref (adr E 35)), (1, .int p0)]) hG dX3_deliver_13 (Nat.le_of_ble_eq_true rfl) rfl ?_
  refine rx_iload_n hG dX3_deliver_14 0 rfl ?_
  refine rx_if_lt hG 36 dX3_deliver_15 rfl (fun c2 => ?_) (fun c2 => ?_)
  · have hf := ifT hf c2
    refine rx_iconst hG 0 dX3_deliver_36 ic_0 ?_
    refine rx_sub hG [1, 2, 0] (lv' := [(0, .ref (adr E 35)), (1, .int p0), (2, .int v1)]) rfl ?_
    exact Lj_L_deliver_35_37 l E T hG  p0 v1 0 M hf
  · have hf := ifF hf c2
    refine rx_aload_n hG dX3_deliver_18 1 rfl ?_
    refine gfX_L_39_35 l E T hG dX3_deliver_19 ?_
    refine rx_iload_n hG dX3_deliver_22 2 rfl ?_
    obtain ⟨v3, hv3, hf⟩ := bindE hf
    refine rx_iald hG (skX45 T) hv3 dX3_deliver_23 ?_
    refine rx_aload_n hG dX3_deliver_24 1 rfl ?_
    refine gfX_L_9_35 l E T hG dX3_deliver_25 ?_
    refine rx_iload_n hG dX3_deliver_28 0 rfl ?_
    obtain ⟨v4, hv4, hf⟩ := bindE hf
    refine rx_iald hG (skX36 T) hv4 dX3_deliver_29 ?_
    refine rx_min hG kw_L_113 ⟨Nat.le_of_ble_eq_true rfl, Nat.le_of_ble_eq_true rfl⟩ dX3_deliver_30 ?_
    refine rx_goto hG 37 dX3_deliver_33 rfl ?_
    refine rx_sub hG [1, 2, 0] (lv' := [(0, .ref (adr E 35)), (1, .int p0), (2, .int v1)]) rfl ?_
    exact Lj_L_deliver_35_37 l E T hG  p0 v1 (mn v3 v4) M hf
set_option maxHeartbeats 4000000 in
set_option maxRecDepth 100000 in
theorem c_L_takeOrder_35 (l : Launch) (E : En) (T : List Sk) (p0 : Int32) {M M' : Mm} (h : f_L_takeOrder_35 p0 M = some M') : Ct l (SKX ++ T) E yX3_takeOrder cX3_takeOrder 4 none 1 21 [.ref (adr E 35), .int p0] M none M' := by
  refine ct_of (by decide) (Nat.le_of_ble_eq_true rfl) ?_
  intro G hG
  show G 0 [(0, .ref (adr E 35)), (1, .int p0)] [] M
  have hf := h
  unfold f_L_takeOrder_35 at hf
  refine rx_aload_n hG dX3_takeOrder_0 0 rfl ?_
  refine gfX_L_73_35 l E T hG dX3_takeOrder_1 ?_
  refine rx_aload_n hG dX3_takeOrder_4 0 rfl ?_
  refine gfX_L_48_35 l E T hG dX3_takeOrder_5 ?_
  refine gfX_L_122_2 l E T hG dX3_takeOrder_8 ?_
  refine rx_iload_n hG dX3_takeOrder_11 1 rfl ?_
  obtain ⟨v1, hv1, hf⟩ := bindE hf
  refine rx_iald hG (skX8 T) hv1 dX3_takeOrder_12 ?_
  refine rx_isub hG dX3_takeOrder_13 ?_
  refine rx_istore_n (lv2 := [(2, .int ((M.1 35 14) - v1)), (0, .ref (adr E 35)), (1, .int p0)]) hG dX3_takeOrder_14 (Nat.le_of_ble_eq_true rfl) rfl ?_
  refine rx_iload_n hG dX3_takeOrder_15 0 rfl ?_
  refine rx_if_lt hG 65 dX3_takeOrder_16 rfl (fun c2 => ?_) (fun c2 => ?_)
  · have hf := ifT hf c2
    cases hf
    exact rx_vret hG dX3_takeOrder_65
  · have hf := ifF hf c2
    refine rx_iload_n hG dX3_takeOrder_19 0 rfl ?_
    refine rx_aload_n hG dX3_takeOrder_20 1 rfl ?_
    refine gfX_L_48_35 l E T hG dX3_takeOrder_21 ?_
    refine gfX_L_125_2 l E T hG dX3_takeOrder_24 ?_
    refine rx_iload_n hG dX3_takeOrder_27 2 rfl ?_
    obtain ⟨v3, hv3, hf⟩ := bindE hf
    refine rx_iald hG (skX7 T) hv3 dX3_takeOrder_28 ?_
    obtain ⟨v4, hv4, hf⟩ := bindE hf
    refine rx_cNi hG (c_P_remainder l E (SKX ++ T) ((M.1 35 14) - v1) v3 hv4) kw_L_128 ⟨Nat.le_of_ble_eq_true rfl, Nat.le_of_ble_eq_true rfl⟩ rfl (Nat.le_of_ble_eq_true rfl) dX3_takeOrder_29 ?_
    refine rx_if_ne hG 65 dX3_takeOrder_32 rfl (fun c5 => ?_) (fun c5 => ?_)
    · have hf := ifF hf c5
      cases hf
      exact rx_vret hG dX3_takeOrder_65
    · have hf := ifT hf c5
      refine rx_aload_n hG dX3_takeOrder_35 1 rfl ?_
      refine gfX_L_48_35 l E T hG dX3_takeOrder_36 ?_
      refine gfX_L_160_2 l E T hG dX3_takeOrder_39 ?_
      refine rx_iload_n hG dX3_takeOrder_42 2 rfl ?_
      obtain ⟨v6, hv6, hf⟩ := bindE hf
      refine rx_iald hG (skX6 T) hv6 dX3_takeOrder_43 ?_
      refine rx_istore_n (lv2 := [(3, .int v6), (2, .int ((M.1 35 14) - v1)), (0, .ref (adr E 35)), (1, .int p0)]) hG dX3_takeOrder_44 (Nat.le_of_ble_eq_true rfl) rfl ?_
      refine rx_aload_n hG dX3_takeOrder_45 2 rfl ?_
      refine gfX_L_36_35 l E T hG dX3_takeOrder_46 ?_
      refine rx_iload_n hG dX3_takeOrder_49 0 rfl ?_
      refine rx_dup2 hG dX3_takeOrder_50 rfl rfl ?_
      obtain ⟨v7, hv7, hf⟩ := bindE hf
      refine rx_iald hG (skX44 T) hv7 dX3_takeOrder_51 ?_
      refine rx_iconst hG 1 dX3_takeOrder_52 ic_1 ?_
      refine rx_iadd hG dX3_takeOrder_53 ?_
      obtain ⟨M8, hM8, hf⟩ := bindE hf
      refine rx_iast hG (skX44 T) hM8 dX3_takeOrder_54 ?_
      refine rx_aload_n hG dX3_takeOrder_55 2 rfl ?_
      refine gfX_L_39_35 l E T hG dX3_takeOrder_56 ?_
      refine rx_iload_n hG dX3_takeOrder_59 0 rfl ?_
      refine rx_dup2 hG dX3_takeOrder_60 rfl rfl ?_
      obtain ⟨v9, hv9, hf⟩ := bindE hf
      refine rx_iald hG (skX45 T) hv9 dX3_takeOrder_61 ?_
      refine rx_iconst hG 1 dX3_takeOrder_62 ic_1 ?_
      refine rx_iadd hG dX3_takeOrder_63 ?_
      obtain ⟨M10, hM10, hf⟩ := bindE hf
      refine rx_iast hG (skX45 T) hM10 dX3_takeOrder_64 ?_
      cases hf
      exact rx_vret hG dX3_takeOrder_65
set_option maxHeartbeats 4000000 in
set_option maxRecDepth 100000 in
theorem Lj_L_endAt_35_69 (l : Launch) (E : En) (T : List Sk) {a0 b0 kc ks : Nat} {M' : Mm} {G : Nat → List (Nat × Value) → List Value → Mm → Prop} (hG : RX l (SKX ++ T) E RX3 cX3_endAt 2 none { frames := 1, cells := a0, slots := b0, locals := 21 } kc ks none M' G)  : ∀ (x1 : Int32) (M : Mm), j_L_endAt_35_69  x1 M = some M' → G 69 [(0, .ref (adr E 35)), (1, .int x1)] [] M := by
  intro x1 M hf
  unfold j_L_endAt_35_69 at hf
  refine rx_aload_n hG dX3_endAt_69 0 rfl ?_
  refine gfX_L_27_35 l E T hG dX3_endAt_70 ?_
  refine rx_iload_n hG dX3_endAt_73 1 rfl ?_
  refine rx_dup2 hG dX3_endAt_74 rfl rfl ?_
  obtain ⟨v1, hv1, hf⟩ := bindE hf
  refine rx_iald hG (skX41 T) hv1 dX3_endAt_75 ?_
  refine rx_iconst hG 1 dX3_endAt_76 ic_1 ?_
  refine rx_iadd hG dX3_endAt_77 ?_
  obtain ⟨M2, hM2, hf⟩ := bindE hf
  refine rx_iast hG (skX41 T) hM2 dX3_endAt_78 ?_
  refine rx_aload_n hG dX3_endAt_79 0 rfl ?_
  refine gfX_L_18_35 l E T hG dX3_endAt_80 ?_
  refine rx_iload_n hG dX3_endAt_83 1 rfl ?_
  refine rx_iconst hG 0 dX3_endAt_84 ic_0 ?_
  obtain ⟨M3, hM3, hf⟩ := bindE hf
  refine rx_iast hG (skX38 T) hM3 dX3_endAt_85 ?_
  refine rx_aload_n hG dX3_endAt_86 0 rfl ?_
  refine gfX_L_48_35 l E T hG dX3_endAt_87 ?_
  refine gfX_L_154_2 l E T hG dX3_endAt_90 ?_
  refine rx_iload_n hG dX3_endAt_93 1 rfl ?_
  obtain ⟨v4, hv4, hf⟩ := bindE hf
  refine rx_iald hG (skX5 T) hv4 dX3_endAt_94 ?_
  refine rx_if_le hG 146 dX3_endAt_95 rfl (fun c5 => ?_) (fun c5 => ?_)
  · have hf := ifT hf c5
    cases hf
    exact rx_vret hG dX3_endAt_146
  · have hf := ifF hf c5
    refine rx_aload_n hG dX3_endAt_98 0 rfl ?_
    refine gfX_L_27_35 l E T hG dX3_endAt_99 ?_
    refine rx_iload_n hG dX3_endAt_102 1 rfl ?_
    obtain ⟨v6, hv6, hf⟩ := bindE hf
    refine rx_iald hG (skX41 T) hv6 dX3_endAt_103 ?_
    refine rx_aload_n hG dX3_endAt_104 0 rfl ?_
    refine gfX_L_48_35 l E T hG dX3_endAt_105 ?_
    refine gfX_L_154_2 l E T hG dX3_endAt_108 ?_
    refine rx_iload_n hG dX3_endAt_111 1 rfl ?_
    obtain ⟨v7, hv7, hf⟩ := bindE hf
    refine rx_iald hG (skX5 T) hv7 dX3_endAt_112 ?_
    obtain ⟨v8, hv8, hf⟩ := bindE hf
    refine rx_cNi hG (c_P_remainder l E (SKX ++ T) v6 v7 hv8) kw_L_128 ⟨Nat.le_of_ble_eq_true rfl, Nat.le_of_ble_eq_true rfl⟩ rfl (Nat.le_of_ble_eq_true rfl) dX3_endAt_113 ?_
    refine rx_if_ne hG 146 dX3_endAt_116 rfl (fun c9 => ?_) (fun c9 => ?_)
    · have hf := ifF hf c9
      cases hf
      exact rx_vret hG dX3_endAt_146
    · have hf := ifT hf c9
      refine rx_aload_n hG dX3_endAt_119 0 rfl ?_
      refine gfX_L_18_35 l E T hG dX3_endAt_120 ?_
      refine rx_iload_n hG dX3_endAt_123 1 rfl ?_
      refine rx_iconst hG 2 dX3_endAt_124 ic_2 ?_
      obtain ⟨M10, hM10, hf⟩ := bindE hf
      refine rx_iast hG (skX38 T) hM10 dX3_endAt_125 ?_
      refine rx_aload_n hG dX3_endAt_126 0 rfl ?_
      refine gfX_L_24_35 l E T hG dX3_endAt_127 ?_
      refine rx_iload_n hG dX3_endAt_130 1 rfl ?_
      refine rx_aload_n hG dX3_endAt_131 0 rfl ?_
      refine gfX_L_73_35 l E T hG dX3_endAt_132 ?_
      refine rx_aload_n hG dX3_endAt_135 0 rfl ?_
      refine gfX_L_48_35 l E T hG dX3_endAt_136 ?_
      refine gfX_L_157_2 l E T hG dX3_endAt_139 ?_
      refine rx_iload_n hG dX3_endAt_142 1 rfl ?_
      obtain ⟨v11, hv11, hf⟩ := bindE hf
      refine rx_iald hG (skX4 T) hv11 dX3_endAt_143 ?_
      refine rx_iadd hG dX3_endAt_144 ?_
      obtain ⟨M12, hM12, hf⟩ := bindE hf
      refine rx_iast hG (skX40 T) hM12 dX3_endAt_145 ?_
      cases hf
      exact rx_vret hG dX3_endAt_146
set_option maxHeartbeats 4000000 in
set_option maxRecDepth 100000 in
theorem c_L_endAt_35 (l : Launch) (E : En) (T : List Sk) (p0 : Int32) {M M' : Mm} (h : f_L_endAt_35 p0 M = some M') : Ct l (SKX ++ T) E yX3_endAt cX3_endAt 2 none 1 21 [.ref (adr E 35), .int p0] M none M' := by
  refine ct_of (by decide) (Nat.le_of_ble_eq_true rfl) ?_
  intro G hG
  show G 0 [(0, .ref (adr E 35)), (1, .int p0)] [] M
  have hf := h
  unfold f_L_endAt_35 at hf
  refine rx_aload_n hG dX3_endAt_0 0 rfl ?_
  refine gfX_L_18_35 l E T hG dX3_endAt_1 ?_
  refine rx_iload_n hG dX3_endAt_4 1 rfl ?_
  obtain ⟨v1, hv1, hf⟩ := bindE hf
  refine rx_iald hG (skX38 T) hv1 dX3_endAt_5 ?_
  refine rx_if_eq hG 22 dX3_endAt_6 rfl (fun c2 => ?_) (fun c2 => ?_)
  · have hf := ifT hf c2
    cases hf
    exact rx_vret hG dX3_endAt_22
  · have hf := ifF hf c2
    refine rx_aload_n hG dX3_endAt_9 0 rfl ?_
    refine gfX_L_24_35 l E T hG dX3_endAt_10 ?_
    refine rx_iload_n hG dX3_endAt_13 1 rfl ?_
    obtain ⟨v3, hv3, hf⟩ := bindE hf
    refine rx_iald hG (skX40 T) hv3 dX3_endAt_14 ?_
    refine rx_aload_n hG dX3_endAt_15 0 rfl ?_
    refine gfX_L_73_35 l E T hG dX3_endAt_16 ?_
    refine rx_icmp_eq hG 23 dX3_endAt_19 rfl (fun c4 => ?_) (fun c4 => ?_)
    · have hf := ifT hf c4
      refine rx_aload_n hG dX3_endAt_23 0 rfl ?_
      refine gfX_L_18_35 l E T hG dX3_endAt_24 ?_
      refine rx_iload_n hG dX3_endAt_27 1 rfl ?_
      obtain ⟨v5, hv5, hf⟩ := bindE hf
      refine rx_iald hG (skX38 T) hv5 dX3_endAt_28 ?_
      refine rx_iconst hG 2 dX3_endAt_29 ic_2 ?_
      refine rx_icmp_ne hG 41 dX3_endAt_30 rfl (fun c6 => ?_) (fun c6 => ?_)
      · have hf := ifF hf c6
        refine rx_aload_n hG dX3_endAt_41 0 rfl ?_
        refine gfX_L_21_35 l E T hG dX3_endAt_42 ?_
        refine rx_iload_n hG dX3_endAt_45 1 rfl ?_
        obtain ⟨v7, hv7, hf⟩ := bindE hf
        refine rx_iald hG (skX39 T) hv7 dX3_endAt_46 ?_
        refine rx_if_lt hG 69 dX3_endAt_47 rfl (fun c8 => ?_) (fun c8 => ?_)
        · have hf := ifT hf c8
          exact Lj_L_endAt_35_69 l E T hG  p0 M hf
        · have hf := ifF hf c8
          refine rx_aload_n hG dX3_endAt_50 0 rfl ?_
          refine gfX_L_9_35 l E T hG dX3_endAt_51 ?_
          refine rx_iload_n hG dX3_endAt_54 1 rfl ?_
          refine rx_aload_n hG dX3_endAt_55 0 rfl ?_
          refine gfX_L_21_35 l E T hG dX3_endAt_56 ?_
          refine rx_iload_n hG dX3_endAt_59 1 rfl ?_
          obtain ⟨v9, hv9, hf⟩ := bindE hf
          refine rx_iald hG (skX39 T) hv9 dX3_endAt_60 ?_
          obtain ⟨v10, hv10, hf⟩ := bindE hf
          refine rx_cNi hG (c_P_cell l E (SKX ++ T) p0 v9 hv10) kw_L_151 ⟨Nat.le_of_ble_eq_true rfl, Nat.le_of_ble_eq_true rfl⟩ rfl (Nat.le_of_ble_eq_true rfl) dX3_endAt_61 ?_
          refine rx_dup2 hG dX3_endAt_64 rfl rfl ?_
          obtain ⟨v11, hv11, hf⟩ := bindE hf
          refine rx_iald hG (skX36 T) hv11 dX3_endAt_65 ?_
          refine rx_iconst hG 1 dX3_endAt_66 ic_1 ?_
          refine rx_iadd hG dX3_endAt_67 ?_
          obtain ⟨M12, hM12, hf⟩ := bindE hf
          refine rx_iast hG (skX36 T) hM12 dX3_endAt_68 ?_
          exact Lj_L_endAt_35_69 l E T hG  p0 M12 hf
      · have hf := ifT hf c6
        refine rx_aload_n hG dX3_endAt_33 0 rfl ?_
        refine gfX_L_18_35 l E T hG dX3_endAt_34 ?_
        refine rx_iload_n hG dX3_endAt_37 1 rfl ?_
        refine rx_iconst hG 0 dX3_endAt_38 ic_0 ?_
        obtain ⟨M13, hM13, hf⟩ := bindE hf
        refine rx_iast hG (skX38 T) hM13 dX3_endAt_39 ?_
        cases hf
        exact rx_vret hG dX3_endAt_40
    · have hf := ifF hf c4
      cases hf
      exact rx_vret hG dX3_endAt_22
set_option maxHeartbeats 4000000 in
set_option maxRecDepth 100000 in
theorem Lj_L_change_35_116 (l : Launch) (E : En) (T : List Sk) {a0 b0 kc ks : Nat} {M' : Mm} {G : Nat → List (Nat × Value) → List Value → Mm → Prop} (hG : RX l (SKX ++ T) E RX3 cX3_change 3 none { frames := 2, cells := a0, slots := b0, locals := 51 } kc ks none M' G) (rc82 : Int32 → Mm → Option Mm) (hrc82 : ∀ (x1 : Int32) (M : Mm), rc82 x1 M = some M' → G 82 [(0, .ref (adr E 35)), (1, .int x1)] [] M) : ∀ (x1 : Int32) (M : Mm), j_L_change_35_116 rc82 x1 M = some M' → G 116 [(0, .ref (adr E 35)), (1, .int x1)] [] M := by
  intro x1 M hf
  unfold j_L_change_35_116 at hf
  refine rx_iinc (lv2 := [(1, .int (x1 + (-1))), (0, .ref (adr E 35))]) hG (-1) dX3_change_116 ic_m1 1 rfl (Nat.le_of_ble_eq_true rfl) rfl ?_
  refine rx_goto hG 82 dX3_change_119 rfl ?_
  refine rx_sub hG [1, 0] (lv' := [(0, .ref (adr E 35)), (1, .int (x1 + (-1)))]) rfl ?_
  exact hrc82 (x1 + (-1)) M hf
set_option maxHeartbeats 4000000 in
set_option maxRecDepth 100000 in
theorem Lj_L_change_35_105 (l : Launch) (E : En) (T : List Sk) {a0 b0 kc ks : Nat} {M' : Mm} {G : Nat → List (Nat × Value) → List Value → Mm → Prop} (hG : RX l (SKX ++ T) E RX3 cX3_change 3 none { frames := 2, cells := a0, slots := b0, locals := 51 } kc ks none M' G) (rc82 : Int32 → Mm → Option Mm) (hrc82 : ∀ (x1 : Int32) (M : Mm), rc82 x1 M = some M' → G 82 [(0, .ref (adr E 35)), (1, .int x1)] [] M) : ∀ (x1 : Int32) (t0 : Int32) (M : Mm), j_L_change_35_105 rc82 x1 t0 M = some M' → G 105 [(0, .ref (adr E 35)), (1, .int x1)] [.int t0] M := by
  intro x1 t0 M hf
  unfold j_L_change_35_105 at hf
  refine rx_istore_n (lv2 := [(2, .int t0), (0, .ref (adr E 35)), (1, .int x1)]) hG dX3_change_105 (Nat.le_of_ble_eq_true rfl) rfl ?_
  refine rx_iload_n hG dX3_change_106 0 rfl ?_
  refine rx_if_lt hG 116 dX3_change_107 rfl (fun c1 => ?_) (fun c1 => ?_)
  · have hf := ifT hf c1
    refine rx_sub hG [1, 2] (lv' := [(0, .ref (adr E 35)), (1, .int x1)]) rfl ?_
    exact Lj_L_change_35_116 l E T hG rc82 hrc82 x1 M hf
  · have hf := ifF hf c1
    refine rx_aload_n hG dX3_change_110 1 rfl ?_
    refine rx_iload_n hG dX3_change_111 2 rfl ?_
    refine rx_iload_n hG dX3_change_112 0 rfl ?_
    obtain ⟨M2, hM2, hf⟩ := bindE hf
    refine rx_cVv hG (c_L_beginAt_35 l E T x1 t0 hM2) (skX35 T) rfl rfl kw_L_147 ⟨Nat.le_of_ble_eq_true rfl, Nat.le_of_ble_eq_true rfl⟩ rfl (Nat.le_of_ble_eq_true rfl) dX3_change_113 ?_
    refine rx_sub hG [1, 2] (lv' := [(0, .ref (adr E 35)), (1, .int x1)]) rfl ?_
    exact Lj_L_change_35_116 l E T hG rc82 hrc82 x1 M2 hf
set_option maxHeartbeats 4000000 in
set_option maxRecDepth 100000 in
theorem Lblp_L_change_35_82 (l : Launch) (E : En) (T : List Sk) {a0 b0 kc ks : Nat} {M' : Mm} {G : Nat → List (Nat × Value) → List Value → Mm → Prop} (hG : RX l (SKX ++ T) E RX3 cX3_change 3 none { frames := 2, cells := a0, slots := b0, locals := 51 } kc ks none M' G) (rc82 : Int32 → Mm → Option Mm) (hrc82 : ∀ (x1 : Int32) (M : Mm), rc82 x1 M = some M' → G 82 [(0, .ref (adr E 35)), (1, .int x1)] [] M) : ∀ (x1 : Int32) (M : Mm), blp_L_change_35_82 rc82 x1 M = some M' → G 82 [(0, .ref (adr E 35)), (1, .int x1)] [] M := by
  intro x1 M hf
  unfold blp_L_change_35_82 at hf
  refine rx_iload_n hG dX3_change_82 1 rfl ?_
  refine rx_if_lt hG 122 dX3_change_83 rfl (fun c1 => ?_) (fun c1 => ?_)
  · have hf := ifT hf c1
    cases hf
    exact rx_vret hG dX3_change_122
  · have hf := ifF hf c1
    refine rx_aload_n hG dX3_change_86 0 rfl ?_
    refine gfX_L_18_35 l E T hG dX3_change_87 ?_
    refine rx_iload_n hG dX3_change_90 1 rfl ?_
    obtain ⟨v2, hv2, hf⟩ := bindE hf
    refine rx_iald hG (skX38 T) hv2 dX3_change_91 ?_
    refine rx_if_ne hG 103 dX3_change_92 rfl (fun c3 => ?_) (fun c3 => ?_)
    · have hf := ifF hf c3
      refine rx_bipush hG (-2) dX3_change_103 bp_m2 ?_
      exact Lj_L_change_35_105 l E T hG rc82 hrc82 x1 (-2) M hf
    · have hf := ifT hf c3
      refine rx_aload_n hG dX3_change_95 0 rfl ?_
      refine rx_iload_n hG dX3_change_96 1 rfl ?_
      obtain ⟨v4, hv4, hf⟩ := bindE hf
      refine rx_cVi hG (c_L_chosen_35 l E T x1 hv4) (skX35 T) rfl rfl kw_L_144 ⟨Nat.le_of_ble_eq_true rfl, Nat.le_of_ble_eq_true rfl⟩ rfl (Nat.le_of_ble_eq_true rfl) dX3_change_97 ?_
      refine rx_goto hG 105 dX3_change_100 rfl ?_
      exact Lj_L_change_35_105 l E T hG rc82 hrc82 x1 v4 M hf
theorem Llp_L_change_35_82 (l : Launch) (E : En) (T : List Sk) {a0 b0 kc ks : Nat} {M' : Mm} {G : Nat → List (Nat × Value) → List Value → Mm → Prop} (hG : RX l (SKX ++ T) E RX3 cX3_change 3 none { frames := 2, cells := a0, slots := b0, locals := 51 } kc ks none M' G)  : ∀ (n : Nat) (x1 : Int32) (M : Mm), lp_L_change_35_82  n x1 M = some M' → G 82 [(0, .ref (adr E 35)), (1, .int x1)] [] M := by
  intro n
  induction n with
  | zero => intro x1 M hf; cases hf
  | succ n ih => intro x1 M hf; exact Lblp_L_change_35_82 l E T hG  (lp_L_change_35_82  n) ih x1 M hf
set_option maxHeartbeats 4000000 in
set_option maxRecDepth 100000 in
theorem Lj_L_change_35_72 (l : Launch) (E : En) (T : List Sk) {a0 b0 kc ks : Nat} {M' : Mm} {G : Nat → List (Nat × Value) → List Value → Mm → Prop} (hG : RX l (SKX ++ T) E RX3 cX3_change 3 none { frames := 2, cells := a0, slots := b0, locals := 51 } kc ks none M' G)  : ∀  (M : Mm), j_L_change_35_72  M = some M' → G 72 [(0, .ref (adr E 35))] [] M := by
  intro M hf
  unfold j_L_change_35_72 at hf
  refine rx_aload_n hG dX3_change_72 0 rfl ?_
  refine gfX_L_48_35 l E T hG dX3_change_73 ?_
  refine gfX_L_102_2 l E T hG dX3_change_76 ?_
  refine rx_iconst hG 1 dX3_change_79 ic_1 ?_
  refine rx_isub hG dX3_change_80 ?_
  refine rx_istore_n (lv2 := [(1, .int ((M.1 2 1) - 1)), (0, .ref (adr E 35))]) hG dX3_change_81 (Nat.le_of_ble_eq_true rfl) rfl ?_
  refine rx_sub hG [1, 0] (lv' := [(0, .ref (adr E 35)), (1, .int ((M.1 2 1) - 1))]) rfl ?_
  exact Llp_L_change_35_82 l E T hG  FW ((M.1 2 1) - 1) M hf
set_option maxHeartbeats 4000000 in
set_option maxRecDepth 100000 in
theorem Lblp_L_change_35_50 (l : Launch) (E : En) (T : List Sk) {a0 b0 kc ks : Nat} {M' : Mm} {G : Nat → List (Nat × Value) → List Value → Mm → Prop} (hG : RX l (SKX ++ T) E RX3 cX3_change 3 none { frames := 2, cells := a0, slots := b0, locals := 51 } kc ks none M' G) (rc50 : Int32 → Mm → Option Mm) (hrc50 : ∀ (x1 : Int32) (M : Mm), rc50 x1 M = some M' → G 50 [(0, .ref (adr E 35)), (1, .int x1)] [] M) : ∀ (x1 : Int32) (M : Mm), blp_L_change_35_50 rc50 x1 M = some M' → G 50 [(0, .ref (adr E 35)), (1, .int x1)] [] M := by
  intro x1 M hf
  unfold blp_L_change_35_50 at hf
  refine rx_iload_n hG dX3_change_50 1 rfl ?_
  refine rx_aload_n hG dX3_change_51 0 rfl ?_
  refine gfX_L_48_35 l E T hG dX3_change_52 ?_
  refine gfX_L_138_2 l E T hG dX3_change_55 ?_
  refine rx_icmp_ge hG 72 dX3_change_58 rfl (fun c1 => ?_) (fun c1 => ?_)
  · have hf := ifT hf c1
    refine rx_sub hG [0] (lv' := [(0, .ref (adr E 35))]) rfl ?_
    exact Lj_L_change_35_72 l E T hG  M hf
  · have hf := ifF hf c1
    refine rx_aload_n hG dX3_change_61 0 rfl ?_
    refine rx_iload_n hG dX3_change_62 1 rfl ?_
    obtain ⟨M2, hM2, hf⟩ := bindE hf
    refine rx_cVv hG (c_L_deliver_35 l E T x1 hM2) (skX35 T) rfl rfl kw_L_141 ⟨Nat.le_of_ble_eq_true rfl, Nat.le_of_ble_eq_true rfl⟩ rfl (Nat.le_of_ble_eq_true rfl) dX3_change_63 ?_
    refine rx_iinc (lv2 := [(1, .int (x1 + 1)), (0, .ref (adr E 35))]) hG 1 dX3_change_66 ic_1 1 rfl (Nat.le_of_ble_eq_true rfl) rfl ?_
    refine rx_goto hG 50 dX3_change_69 rfl ?_
    refine rx_sub hG [1, 0] (lv' := [(0, .ref (adr E 35)), (1, .int (x1 + 1))]) rfl ?_
    exact hrc50 (x1 + 1) M2 hf
theorem Llp_L_change_35_50 (l : Launch) (E : En) (T : List Sk) {a0 b0 kc ks : Nat} {M' : Mm} {G : Nat → List (Nat × Value) → List Value → Mm → Prop} (hG : RX l (SKX ++ T) E RX3 cX3_change 3 none { frames := 2, cells := a0, slots := b0, locals := 51 } kc ks none M' G)  : ∀ (n : Nat) (x1 : Int32) (M : Mm), lp_L_change_35_50  n x1 M = some M' → G 50 [(0, .ref (adr E 35)), (1, .int x1)] [] M := by
  intro n
  induction n with
  | zero => intro x1 M hf; cases hf
  | succ n ih => intro x1 M hf; exact Lblp_L_change_35_50 l E T hG  (lp_L_change_35_50  n) ih x1 M hf
set_option maxHeartbeats 4000000 in
set_option maxRecDepth 100000 in
theorem Lj_L_change_35_48 (l : Launch) (E : En) (T : List Sk) {a0 b0 kc ks : Nat} {M' : Mm} {G : Nat → List (Nat × Value) → List Value → Mm → Prop} (hG : RX l (SKX ++ T) E RX3 cX3_change 3 none { frames := 2, cells := a0, slots := b0, locals := 51 } kc ks none M' G)  : ∀  (M : Mm), j_L_change_35_48  M = some M' → G 48 [(0, .ref (adr E 35))] [] M := by
  intro M hf
  unfold j_L_change_35_48 at hf
  refine rx_iconst hG 0 dX3_change_48 ic_0 ?_
  refine rx_istore_n (lv2 := [(1, .int 0), (0, .ref (adr E 35))]) hG dX3_change_49 (Nat.le_of_ble_eq_true rfl) rfl ?_
  refine rx_sub hG [1, 0] (lv' := [(0, .ref (adr E 35)), (1, .int 0)]) rfl ?_
  exact Llp_L_change_35_50 l E T hG  FW 0 M hf
set_option maxHeartbeats 4000000 in
set_option maxRecDepth 100000 in
theorem Lblp_L_change_35_26 (l : Launch) (E : En) (T : List Sk) {a0 b0 kc ks : Nat} {M' : Mm} {G : Nat → List (Nat × Value) → List Value → Mm → Prop} (hG : RX l (SKX ++ T) E RX3 cX3_change 3 none { frames := 2, cells := a0, slots := b0, locals := 51 } kc ks none M' G) (rc26 : Int32 → Mm → Option Mm) (hrc26 : ∀ (x1 : Int32) (M : Mm), rc26 x1 M = some M' → G 26 [(0, .ref (adr E 35)), (1, .int x1)] [] M) : ∀ (x1 : Int32) (M : Mm), blp_L_change_35_26 rc26 x1 M = some M' → G 26 [(0, .ref (adr E 35)), (1, .int x1)] [] M := by
  intro x1 M hf
  unfold blp_L_change_35_26 at hf
  refine rx_iload_n hG dX3_change_26 1 rfl ?_
  refine rx_aload_n hG dX3_change_27 0 rfl ?_
  refine gfX_L_48_35 l E T hG dX3_change_28 ?_
  refine gfX_L_107_2 l E T hG dX3_change_31 ?_
  refine rx_icmp_ge hG 48 dX3_change_34 rfl (fun c1 => ?_) (fun c1 => ?_)
  · have hf := ifT hf c1
    refine rx_sub hG [0] (lv' := [(0, .ref (adr E 35))]) rfl ?_
    exact Lj_L_change_35_48 l E T hG  M hf
  · have hf := ifF hf c1
    refine rx_aload_n hG dX3_change_37 0 rfl ?_
    refine rx_iload_n hG dX3_change_38 1 rfl ?_
    obtain ⟨M2, hM2, hf⟩ := bindE hf
    refine rx_cVv hG (c_L_takeOrder_35 l E T x1 hM2) (skX35 T) rfl rfl kw_L_135 ⟨Nat.le_of_ble_eq_true rfl, Nat.le_of_ble_eq_true rfl⟩ rfl (Nat.le_of_ble_eq_true rfl) dX3_change_39 ?_
    refine rx_iinc (lv2 := [(1, .int (x1 + 1)), (0, .ref (adr E 35))]) hG 1 dX3_change_42 ic_1 1 rfl (Nat.le_of_ble_eq_true rfl) rfl ?_
    refine rx_goto hG 26 dX3_change_45 rfl ?_
    refine rx_sub hG [1, 0] (lv' := [(0, .ref (adr E 35)), (1, .int (x1 + 1))]) rfl ?_
    exact hrc26 (x1 + 1) M2 hf
theorem Llp_L_change_35_26 (l : Launch) (E : En) (T : List Sk) {a0 b0 kc ks : Nat} {M' : Mm} {G : Nat → List (Nat × Value) → List Value → Mm → Prop} (hG : RX l (SKX ++ T) E RX3 cX3_change 3 none { frames := 2, cells := a0, slots := b0, locals := 51 } kc ks none M' G)  : ∀ (n : Nat) (x1 : Int32) (M : Mm), lp_L_change_35_26  n x1 M = some M' → G 26 [(0, .ref (adr E 35)), (1, .int x1)] [] M := by
  intro n
  induction n with
  | zero => intro x1 M hf; cases hf
  | succ n ih => intro x1 M hf; exact Lblp_L_change_35_26 l E T hG  (lp_L_change_35_26  n) ih x1 M hf
set_option maxHeartbeats 4000000 in
set_option maxRecDepth 100000 in
theorem Lj_L_change_35_24 (l : Launch) (E : En) (T : List Sk) {a0 b0 kc ks : Nat} {M' : Mm} {G : Nat → List (Nat × Value) → List Value → Mm → Prop} (hG : RX l (SKX ++ T) E RX3 cX3_change 3 none { frames := 2, cells := a0, slots := b0, locals := 51 } kc ks none M' G)  : ∀  (M : Mm), j_L_change_35_24  M = some M' → G 24 [(0, .ref (adr E 35))] [] M := by
  intro M hf
  unfold j_L_change_35_24 at hf
  refine rx_iconst hG 0 dX3_change_24 ic_0 ?_
  refine rx_istore_n (lv2 := [(1, .int 0), (0, .ref (adr E 35))]) hG dX3_change_25 (Nat.le_of_ble_eq_true rfl) rfl ?_
  refine rx_sub hG [1, 0] (lv' := [(0, .ref (adr E 35)), (1, .int 0)]) rfl ?_
  exact Llp_L_change_35_26 l E T hG  FW 0 M hf
set_option maxHeartbeats 4000000 in
set_option maxRecDepth 100000 in
theorem Lblp_L_change_35_2 (l : Launch) (E : En) (T : List Sk) {a0 b0 kc ks : Nat} {M' : Mm} {G : Nat → List (Nat × Value) → List Value → Mm → Prop} (hG : RX l (SKX ++ T) E RX3 cX3_change 3 none { frames := 2, cells := a0, slots := b0, locals := 51 } kc ks none M' G) (rc2 : Int32 → Mm → Option Mm) (hrc2 : ∀ (x1 : Int32) (M : Mm), rc2 x1 M = some M' → G 2 [(0, .ref (adr E 35)), (1, .int x1)] [] M) : ∀ (x1 : Int32) (M : Mm), blp_L_change_35_2 rc2 x1 M = some M' → G 2 [(0, .ref (adr E 35)), (1, .int x1)] [] M := by
  intro x1 M hf
  unfold blp_L_change_35_2 at hf
  refine rx_iload_n hG dX3_change_2 1 rfl ?_
  refine rx_aload_n hG dX3_change_3 0 rfl ?_
  refine gfX_L_48_35 l E T hG dX3_change_4 ?_
  refine gfX_L_102_2 l E T hG dX3_change_7 ?_
  refine rx_icmp_ge hG 24 dX3_change_10 rfl (fun c1 => ?_) (fun c1 => ?_)
  · have hf := ifT hf c1
    refine rx_sub hG [0] (lv' := [(0, .ref (adr E 35))]) rfl ?_
    exact Lj_L_change_35_24 l E T hG  M hf
  · have hf := ifF hf c1
    refine rx_aload_n hG dX3_change_13 0 rfl ?_
    refine rx_iload_n hG dX3_change_14 1 rfl ?_
    obtain ⟨M2, hM2, hf⟩ := bindE hf
    refine rx_cVv hG (c_L_endAt_35 l E T x1 hM2) (skX35 T) rfl rfl kw_L_131 ⟨Nat.le_of_ble_eq_true rfl, Nat.le_of_ble_eq_true rfl⟩ rfl (Nat.le_of_ble_eq_true rfl) dX3_change_15 ?_
    refine rx_iinc (lv2 := [(1, .int (x1 + 1)), (0, .ref (adr E 35))]) hG 1 dX3_change_18 ic_1 1 rfl (Nat.le_of_ble_eq_true rfl) rfl ?_
    refine rx_goto hG 2 dX3_change_21 rfl ?_
    refine rx_sub hG [1, 0] (lv' := [(0, .ref (adr E 35)), (1, .int (x1 + 1))]) rfl ?_
    exact hrc2 (x1 + 1) M2 hf
theorem Llp_L_change_35_2 (l : Launch) (E : En) (T : List Sk) {a0 b0 kc ks : Nat} {M' : Mm} {G : Nat → List (Nat × Value) → List Value → Mm → Prop} (hG : RX l (SKX ++ T) E RX3 cX3_change 3 none { frames := 2, cells := a0, slots := b0, locals := 51 } kc ks none M' G)  : ∀ (n : Nat) (x1 : Int32) (M : Mm), lp_L_change_35_2  n x1 M = some M' → G 2 [(0, .ref (adr E 35)), (1, .int x1)] [] M := by
  intro n
  induction n with
  | zero => intro x1 M hf; cases hf
  | succ n ih => intro x1 M hf; exact Lblp_L_change_35_2 l E T hG  (lp_L_change_35_2  n) ih x1 M hf
set_option maxHeartbeats 4000000 in
set_option maxRecDepth 100000 in
theorem c_L_change_35 (l : Launch) (E : En) (T : List Sk)  {M M' : Mm} (h : f_L_change_35 M = some M') : Ct l (SKX ++ T) E yX3_change cX3_change 3 none 2 51 [.ref (adr E 35)] M none M' := by
  refine ct_of (by decide) (Nat.le_of_ble_eq_true rfl) ?_
  intro G hG
  show G 0 [(0, .ref (adr E 35))] [] M
  have hf := h
  unfold f_L_change_35 at hf
  refine rx_iconst hG 0 dX3_change_0 ic_0 ?_
  refine rx_istore_n (lv2 := [(1, .int 0), (0, .ref (adr E 35))]) hG dX3_change_1 (Nat.le_of_ble_eq_true rfl) rfl ?_
  refine rx_sub hG [1, 0] (lv' := [(0, .ref (adr E 35)), (1, .int 0)]) rfl ?_
  exact Llp_L_change_35_2 l E T hG  FW 0 M hf
set_option maxHeartbeats 4000000 in
set_option maxRecDepth 100000 in
theorem Lblp_L_sortOf_35_27 (l : Launch) (E : En) (T : List Sk) {a0 b0 kc ks : Nat} {r : Int32} {M : Mm} {G : Nat → List (Nat × Value) → List Value → Mm → Prop} (hG : RX l (SKX ++ T) E RX3 cX3_sortOf 3 (some .int) { frames := 2, cells := a0, slots := b0, locals := 34 } kc ks (some (.int r)) M G) (rc27 : Int32 → Int32 → Mm → Option Int32) (hrc27 : ∀ (x1 : Int32) (x2 : Int32), rc27 x1 x2 M = some r → G 27 [(0, .ref (adr E 35)), (1, .int x1), (2, .int x2)] [] M) : ∀ (x1 : Int32) (x2 : Int32), blp_L_sortOf_35_27 rc27 x1 x2 M = some r → G 27 [(0, .ref (adr E 35)), (1, .int x1), (2, .int x2)] [] M := by
  intro x1 x2 hf
  unfold blp_L_sortOf_35_27 at hf
  refine rx_iload_n hG dX3_sortOf_27 2 rfl ?_
  refine rx_aload_n hG dX3_sortOf_28 0 rfl ?_
  refine gfX_L_48_35 l E T hG dX3_sortOf_29 ?_
  refine gfX_L_138_2 l E T hG dX3_sortOf_32 ?_
  refine rx_icmp_ge hG 58 dX3_sortOf_35 rfl (fun c1 => ?_) (fun c1 => ?_)
  · have hf := ifT hf c1
    refine rx_iconst hG 3 dX3_sortOf_58 ic_3 ?_
    cases hf
    exact rx_iret hG dX3_sortOf_59
  · have hf := ifF hf c1
    refine rx_aload_n hG dX3_sortOf_38 0 rfl ?_
    refine rx_iload_n hG dX3_sortOf_39 1 rfl ?_
    refine rx_iload_n hG dX3_sortOf_40 2 rfl ?_
    obtain ⟨v2, hv2, hf⟩ := bindE hf
    refine rx_cNi hG (c_P_cell l E (SKX ++ T) x1 x2 hv2) kw_L_151 ⟨Nat.le_of_ble_eq_true rfl, Nat.le_of_ble_eq_true rfl⟩ rfl (Nat.le_of_ble_eq_true rfl) dX3_sortOf_41 ?_
    obtain ⟨v3, hv3, hf⟩ := bindE hf
    refine rx_cVi hG (c_L_free_35 l E T v2 hv3) (skX35 T) rfl rfl kw_L_178 ⟨Nat.le_of_ble_eq_true rfl, Nat.le_of_ble_eq_true rfl⟩ rfl (Nat.le_of_ble_eq_true rfl) dX3_sortOf_44 ?_
    refine rx_if_le hG 52 dX3_sortOf_47 rfl (fun c4 => ?_) (fun c4 => ?_)
    · have hf := ifT hf c4
      refine rx_iinc (lv2 := [(2, .int (x2 + 1)), (0, .ref (adr E 35)), (1, .int x1)]) hG 1 dX3_sortOf_52 ic_1 2 rfl (Nat.le_of_ble_eq_true rfl) rfl ?_
      refine rx_goto hG 27 dX3_sortOf_55 rfl ?_
      refine rx_sub hG [1, 2, 0] (lv' := [(0, .ref (adr E 35)), (1, .int x1), (2, .int (x2 + 1))]) rfl ?_
      exact hrc27 x1 (x2 + 1) hf
    · have hf := ifF hf c4
      refine rx_iconst hG 2 dX3_sortOf_50 ic_2 ?_
      cases hf
      exact rx_iret hG dX3_sortOf_51
theorem Llp_L_sortOf_35_27 (l : Launch) (E : En) (T : List Sk) {a0 b0 kc ks : Nat} {r : Int32} {M : Mm} {G : Nat → List (Nat × Value) → List Value → Mm → Prop} (hG : RX l (SKX ++ T) E RX3 cX3_sortOf 3 (some .int) { frames := 2, cells := a0, slots := b0, locals := 34 } kc ks (some (.int r)) M G)  : ∀ (n : Nat) (x1 : Int32) (x2 : Int32), lp_L_sortOf_35_27  n x1 x2 M = some r → G 27 [(0, .ref (adr E 35)), (1, .int x1), (2, .int x2)] [] M := by
  intro n
  induction n with
  | zero => intro x1 x2 hf; cases hf
  | succ n ih => intro x1 x2 hf; exact Lblp_L_sortOf_35_27 l E T hG  (lp_L_sortOf_35_27  n) ih x1 x2 hf
set_option maxHeartbeats 4000000 in
set_option maxRecDepth 100000 in
theorem c_L_sortOf_35 (l : Launch) (E : En) (T : List Sk) (p0 : Int32) {M : Mm} {r : Int32} (h : f_L_sortOf_35 p0 M = some r) : Ct l (SKX ++ T) E yX3_sortOf cX3_sortOf 3 (some .int) 2 34 [.ref (adr E 35), .int p0] M (some (.int r)) M := by
  refine ct_of (by decide) (Nat.le_of_ble_eq_true rfl) ?_
  intro G hG
  show G 0 [(0, .ref (adr E 35)), (1, .int p0)] [] M
  have hf := h
  unfold f_L_sortOf_35 at hf
  refine rx_aload_n hG dX3_sortOf_0 0 rfl ?_
  refine gfX_L_18_35 l E T hG dX3_sortOf_1 ?_
  refine rx_iload_n hG dX3_sortOf_4 1 rfl ?_
  obtain ⟨v1, hv1, hf⟩ := bindE hf
  refine rx_iald hG (skX38 T) hv1 dX3_sortOf_5 ?_
  refine rx_if_eq hG 25 dX3_sortOf_6 rfl (fun c2 => ?_) (fun c2 => ?_)
  · have hf := ifT hf c2
    refine rx_iconst hG 0 dX3_sortOf_25 ic_0 ?_
    refine rx_istore_n (lv2 := [(2, .int 0), (0, .ref (adr E 35)), (1, .int p0)]) hG dX3_sortOf_26 (Nat.le_of_ble_eq_true rfl) rfl ?_
    refine rx_sub hG [1, 2, 0] (lv' := [(0, .ref (adr E 35)), (1, .int p0), (2, .int 0)]) rfl ?_
    exact Llp_L_sortOf_35_27 l E T hG  FW p0 0 hf
  · have hf := ifF hf c2
    refine rx_aload_n hG dX3_sortOf_9 0 rfl ?_
    refine gfX_L_18_35 l E T hG dX3_sortOf_10 ?_
    refine rx_iload_n hG dX3_sortOf_13 1 rfl ?_
    obtain ⟨v3, hv3, hf⟩ := bindE hf
    refine rx_iald hG (skX38 T) hv3 dX3_sortOf_14 ?_
    refine rx_iconst hG 1 dX3_sortOf_15 ic_1 ?_
    refine rx_icmp_ne hG 23 dX3_sortOf_16 rfl (fun c4 => ?_) (fun c4 => ?_)
    · have hf := ifF hf c4
      refine rx_iconst hG 1 dX3_sortOf_23 ic_1 ?_
      cases hf
      exact rx_iret hG dX3_sortOf_24
    · have hf := ifT hf c4
      refine rx_iconst hG 0 dX3_sortOf_19 ic_0 ?_
      refine rx_goto hG 24 dX3_sortOf_20 rfl ?_
      cases hf
      exact rx_iret hG dX3_sortOf_24
set_option maxHeartbeats 4000000 in
set_option maxRecDepth 100000 in
theorem Lj_L_tallyMinute_35_92 (l : Launch) (E : En) (T : List Sk) {a0 b0 kc ks : Nat} {M' : Mm} {G : Nat → List (Nat × Value) → List Value → Mm → Prop} (hG : RX l (SKX ++ T) E RX3 cX3_tallyMinute 4 none { frames := 3, cells := a0, slots := b0, locals := 56 } kc ks none M' G) (rc2 : Int32 → Mm → Option Mm) (hrc2 : ∀ (x1 : Int32) (M : Mm), rc2 x1 M = some M' → G 2 [(0, .ref (adr E 35)), (1, .int x1)] [] M) : ∀ (x1 : Int32) (M : Mm), j_L_tallyMinute_35_92 rc2 x1 M = some M' → G 92 [(0, .ref (adr E 35)), (1, .int x1)] [] M := by
  intro x1 M hf
  unfold j_L_tallyMinute_35_92 at hf
  refine rx_iinc (lv2 := [(1, .int (x1 + 1)), (0, .ref (adr E 35))]) hG 1 dX3_tallyMinute_92 ic_1 1 rfl (Nat.le_of_ble_eq_true rfl) rfl ?_
  refine rx_goto hG 2 dX3_tallyMinute_95 rfl ?_
  refine rx_sub hG [1, 0] (lv' := [(0, .ref (adr E 35)), (1, .int (x1 + 1))]) rfl ?_
  exact hrc2 (x1 + 1) M hf
set_option maxHeartbeats 4000000 in
set_option maxRecDepth 100000 in
theorem Lj_L_tallyMinute_35_58 (l : Launch) (E : En) (T : List Sk) {a0 b0 kc ks : Nat} {M' : Mm} {G : Nat → List (Nat × Value) → List Value → Mm → Prop} (hG : RX l (SKX ++ T) E RX3 cX3_tallyMinute 4 none { frames := 3, cells := a0, slots := b0, locals := 56 } kc ks none M' G) (rc2 : Int32 → Mm → Option Mm) (hrc2 : ∀ (x1 : Int32) (M : Mm), rc2 x1 M = some M' → G 2 [(0, .ref (adr E 35)), (1, .int x1)] [] M) : ∀ (x1 : Int32) (x2 : Int32) (t0 : Int32) (M : Mm), j_L_tallyMinute_35_58 rc2 x1 x2 t0 M = some M' → G 58 [(0, .ref (adr E 35)), (1, .int x1), (2, .int x2)] [.int t0] M := by
  intro x1 x2 t0 M hf
  unfold j_L_tallyMinute_35_58 at hf
  refine rx_istore_n (lv2 := [(3, .int t0), (0, .ref (adr E 35)), (1, .int x1), (2, .int x2)]) hG dX3_tallyMinute_58 (Nat.le_of_ble_eq_true rfl) rfl ?_
  refine rx_iload_n hG dX3_tallyMinute_59 3 rfl ?_
  refine rx_iconst hG 2 dX3_tallyMinute_60 ic_2 ?_
  refine rx_icmp_ne hG 92 dX3_tallyMinute_61 rfl (fun c1 => ?_) (fun c1 => ?_)
  · have hf := ifF hf c1
    refine rx_sub hG [1, 2] (lv' := [(0, .ref (adr E 35)), (1, .int x1)]) rfl ?_
    exact Lj_L_tallyMinute_35_92 l E T hG rc2 hrc2 x1 M hf
  · have hf := ifT hf c1
    refine rx_aload_n hG dX3_tallyMinute_64 1 rfl ?_
    refine gfX_L_21_35 l E T hG dX3_tallyMinute_65 ?_
    refine rx_iload_n hG dX3_tallyMinute_68 2 rfl ?_
    obtain ⟨v2, hv2, hf⟩ := bindE hf
    refine rx_iald hG (skX39 T) hv2 dX3_tallyMinute_69 ?_
    refine rx_bipush hG (-2) dX3_tallyMinute_70 bp_m2 ?_
    refine rx_icmp_eq hG 92 dX3_tallyMinute_72 rfl (fun c3 => ?_) (fun c3 => ?_)
    · have hf := ifT hf c3
      refine rx_sub hG [1, 2] (lv' := [(0, .ref (adr E 35)), (1, .int x1)]) rfl ?_
      exact Lj_L_tallyMinute_35_92 l E T hG rc2 hrc2 x1 M hf
    · have hf := ifF hf c3
      refine rx_iload_n hG dX3_tallyMinute_75 0 rfl ?_
      refine rx_if_eq hG 92 dX3_tallyMinute_76 rfl (fun c4 => ?_) (fun c4 => ?_)
      · have hf := ifT hf c4
        refine rx_sub hG [1, 2] (lv' := [(0, .ref (adr E 35)), (1, .int x1)]) rfl ?_
        exact Lj_L_tallyMinute_35_92 l E T hG rc2 hrc2 x1 M hf
      · have hf := ifF hf c4
        refine rx_aload_n hG dX3_tallyMinute_79 1 rfl ?_
        refine rx_aload_n hG dX3_tallyMinute_80 1 rfl ?_
        refine gfX_L_73_35 l E T hG dX3_tallyMinute_81 ?_
        obtain ⟨M5, hM5, hf⟩ := bindE hf
        refine pfX_L_80_35 l E T hG hM5 dX3_tallyMinute_84 ?_
        refine rx_aload_n hG dX3_tallyMinute_87 1 rfl ?_
        refine rx_iload_n hG dX3_tallyMinute_88 2 rfl ?_
        obtain ⟨M6, hM6, hf⟩ := bindE hf
        refine pfX_L_83_35 l E T hG hM6 dX3_tallyMinute_89 ?_
        refine rx_sub hG [1, 2] (lv' := [(0, .ref (adr E 35)), (1, .int x1)]) rfl ?_
        exact Lj_L_tallyMinute_35_92 l E T hG rc2 hrc2 x1 M6 hf
set_option maxHeartbeats 4000000 in
set_option maxRecDepth 100000 in
theorem Lj_L_tallyMinute_35_53 (l : Launch) (E : En) (T : List Sk) {a0 b0 kc ks : Nat} {M' : Mm} {G : Nat → List (Nat × Value) → List Value → Mm → Prop} (hG : RX l (SKX ++ T) E RX3 cX3_tallyMinute 4 none { frames := 3, cells := a0, slots := b0, locals := 56 } kc ks none M' G) (rc2 : Int32 → Mm → Option Mm) (hrc2 : ∀ (x1 : Int32) (M : Mm), rc2 x1 M = some M' → G 2 [(0, .ref (adr E 35)), (1, .int x1)] [] M) : ∀ (x1 : Int32) (x2 : Int32) (M : Mm), j_L_tallyMinute_35_53 rc2 x1 x2 M = some M' → G 53 [(0, .ref (adr E 35)), (1, .int x1), (2, .int x2)] [] M := by
  intro x1 x2 M hf
  unfold j_L_tallyMinute_35_53 at hf
  refine rx_iconst hG 1 dX3_tallyMinute_53 ic_1 ?_
  refine rx_goto hG 58 dX3_tallyMinute_54 rfl ?_
  exact Lj_L_tallyMinute_35_58 l E T hG rc2 hrc2 x1 x2 1 M hf
set_option maxHeartbeats 4000000 in
set_option maxRecDepth 100000 in
theorem Lblp_L_tallyMinute_35_2 (l : Launch) (E : En) (T : List Sk) {a0 b0 kc ks : Nat} {M' : Mm} {G : Nat → List (Nat × Value) → List Value → Mm → Prop} (hG : RX l (SKX ++ T) E RX3 cX3_tallyMinute 4 none { frames := 3, cells := a0, slots := b0, locals := 56 } kc ks none M' G) (rc2 : Int32 → Mm → Option Mm) (hrc2 : ∀ (x1 : Int32) (M : Mm), rc2 x1 M = some M' → G 2 [(0, .ref (adr E 35)), (1, .int x1)] [] M) : ∀ (x1 : Int32) (M : Mm), blp_L_tallyMinute_35_2 rc2 x1 M = some M' → G 2 [(0, .ref (adr E 35)), (1, .int x1)] [] M := by
  intro x1 M hf
  unfold blp_L_tallyMinute_35_2 at hf
  refine rx_iload_n hG dX3_tallyMinute_2 1 rfl ?_
  refine rx_aload_n hG dX3_tallyMinute_3 0 rfl ?_
  refine gfX_L_48_35 l E T hG dX3_tallyMinute_4 ?_
  refine gfX_L_102_2 l E T hG dX3_tallyMinute_7 ?_
  refine rx_icmp_ge hG 98 dX3_tallyMinute_10 rfl (fun c1 => ?_) (fun c1 => ?_)
  · have hf := ifT hf c1
    cases hf
    exact rx_vret hG dX3_tallyMinute_98
  · have hf := ifF hf c1
    refine rx_aload_n hG dX3_tallyMinute_13 0 rfl ?_
    refine rx_iload_n hG dX3_tallyMinute_14 1 rfl ?_
    obtain ⟨v2, hv2, hf⟩ := bindE hf
    refine rx_cVi hG (c_L_sortOf_35 l E T x1 hv2) (skX35 T) rfl rfl kw_L_175 ⟨Nat.le_of_ble_eq_true rfl, Nat.le_of_ble_eq_true rfl⟩ rfl (Nat.le_of_ble_eq_true rfl) dX3_tallyMinute_15 ?_
    refine rx_istore_n (lv2 := [(2, .int v2), (0, .ref (adr E 35)), (1, .int x1)]) hG dX3_tallyMinute_18 (Nat.le_of_ble_eq_true rfl) rfl ?_
    refine rx_aload_n hG dX3_tallyMinute_19 1 rfl ?_
    refine gfX_L_30_35 l E T hG dX3_tallyMinute_20 ?_
    refine rx_iconst hG 4 dX3_tallyMinute_23 ic_4 ?_
    refine rx_iload_n hG dX3_tallyMinute_24 2 rfl ?_
    refine rx_imul hG dX3_tallyMinute_25 ?_
    refine rx_iload_n hG dX3_tallyMinute_26 0 rfl ?_
    refine rx_iadd hG dX3_tallyMinute_27 ?_
    refine rx_dup2 hG dX3_tallyMinute_28 rfl rfl ?_
    obtain ⟨v3, hv3, hf⟩ := bindE hf
    refine rx_iald hG (skX42 T) hv3 dX3_tallyMinute_29 ?_
    refine rx_iconst hG 1 dX3_tallyMinute_30 ic_1 ?_
    refine rx_iadd hG dX3_tallyMinute_31 ?_
    obtain ⟨M4, hM4, hf⟩ := bindE hf
    refine rx_iast hG (skX42 T) hM4 dX3_tallyMinute_32 ?_
    refine rx_aload_n hG dX3_tallyMinute_33 1 rfl ?_
    refine gfX_L_80_35 l E T hG dX3_tallyMinute_34 ?_
    refine rx_bipush hG (-2) dX3_tallyMinute_37 bp_m2 ?_
    refine rx_icmp_eq hG 53 dX3_tallyMinute_39 rfl (fun c5 => ?_) (fun c5 => ?_)
    · have hf := ifT hf c5
      refine rx_sub hG [1, 2, 0] (lv' := [(0, .ref (adr E 35)), (1, .int x1), (2, .int v2)]) rfl ?_
      exact Lj_L_tallyMinute_35_53 l E T hG rc2 hrc2 x1 v2 M4 hf
    · have hf := ifF hf c5
      refine rx_aload_n hG dX3_tallyMinute_42 1 rfl ?_
      refine gfX_L_80_35 l E T hG dX3_tallyMinute_43 ?_
      refine rx_aload_n hG dX3_tallyMinute_46 1 rfl ?_
      refine gfX_L_73_35 l E T hG dX3_tallyMinute_47 ?_
      refine rx_icmp_ne hG 57 dX3_tallyMinute_50 rfl (fun c6 => ?_) (fun c6 => ?_)
      · have hf := ifF hf c6
        refine rx_iconst hG 0 dX3_tallyMinute_57 ic_0 ?_
        refine rx_sub hG [1, 2, 0] (lv' := [(0, .ref (adr E 35)), (1, .int x1), (2, .int v2)]) rfl ?_
        exact Lj_L_tallyMinute_35_58 l E T hG rc2 hrc2 x1 v2 0 M4 hf
      · have hf := ifT hf c6
        refine rx_sub hG [1, 2, 0] (lv' := [(0, .ref (adr E 35)), (1, .int x1), (2, .int v2)]) rfl ?_
        exact Lj_L_tallyMinute_35_53 l E T hG rc2 hrc2 x1 v2 M4 hf
theorem Llp_L_tallyMinute_35_2 (l : Launch) (E : En) (T : List Sk) {a0 b0 kc ks : Nat} {M' : Mm} {G : Nat → List (Nat × Value) → List Value → Mm → Prop} (hG : RX l (SKX ++ T) E RX3 cX3_tallyMinute 4 none { frames := 3, cells := a0, slots := b0, locals := 56 } kc ks none M' G)  : ∀ (n : Nat) (x1 : Int32) (M : Mm), lp_L_tallyMinute_35_2  n x1 M = some M' → G 2 [(0, .ref (adr E 35)), (1, .int x1)] [] M := by
  intro n
  induction n with
  | zero => intro x1 M hf; cases hf
  | succ n ih => intro x1 M hf; exact Lblp_L_tallyMinute_35_2 l E T hG  (lp_L_tallyMinute_35_2  n) ih x1 M hf
set_option maxHeartbeats 4000000 in
set_option maxRecDepth 100000 in
theorem c_L_tallyMinute_35 (l : Launch) (E : En) (T : List Sk)  {M M' : Mm} (h : f_L_tallyMinute_35 M = some M') : Ct l (SKX ++ T) E yX3_tallyMinute cX3_tallyMinute 4 none 3 56 [.ref (adr E 35)] M none M' := by
  refine ct_of (by decide) (Nat.le_of_ble_eq_true rfl) ?_
  intro G hG
  show G 0 [(0, .ref (adr E 35))] [] M
  have hf := h
  unfold f_L_tallyMinute_35 at hf
  refine rx_iconst hG 0 dX3_tallyMinute_0 ic_0 ?_
  refine rx_istore_n (lv2 := [(1, .int 0), (0, .ref (adr E 35))]) hG dX3_tallyMinute_1 (Nat.le_of_ble_eq_true rfl) rfl ?_
  refine rx_sub hG [1, 0] (lv' := [(0, .ref (adr E 35)), (1, .int 0)]) rfl ?_
  exact Llp_L_tallyMinute_35_2 l E T hG  FW 0 M hf
set_option maxHeartbeats 4000000 in
set_option maxRecDepth 100000 in
theorem c_L_passMinute_35 (l : Launch) (E : En) (T : List Sk)  {M M' : Mm} (h : f_L_passMinute_35 M = some M') : Ct l (SKX ++ T) E yX3_passMinute cX3_passMinute 1 none 4 79 [.ref (adr E 35)] M none M' := by
  refine ct_of (by decide) (Nat.le_of_ble_eq_true rfl) ?_
  intro G hG
  show G 0 [(0, .ref (adr E 35))] [] M
  have hf := h
  unfold f_L_passMinute_35 at hf
  refine rx_aload_n hG dX3_passMinute_0 0 rfl ?_
  obtain ⟨M1, hM1, hf⟩ := bindE hf
  refine rx_cVv hG (c_L_ageOrders_35 l E T  hM1) (skX35 T) rfl rfl kw_L_89 ⟨Nat.le_of_ble_eq_true rfl, Nat.le_of_ble_eq_true rfl⟩ rfl (Nat.le_of_ble_eq_true rfl) dX3_passMinute_1 ?_
  refine rx_aload_n hG dX3_passMinute_4 0 rfl ?_
  obtain ⟨M2, hM2, hf⟩ := bindE hf
  refine rx_cVv hG (c_L_change_35 l E T  hM2) (skX35 T) rfl rfl kw_L_92 ⟨Nat.le_of_ble_eq_true rfl, Nat.le_of_ble_eq_true rfl⟩ rfl (Nat.le_of_ble_eq_true rfl) dX3_passMinute_5 ?_
  refine rx_aload_n hG dX3_passMinute_8 0 rfl ?_
  obtain ⟨M3, hM3, hf⟩ := bindE hf
  refine rx_cVv hG (c_L_tallyMinute_35 l E T  hM3) (skX35 T) rfl rfl kw_L_95 ⟨Nat.le_of_ble_eq_true rfl, Nat.le_of_ble_eq_true rfl⟩ rfl (Nat.le_of_ble_eq_true rfl) dX3_passMinute_9 ?_
  refine rx_aload_n hG dX3_passMinute_12 0 rfl ?_
  obtain ⟨M4, hM4, hf⟩ := bindE hf
  refine rx_cVv hG (c_L_raisePeaks_35 l E T  hM4) (skX35 T) rfl rfl kw_L_86 ⟨Nat.le_of_ble_eq_true rfl, Nat.le_of_ble_eq_true rfl⟩ rfl (Nat.le_of_ble_eq_true rfl) dX3_passMinute_13 ?_
  refine rx_aload_n hG dX3_passMinute_16 0 rfl ?_
  refine rx_dup hG dX3_passMinute_17 rfl ?_
  refine gfX_L_73_35 l E T hG dX3_passMinute_18 ?_
  refine rx_iconst hG 1 dX3_passMinute_21 ic_1 ?_
  refine rx_iadd hG dX3_passMinute_22 ?_
  obtain ⟨M5, hM5, hf⟩ := bindE hf
  refine pfX_L_73_35 l E T hG hM5 dX3_passMinute_23 ?_
  cases hf
  exact rx_vret hG dX3_passMinute_26
set_option maxHeartbeats 4000000 in
set_option maxRecDepth 100000 in
theorem Lj_P_run_0_80 (l : Launch) (E : En) (T : List Sk) {a0 b0 kc ks : Nat} {r : Int32} {M' : Mm} {G : Nat → List (Nat × Value) → List Value → Mm → Prop} (hG : RX l (SKX ++ T) E RX9 cX9_run 4 (some .int) { frames := 5, cells := a0, slots := b0, locals := 99 } kc ks (some (.int r)) M' G)  : ∀ (x2 : Int32) (M : Mm), j_P_run_0_80  x2 M = some (r, M') → G 80 [(0, .ref (adr E 0)), (2, .int x2)] [] M := by
  intro x2 M hf
  unfold j_P_run_0_80 at hf
  refine rx_aload_n hG dX9_run_80 0 rfl ?_
  refine rx_aload_n hG dX9_run_81 0 rfl ?_
  refine gfX_P_41_0 l E T hG dX9_run_82 ?_
  refine gfX_P_198_35 l E T hG dX9_run_85 ?_
  refine rx_iload_n hG dX9_run_88 1 rfl ?_
  refine rx_isub hG dX9_run_89 ?_
  obtain ⟨q1, hq1, hf⟩ := bindE hf
  refine rx_cVi hG (c_P_granted_0 l E T ((M.1 35 15) - x2) hq1) (skX0 T) rfl rfl kw_P_116 ⟨Nat.le_of_ble_eq_true rfl, Nat.le_of_ble_eq_true rfl⟩ rfl (Nat.le_of_ble_eq_true rfl) dX9_run_90 ?_
  cases hf
  exact rx_iret hG dX9_run_93
set_option maxHeartbeats 4000000 in
set_option maxRecDepth 100000 in
theorem Lblp_P_run_0_62 (l : Launch) (E : En) (T : List Sk) {a0 b0 kc ks : Nat} {r : Int32} {M' : Mm} {G : Nat → List (Nat × Value) → List Value → Mm → Prop} (hG : RX l (SKX ++ T) E RX9 cX9_run 4 (some .int) { frames := 5, cells := a0, slots := b0, locals := 99 } kc ks (some (.int r)) M' G) (rc62 : Int32 → Int32 → Int32 → Mm → Option (Int32 × Mm)) (hrc62 : ∀ (x1 : Int32) (x2 : Int32) (x3 : Int32) (M : Mm), rc62 x1 x2 x3 M = some (r, M') → G 62 [(0, .ref (adr E 0)), (1, .int x1), (2, .int x2), (3, .int x3)] [] M) : ∀ (x1 : Int32) (x2 : Int32) (x3 : Int32) (M : Mm), blp_P_run_0_62 rc62 x1 x2 x3 M = some (r, M') → G 62 [(0, .ref (adr E 0)), (1, .int x1), (2, .int x2), (3, .int x3)] [] M := by
  intro x1 x2 x3 M hf
  unfold blp_P_run_0_62 at hf
  refine rx_iload_n hG dX9_run_62 3 rfl ?_
  refine rx_iload_n hG dX9_run_63 1 rfl ?_
  refine rx_icmp_ge hG 80 dX9_run_64 rfl (fun c1 => ?_) (fun c1 => ?_)
  · have hf := ifT hf c1
    refine rx_sub hG [0, 2] (lv' := [(0, .ref (adr E 0)), (2, .int x2)]) rfl ?_
    exact Lj_P_run_0_80 l E T hG  x2 M hf
  · have hf := ifF hf c1
    refine rx_aload_n hG dX9_run_67 0 rfl ?_
    refine gfX_P_41_0 l E T hG dX9_run_68 ?_
    obtain ⟨M2, hM2, hf⟩ := bindE hf
    refine rx_cVv hG (c_L_passMinute_35 l E T  hM2) (skX35 T) rfl rfl kw_P_201 ⟨Nat.le_of_ble_eq_true rfl, Nat.le_of_ble_eq_true rfl⟩ rfl (Nat.le_of_ble_eq_true rfl) dX9_run_71 ?_
    refine rx_iinc (lv2 := [(3, .int (x3 + 1)), (0, .ref (adr E 0)), (1, .int x1), (2, .int x2)]) hG 1 dX9_run_74 ic_1 3 rfl (Nat.le_of_ble_eq_true rfl) rfl ?_
    refine rx_goto hG 62 dX9_run_77 rfl ?_
    refine rx_sub hG [1, 2, 3, 0] (lv' := [(0, .ref (adr E 0)), (1, .int x1), (2, .int x2), (3, .int (x3 + 1))]) rfl ?_
    exact hrc62 x1 x2 (x3 + 1) M2 hf
theorem Llp_P_run_0_62 (l : Launch) (E : En) (T : List Sk) {a0 b0 kc ks : Nat} {r : Int32} {M' : Mm} {G : Nat → List (Nat × Value) → List Value → Mm → Prop} (hG : RX l (SKX ++ T) E RX9 cX9_run 4 (some .int) { frames := 5, cells := a0, slots := b0, locals := 99 } kc ks (some (.int r)) M' G)  : ∀ (n : Nat) (x1 : Int32) (x2 : Int32) (x3 : Int32) (M : Mm), lp_P_run_0_62  n x1 x2 x3 M = some (r, M') → G 62 [(0, .ref (adr E 0)), (1, .int x1), (2, .int x2), (3, .int x3)] [] M := by
  intro n
  induction n with
  | zero => intro x1 x2 x3 M hf; cases hf
  | succ n ih => intro x1 x2 x3 M hf; exact Lblp_P_run_0_62 l E T hG  (lp_P_run_0_62  n) ih x1 x2 x3 M hf
set_option maxHeartbeats 4000000 in
set_option maxRecDepth 100000 in
theorem c_P_run_0 (l : Launch) (E : En) (T : List Sk) (p0 : Int32) {M M' : Mm} {r : Int32} (h : f_P_run_0 p0 M = some (r, M')) : Ct l (SKX ++ T) E yX9_run cX9_run 4 (some .int) 5 99 [.ref (adr E 0), .int p0] M (some (.int r)) M' := by
  refine ct_of (by decide) (Nat.le_of_ble_eq_true rfl) ?_
  intro G hG
  show G 0 [(0, .ref (adr E 0)), (1, .int p0)] [] M
  have hf := h
  unfold f_P_run_0 at hf
  refine rx_aload_n hG dX9_run_0 0 rfl ?_
  refine gfX_P_103_0 l E T hG dX9_run_1 ?_
  refine rx_if_ne hG 13 dX9_run_4 rfl (fun c1 => ?_) (fun c1 => ?_)
  · have hf := ifF hf c1
    refine rx_iload_n hG dX9_run_13 1 rfl ?_
    refine rx_iconst hG 1 dX9_run_14 ic_1 ?_
    refine rx_icmp_lt hG 25 dX9_run_15 rfl (fun c2 => ?_) (fun c2 => ?_)
    · have hf := ifT hf c2
      refine rx_aload_n hG dX9_run_25 0 rfl ?_
      refine rx_iconst hG 2 dX9_run_26 ic_2 ?_
      obtain ⟨q3, hq3, hf⟩ := bindE hf
      refine rx_cVi hG (c_P_refused_0 l E T 2 hq3) (skX0 T) rfl rfl kw_P_79 ⟨Nat.le_of_ble_eq_true rfl, Nat.le_of_ble_eq_true rfl⟩ rfl (Nat.le_of_ble_eq_true rfl) dX9_run_27 ?_
      cases hf
      exact rx_iret hG dX9_run_30
    · have hf := ifF hf c2
      refine rx_iload_n hG dX9_run_18 1 rfl ?_
      refine rx_sipush hG 500 dX9_run_19 sp_500 ?_
      refine rx_icmp_le hG 31 dX9_run_22 rfl (fun c4 => ?_) (fun c4 => ?_)
      · have hf := ifT hf c4
        refine rx_aload_n hG dX9_run_31 0 rfl ?_
        refine gfX_P_41_0 l E T hG dX9_run_32 ?_
        refine gfX_P_141_35 l E T hG dX9_run_35 ?_
        refine rx_iload_n hG dX9_run_38 1 rfl ?_
        refine rx_iadd hG dX9_run_39 ?_
        refine rx_sipush hG 9999 dX9_run_40 sp_9999 ?_
        refine rx_icmp_le hG 52 dX9_run_43 rfl (fun c5 => ?_) (fun c5 => ?_)
        · have hf := ifT hf c5
          refine rx_aload_n hG dX9_run_52 0 rfl ?_
          refine gfX_P_41_0 l E T hG dX9_run_53 ?_
          refine gfX_P_198_35 l E T hG dX9_run_56 ?_
          refine rx_istore_n (lv2 := [(2, .int (M.1 35 15)), (0, .ref (adr E 0)), (1, .int p0)]) hG dX9_run_59 (Nat.le_of_ble_eq_true rfl) rfl ?_
          refine rx_iconst hG 0 dX9_run_60 ic_0 ?_
          refine rx_istore_n (lv2 := [(3, .int 0), (2, .int (M.1 35 15)), (0, .ref (adr E 0)), (1, .int p0)]) hG dX9_run_61 (Nat.le_of_ble_eq_true rfl) rfl ?_
          refine rx_sub hG [2, 3, 1, 0] (lv' := [(0, .ref (adr E 0)), (1, .int p0), (2, .int (M.1 35 15)), (3, .int 0)]) rfl ?_
          exact Llp_P_run_0_62 l E T hG  FW p0 (M.1 35 15) 0 M hf
        · have hf := ifF hf c5
          refine rx_aload_n hG dX9_run_46 0 rfl ?_
          refine rx_iconst hG 5 dX9_run_47 ic_5 ?_
          obtain ⟨q6, hq6, hf⟩ := bindE hf
          refine rx_cVi hG (c_P_refused_0 l E T 5 hq6) (skX0 T) rfl rfl kw_P_79 ⟨Nat.le_of_ble_eq_true rfl, Nat.le_of_ble_eq_true rfl⟩ rfl (Nat.le_of_ble_eq_true rfl) dX9_run_48 ?_
          cases hf
          exact rx_iret hG dX9_run_51
      · have hf := ifF hf c4
        refine rx_aload_n hG dX9_run_25 0 rfl ?_
        refine rx_iconst hG 2 dX9_run_26 ic_2 ?_
        obtain ⟨q7, hq7, hf⟩ := bindE hf
        refine rx_cVi hG (c_P_refused_0 l E T 2 hq7) (skX0 T) rfl rfl kw_P_79 ⟨Nat.le_of_ble_eq_true rfl, Nat.le_of_ble_eq_true rfl⟩ rfl (Nat.le_of_ble_eq_true rfl) dX9_run_27 ?_
        cases hf
        exact rx_iret hG dX9_run_30
  · have hf := ifT hf c1
    refine rx_aload_n hG dX9_run_7 0 rfl ?_
    refine rx_iconst hG 1 dX9_run_8 ic_1 ?_
    obtain ⟨q8, hq8, hf⟩ := bindE hf
    refine rx_cVi hG (c_P_refused_0 l E T 1 hq8) (skX0 T) rfl rfl kw_P_79 ⟨Nat.le_of_ble_eq_true rfl, Nat.le_of_ble_eq_true rfl⟩ rfl (Nat.le_of_ble_eq_true rfl) dX9_run_9 ?_
    cases hf
    exact rx_iret hG dX9_run_12
set_option maxHeartbeats 4000000 in
set_option maxRecDepth 100000 in
theorem c_L_minutesLeft_35 (l : Launch) (E : En) (T : List Sk) (p0 : Int32) {M : Mm} {r : Int32} (h : f_L_minutesLeft_35 p0 M = some r) : Ct l (SKX ++ T) E yX3_minutesLeft cX3_minutesLeft 2 (some .int) 0 0 [.ref (adr E 35), .int p0] M (some (.int r)) M := by
  refine ct_of (by decide) (Nat.le_of_ble_eq_true rfl) ?_
  intro G hG
  show G 0 [(0, .ref (adr E 35)), (1, .int p0)] [] M
  have hf := h
  unfold f_L_minutesLeft_35 at hf
  refine rx_aload_n hG dX3_minutesLeft_0 0 rfl ?_
  refine gfX_L_18_35 l E T hG dX3_minutesLeft_1 ?_
  refine rx_iload_n hG dX3_minutesLeft_4 1 rfl ?_
  obtain ⟨v1, hv1, hf⟩ := bindE hf
  refine rx_iald hG (skX38 T) hv1 dX3_minutesLeft_5 ?_
  refine rx_if_ne hG 13 dX3_minutesLeft_6 rfl (fun c2 => ?_) (fun c2 => ?_)
  · have hf := ifF hf c2
    refine rx_aload_n hG dX3_minutesLeft_13 0 rfl ?_
    refine gfX_L_24_35 l E T hG dX3_minutesLeft_14 ?_
    refine rx_iload_n hG dX3_minutesLeft_17 1 rfl ?_
    obtain ⟨v3, hv3, hf⟩ := bindE hf
    refine rx_iald hG (skX40 T) hv3 dX3_minutesLeft_18 ?_
    refine rx_aload_n hG dX3_minutesLeft_19 0 rfl ?_
    refine gfX_L_73_35 l E T hG dX3_minutesLeft_20 ?_
    refine rx_isub hG dX3_minutesLeft_23 ?_
    cases hf
    exact rx_iret hG dX3_minutesLeft_24
  · have hf := ifT hf c2
    refine rx_iconst hG 0 dX3_minutesLeft_9 ic_0 ?_
    refine rx_goto hG 24 dX3_minutesLeft_10 rfl ?_
    cases hf
    exact rx_iret hG dX3_minutesLeft_24
set_option maxHeartbeats 4000000 in
set_option maxRecDepth 100000 in
theorem c_P_does_0 (l : Launch) (E : En) (T : List Sk) (p0 : Int32) (p1 : Int32) {M M' : Mm} {r : Int32} (h : f_P_does_0 p0 p1 M = some (r, M')) : Ct l (SKX ++ T) E yX9_does cX9_does 3 (some .int) 2 42 [.ref (adr E 0), .int p0, .int p1] M (some (.int r)) M' := by
  refine ct_of (by decide) (Nat.le_of_ble_eq_true rfl) ?_
  intro G hG
  show G 0 [(0, .ref (adr E 0)), (1, .int p0), (2, .int p1)] [] M
  have hf := h
  unfold f_P_does_0 at hf
  refine rx_aload_n hG dX9_does_0 0 rfl ?_
  refine rx_iload_n hG dX9_does_1 1 rfl ?_
  obtain ⟨v1, hv1, hf⟩ := bindE hf
  refine rx_cVi hG (c_P_isBench_0 l E T p0 hv1) (skX0 T) rfl rfl kw_P_150 ⟨Nat.le_of_ble_eq_true rfl, Nat.le_of_ble_eq_true rfl⟩ rfl (Nat.le_of_ble_eq_true rfl) dX9_does_2 ?_
  refine rx_if_eq hG 16 dX9_does_5 rfl (fun c2 => ?_) (fun c2 => ?_)
  · have hf := ifT hf c2
    refine rx_aload_n hG dX9_does_16 0 rfl ?_
    refine rx_iconst hG 1 dX9_does_17 ic_1 ?_
    obtain ⟨q3, hq3, hf⟩ := bindE hf
    refine rx_cVi hG (c_P_refused_0 l E T 1 hq3) (skX0 T) rfl rfl kw_P_79 ⟨Nat.le_of_ble_eq_true rfl, Nat.le_of_ble_eq_true rfl⟩ rfl (Nat.le_of_ble_eq_true rfl) dX9_does_18 ?_
    cases hf
    exact rx_iret hG dX9_does_21
  · have hf := ifF hf c2
    refine rx_iload_n hG dX9_does_8 2 rfl ?_
    refine rx_iconst hG 3 dX9_does_9 ic_3 ?_
    obtain ⟨v4, hv4, hf⟩ := bindE hf
    refine rx_cSi hG (c_P_within l E (SKX ++ T) p1 3 hv4) kw_P_128 ⟨Nat.le_of_ble_eq_true rfl, Nat.le_of_ble_eq_true rfl⟩ rfl (Nat.le_of_ble_eq_true rfl) dX9_does_10 ?_
    refine rx_if_ne hG 22 dX9_does_13 rfl (fun c5 => ?_) (fun c5 => ?_)
    · have hf := ifF hf c5
      refine rx_iload_n hG dX9_does_22 2 rfl ?_
      by_cases c6 : p1 = 0
      · have hf := ifT hf c6
        refine rx_tableIn hG 48 0 (by rw [c6]; rfl) dX9_does_23 (by decide) (by decide) rfl rfl ?_
        refine rx_aload_n hG dX9_does_48 0 rfl ?_
        refine rx_aload_n hG dX9_does_49 0 rfl ?_
        refine gfX_P_41_0 l E T hG dX9_does_50 ?_
        refine gfX_P_204_35 l E T hG dX9_does_53 ?_
        refine rx_iload_n hG dX9_does_56 1 rfl ?_
        obtain ⟨v7, hv7, hf⟩ := bindE hf
        refine rx_iald hG (skX38 T) hv7 dX9_does_57 ?_
        obtain ⟨q8, hq8, hf⟩ := bindE hf
        refine rx_cVi hG (c_P_granted_0 l E T v7 hq8) (skX0 T) rfl rfl kw_P_116 ⟨Nat.le_of_ble_eq_true rfl, Nat.le_of_ble_eq_true rfl⟩ rfl (Nat.le_of_ble_eq_true rfl) dX9_does_58 ?_
        cases hf
        exact rx_iret hG dX9_does_61
      have hf := ifF hf c6
      by_cases c9 : p1 = 1
      · have hf := ifT hf c9
        refine rx_tableIn hG 62 1 (by rw [c9]; rfl) dX9_does_23 (by decide) (by decide) rfl rfl ?_
        refine rx_aload_n hG dX9_does_62 0 rfl ?_
        refine rx_aload_n hG dX9_does_63 0 rfl ?_
        refine gfX_P_41_0 l E T hG dX9_does_64 ?_
        refine gfX_P_204_35 l E T hG dX9_does_67 ?_
        refine rx_iload_n hG dX9_does_70 1 rfl ?_
        obtain ⟨v10, hv10, hf⟩ := bindE hf
        refine rx_iald hG (skX38 T) hv10 dX9_does_71 ?_
        refine rx_iconst hG 1 dX9_does_72 ic_1 ?_
        refine rx_icmp_ne hG 88 dX9_does_73 rfl (fun c11 => ?_) (fun c11 => ?_)
        · have hf := ifF hf c11
          refine rx_bipush hG (-2) dX9_does_88 bp_m2 ?_
          obtain ⟨q12, hq12, hf⟩ := bindE hf
          refine rx_cVi hG (c_P_granted_0 l E T (-2) hq12) (skX0 T) rfl rfl kw_P_116 ⟨Nat.le_of_ble_eq_true rfl, Nat.le_of_ble_eq_true rfl⟩ rfl (Nat.le_of_ble_eq_true rfl) dX9_does_90 ?_
          cases hf
          exact rx_iret hG dX9_does_93
        · have hf := ifT hf c11
          refine rx_aload_n hG dX9_does_76 0 rfl ?_
          refine gfX_P_41_0 l E T hG dX9_does_77 ?_
          refine gfX_P_207_35 l E T hG dX9_does_80 ?_
          refine rx_iload_n hG dX9_does_83 1 rfl ?_
          obtain ⟨v13, hv13, hf⟩ := bindE hf
          refine rx_iald hG (skX39 T) hv13 dX9_does_84 ?_
          refine rx_goto hG 90 dX9_does_85 rfl ?_
          obtain ⟨q14, hq14, hf⟩ := bindE hf
          refine rx_cVi hG (c_P_granted_0 l E T v13 hq14) (skX0 T) rfl rfl kw_P_116 ⟨Nat.le_of_ble_eq_true rfl, Nat.le_of_ble_eq_true rfl⟩ rfl (Nat.le_of_ble_eq_true rfl) dX9_does_90 ?_
          cases hf
          exact rx_iret hG dX9_does_93
      have hf := ifF hf c9
      by_cases c15 : p1 = 2
      · have hf := ifT hf c15
        refine rx_tableIn hG 94 2 (by rw [c15]; rfl) dX9_does_23 (by decide) (by decide) rfl rfl ?_
        refine rx_aload_n hG dX9_does_94 0 rfl ?_
        refine rx_aload_n hG dX9_does_95 0 rfl ?_
        refine gfX_P_41_0 l E T hG dX9_does_96 ?_
        refine rx_iload_n hG dX9_does_99 1 rfl ?_
        obtain ⟨v16, hv16, hf⟩ := bindE hf
        refine rx_cVi hG (c_L_minutesLeft_35 l E T p0 hv16) (skX35 T) rfl rfl kw_P_210 ⟨Nat.le_of_ble_eq_true rfl, Nat.le_of_ble_eq_true rfl⟩ rfl (Nat.le_of_ble_eq_true rfl) dX9_does_100 ?_
        obtain ⟨q17, hq17, hf⟩ := bindE hf
        refine rx_cVi hG (c_P_granted_0 l E T v16 hq17) (skX0 T) rfl rfl kw_P_116 ⟨Nat.le_of_ble_eq_true rfl, Nat.le_of_ble_eq_true rfl⟩ rfl (Nat.le_of_ble_eq_true rfl) dX9_does_103 ?_
        cases hf
        exact rx_iret hG dX9_does_106
      have hf := ifF hf c15
      refine rx_tableOut hG 107 dX9_does_23 (by have := tiN c6 (z := 0) rfl; have := tiN c9 (z := 1) rfl; have := tiN c15 (z := 2) rfl; omega) rfl ?_
      refine rx_aload_n hG dX9_does_107 0 rfl ?_
      refine rx_aload_n hG dX9_does_108 0 rfl ?_
      refine gfX_P_41_0 l E T hG dX9_does_109 ?_
      refine gfX_P_207_35 l E T hG dX9_does_112 ?_
      refine rx_iload_n hG dX9_does_115 1 rfl ?_
      obtain ⟨v18, hv18, hf⟩ := bindE hf
      refine rx_iald hG (skX39 T) hv18 dX9_does_116 ?_
      obtain ⟨q19, hq19, hf⟩ := bindE hf
      refine rx_cVi hG (c_P_granted_0 l E T v18 hq19) (skX0 T) rfl rfl kw_P_116 ⟨Nat.le_of_ble_eq_true rfl, Nat.le_of_ble_eq_true rfl⟩ rfl (Nat.le_of_ble_eq_true rfl) dX9_does_117 ?_
      cases hf
      exact rx_iret hG dX9_does_120
    · have hf := ifT hf c5
      refine rx_aload_n hG dX9_does_16 0 rfl ?_
      refine rx_iconst hG 1 dX9_does_17 ic_1 ?_
      obtain ⟨q20, hq20, hf⟩ := bindE hf
      refine rx_cVi hG (c_P_refused_0 l E T 1 hq20) (skX0 T) rfl rfl kw_P_79 ⟨Nat.le_of_ble_eq_true rfl, Nat.le_of_ble_eq_true rfl⟩ rfl (Nat.le_of_ble_eq_true rfl) dX9_does_18 ?_
      cases hf
      exact rx_iret hG dX9_does_21
set_option maxHeartbeats 4000000 in
set_option maxRecDepth 100000 in
theorem c_L_minutesOf_35 (l : Launch) (E : En) (T : List Sk) (p0 : Int32) (p1 : Int32) {M : Mm} {r : Int32} (h : f_L_minutesOf_35 p0 p1 M = some r) : Ct l (SKX ++ T) E yX3_minutesOf cX3_minutesOf 3 (some .int) 0 0 [.ref (adr E 35), .int p0, .int p1] M (some (.int r)) M := by
  refine ct_of (by decide) (Nat.le_of_ble_eq_true rfl) ?_
  intro G hG
  show G 0 [(0, .ref (adr E 35)), (1, .int p0), (2, .int p1)] [] M
  have hf := h
  unfold f_L_minutesOf_35 at hf
  refine rx_aload_n hG dX3_minutesOf_0 0 rfl ?_
  refine gfX_L_30_35 l E T hG dX3_minutesOf_1 ?_
  refine rx_iconst hG 4 dX3_minutesOf_4 ic_4 ?_
  refine rx_iload_n hG dX3_minutesOf_5 1 rfl ?_
  refine rx_imul hG dX3_minutesOf_6 ?_
  refine rx_iload_n hG dX3_minutesOf_7 2 rfl ?_
  refine rx_iadd hG dX3_minutesOf_8 ?_
  obtain ⟨v1, hv1, hf⟩ := bindE hf
  refine rx_iald hG (skX42 T) hv1 dX3_minutesOf_9 ?_
  cases hf
  exact rx_iret hG dX3_minutesOf_10
set_option maxHeartbeats 4000000 in
set_option maxRecDepth 100000 in
theorem c_P_counts_0 (l : Launch) (E : En) (T : List Sk) (p0 : Int32) (p1 : Int32) {M M' : Mm} {r : Int32} (h : f_P_counts_0 p0 p1 M = some (r, M')) : Ct l (SKX ++ T) E yX9_counts cX9_counts 3 (some .int) 2 42 [.ref (adr E 0), .int p0, .int p1] M (some (.int r)) M' := by
  refine ct_of (by decide) (Nat.le_of_ble_eq_true rfl) ?_
  intro G hG
  show G 0 [(0, .ref (adr E 0)), (1, .int p0), (2, .int p1)] [] M
  have hf := h
  unfold f_P_counts_0 at hf
  refine rx_aload_n hG dX9_counts_0 0 rfl ?_
  refine rx_iload_n hG dX9_counts_1 1 rfl ?_
  obtain ⟨v1, hv1, hf⟩ := bindE hf
  refine rx_cVi hG (c_P_isBench_0 l E T p0 hv1) (skX0 T) rfl rfl kw_P_150 ⟨Nat.le_of_ble_eq_true rfl, Nat.le_of_ble_eq_true rfl⟩ rfl (Nat.le_of_ble_eq_true rfl) dX9_counts_2 ?_
  refine rx_if_eq hG 16 dX9_counts_5 rfl (fun c2 => ?_) (fun c2 => ?_)
  · have hf := ifT hf c2
    refine rx_aload_n hG dX9_counts_16 0 rfl ?_
    refine rx_iconst hG 1 dX9_counts_17 ic_1 ?_
    obtain ⟨q3, hq3, hf⟩ := bindE hf
    refine rx_cVi hG (c_P_refused_0 l E T 1 hq3) (skX0 T) rfl rfl kw_P_79 ⟨Nat.le_of_ble_eq_true rfl, Nat.le_of_ble_eq_true rfl⟩ rfl (Nat.le_of_ble_eq_true rfl) dX9_counts_18 ?_
    cases hf
    exact rx_iret hG dX9_counts_21
  · have hf := ifF hf c2
    refine rx_iload_n hG dX9_counts_8 2 rfl ?_
    refine rx_iconst hG 4 dX9_counts_9 ic_4 ?_
    obtain ⟨v4, hv4, hf⟩ := bindE hf
    refine rx_cSi hG (c_P_within l E (SKX ++ T) p1 4 hv4) kw_P_128 ⟨Nat.le_of_ble_eq_true rfl, Nat.le_of_ble_eq_true rfl⟩ rfl (Nat.le_of_ble_eq_true rfl) dX9_counts_10 ?_
    refine rx_if_ne hG 22 dX9_counts_13 rfl (fun c5 => ?_) (fun c5 => ?_)
    · have hf := ifF hf c5
      refine rx_aload_n hG dX9_counts_22 0 rfl ?_
      refine rx_iload_n hG dX9_counts_23 2 rfl ?_
      refine rx_if_ne hG 39 dX9_counts_24 rfl (fun c6 => ?_) (fun c6 => ?_)
      · have hf := ifF hf c6
        refine rx_aload_n hG dX9_counts_39 0 rfl ?_
        refine gfX_P_41_0 l E T hG dX9_counts_40 ?_
        refine rx_iload_n hG dX9_counts_43 1 rfl ?_
        refine rx_iload_n hG dX9_counts_44 2 rfl ?_
        refine rx_iconst hG 1 dX9_counts_45 ic_1 ?_
        refine rx_isub hG dX9_counts_46 ?_
        obtain ⟨v7, hv7, hf⟩ := bindE hf
        refine rx_cVi hG (c_L_minutesOf_35 l E T p0 (p1 - 1) hv7) (skX35 T) rfl rfl kw_P_216 ⟨Nat.le_of_ble_eq_true rfl, Nat.le_of_ble_eq_true rfl⟩ rfl (Nat.le_of_ble_eq_true rfl) dX9_counts_47 ?_
        obtain ⟨q8, hq8, hf⟩ := bindE hf
        refine rx_cVi hG (c_P_granted_0 l E T v7 hq8) (skX0 T) rfl rfl kw_P_116 ⟨Nat.le_of_ble_eq_true rfl, Nat.le_of_ble_eq_true rfl⟩ rfl (Nat.le_of_ble_eq_true rfl) dX9_counts_50 ?_
        cases hf
        exact rx_iret hG dX9_counts_53
      · have hf := ifT hf c6
        refine rx_aload_n hG dX9_counts_27 0 rfl ?_
        refine gfX_P_41_0 l E T hG dX9_counts_28 ?_
        refine gfX_P_213_35 l E T hG dX9_counts_31 ?_
        refine rx_iload_n hG dX9_counts_34 1 rfl ?_
        obtain ⟨v9, hv9, hf⟩ := bindE hf
        refine rx_iald hG (skX41 T) hv9 dX9_counts_35 ?_
        refine rx_goto hG 50 dX9_counts_36 rfl ?_
        obtain ⟨q10, hq10, hf⟩ := bindE hf
        refine rx_cVi hG (c_P_granted_0 l E T v9 hq10) (skX0 T) rfl rfl kw_P_116 ⟨Nat.le_of_ble_eq_true rfl, Nat.le_of_ble_eq_true rfl⟩ rfl (Nat.le_of_ble_eq_true rfl) dX9_counts_50 ?_
        cases hf
        exact rx_iret hG dX9_counts_53
    · have hf := ifT hf c5
      refine rx_aload_n hG dX9_counts_16 0 rfl ?_
      refine rx_iconst hG 1 dX9_counts_17 ic_1 ?_
      obtain ⟨q11, hq11, hf⟩ := bindE hf
      refine rx_cVi hG (c_P_refused_0 l E T 1 hq11) (skX0 T) rfl rfl kw_P_79 ⟨Nat.le_of_ble_eq_true rfl, Nat.le_of_ble_eq_true rfl⟩ rfl (Nat.le_of_ble_eq_true rfl) dX9_counts_18 ?_
      cases hf
      exact rx_iret hG dX9_counts_21
set_option maxHeartbeats 4000000 in
set_option maxRecDepth 100000 in
theorem c_P_orders_0 (l : Launch) (E : En) (T : List Sk) (p0 : Int32) (p1 : Int32) {M M' : Mm} {r : Int32} (h : f_P_orders_0 p0 p1 M = some (r, M')) : Ct l (SKX ++ T) E yX9_orders cX9_orders 3 (some .int) 2 42 [.ref (adr E 0), .int p0, .int p1] M (some (.int r)) M' := by
  refine ct_of (by decide) (Nat.le_of_ble_eq_true rfl) ?_
  intro G hG
  show G 0 [(0, .ref (adr E 0)), (1, .int p0), (2, .int p1)] [] M
  have hf := h
  unfold f_P_orders_0 at hf
  refine rx_aload_n hG dX9_orders_0 0 rfl ?_
  refine rx_iload_n hG dX9_orders_1 1 rfl ?_
  obtain ⟨v1, hv1, hf⟩ := bindE hf
  refine rx_cVi hG (c_P_isKind_0 l E T p0 hv1) (skX0 T) rfl rfl kw_P_167 ⟨Nat.le_of_ble_eq_true rfl, Nat.le_of_ble_eq_true rfl⟩ rfl (Nat.le_of_ble_eq_true rfl) dX9_orders_2 ?_
  refine rx_if_eq hG 16 dX9_orders_5 rfl (fun c2 => ?_) (fun c2 => ?_)
  · have hf := ifT hf c2
    refine rx_aload_n hG dX9_orders_16 0 rfl ?_
    refine rx_iconst hG 1 dX9_orders_17 ic_1 ?_
    obtain ⟨q3, hq3, hf⟩ := bindE hf
    refine rx_cVi hG (c_P_refused_0 l E T 1 hq3) (skX0 T) rfl rfl kw_P_79 ⟨Nat.le_of_ble_eq_true rfl, Nat.le_of_ble_eq_true rfl⟩ rfl (Nat.le_of_ble_eq_true rfl) dX9_orders_18 ?_
    cases hf
    exact rx_iret hG dX9_orders_21
  · have hf := ifF hf c2
    refine rx_iload_n hG dX9_orders_8 2 rfl ?_
    refine rx_iconst hG 3 dX9_orders_9 ic_3 ?_
    obtain ⟨v4, hv4, hf⟩ := bindE hf
    refine rx_cSi hG (c_P_within l E (SKX ++ T) p1 3 hv4) kw_P_128 ⟨Nat.le_of_ble_eq_true rfl, Nat.le_of_ble_eq_true rfl⟩ rfl (Nat.le_of_ble_eq_true rfl) dX9_orders_10 ?_
    refine rx_if_ne hG 22 dX9_orders_13 rfl (fun c5 => ?_) (fun c5 => ?_)
    · have hf := ifF hf c5
      refine rx_iload_n hG dX9_orders_22 2 rfl ?_
      by_cases c6 : p1 = 0
      · have hf := ifT hf c6
        refine rx_tableIn hG 48 0 (by rw [c6]; rfl) dX9_orders_23 (by decide) (by decide) rfl rfl ?_
        refine rx_aload_n hG dX9_orders_48 0 rfl ?_
        refine rx_aload_n hG dX9_orders_49 0 rfl ?_
        refine gfX_P_41_0 l E T hG dX9_orders_50 ?_
        refine gfX_P_219_35 l E T hG dX9_orders_53 ?_
        refine rx_iload_n hG dX9_orders_56 1 rfl ?_
        obtain ⟨v7, hv7, hf⟩ := bindE hf
        refine rx_iald hG (skX44 T) hv7 dX9_orders_57 ?_
        obtain ⟨q8, hq8, hf⟩ := bindE hf
        refine rx_cVi hG (c_P_granted_0 l E T v7 hq8) (skX0 T) rfl rfl kw_P_116 ⟨Nat.le_of_ble_eq_true rfl, Nat.le_of_ble_eq_true rfl⟩ rfl (Nat.le_of_ble_eq_true rfl) dX9_orders_58 ?_
        cases hf
        exact rx_iret hG dX9_orders_61
      have hf := ifF hf c6
      by_cases c9 : p1 = 1
      · have hf := ifT hf c9
        refine rx_tableIn hG 62 1 (by rw [c9]; rfl) dX9_orders_23 (by decide) (by decide) rfl rfl ?_
        refine rx_aload_n hG dX9_orders_62 0 rfl ?_
        refine rx_aload_n hG dX9_orders_63 0 rfl ?_
        refine gfX_P_41_0 l E T hG dX9_orders_64 ?_
        refine gfX_P_219_35 l E T hG dX9_orders_67 ?_
        refine rx_iload_n hG dX9_orders_70 1 rfl ?_
        obtain ⟨v10, hv10, hf⟩ := bindE hf
        refine rx_iald hG (skX44 T) hv10 dX9_orders_71 ?_
        refine rx_aload_n hG dX9_orders_72 0 rfl ?_
        refine gfX_P_41_0 l E T hG dX9_orders_73 ?_
        refine gfX_P_222_35 l E T hG dX9_orders_76 ?_
        refine rx_iload_n hG dX9_orders_79 1 rfl ?_
        obtain ⟨v11, hv11, hf⟩ := bindE hf
        refine rx_iald hG (skX45 T) hv11 dX9_orders_80 ?_
        refine rx_isub hG dX9_orders_81 ?_
        obtain ⟨q12, hq12, hf⟩ := bindE hf
        refine rx_cVi hG (c_P_granted_0 l E T (v10 - v11) hq12) (skX0 T) rfl rfl kw_P_116 ⟨Nat.le_of_ble_eq_true rfl, Nat.le_of_ble_eq_true rfl⟩ rfl (Nat.le_of_ble_eq_true rfl) dX9_orders_82 ?_
        cases hf
        exact rx_iret hG dX9_orders_85
      have hf := ifF hf c9
      by_cases c13 : p1 = 2
      · have hf := ifT hf c13
        refine rx_tableIn hG 86 2 (by rw [c13]; rfl) dX9_orders_23 (by decide) (by decide) rfl rfl ?_
        refine rx_aload_n hG dX9_orders_86 0 rfl ?_
        refine rx_aload_n hG dX9_orders_87 0 rfl ?_
        refine gfX_P_41_0 l E T hG dX9_orders_88 ?_
        refine gfX_P_222_35 l E T hG dX9_orders_91 ?_
        refine rx_iload_n hG dX9_orders_94 1 rfl ?_
        obtain ⟨v14, hv14, hf⟩ := bindE hf
        refine rx_iald hG (skX45 T) hv14 dX9_orders_95 ?_
        obtain ⟨q15, hq15, hf⟩ := bindE hf
        refine rx_cVi hG (c_P_granted_0 l E T v14 hq15) (skX0 T) rfl rfl kw_P_116 ⟨Nat.le_of_ble_eq_true rfl, Nat.le_of_ble_eq_true rfl⟩ rfl (Nat.le_of_ble_eq_true rfl) dX9_orders_96 ?_
        cases hf
        exact rx_iret hG dX9_orders_99
      have hf := ifF hf c13
      refine rx_tableOut hG 100 dX9_orders_23 (by have := tiN c6 (z := 0) rfl; have := tiN c9 (z := 1) rfl; have := tiN c13 (z := 2) rfl; omega) rfl ?_
      refine rx_aload_n hG dX9_orders_100 0 rfl ?_
      refine rx_aload_n hG dX9_orders_101 0 rfl ?_
      refine gfX_P_41_0 l E T hG dX9_orders_102 ?_
      refine gfX_P_225_35 l E T hG dX9_orders_105 ?_
      refine rx_iload_n hG dX9_orders_108 1 rfl ?_
      obtain ⟨v16, hv16, hf⟩ := bindE hf
      refine rx_iald hG (skX46 T) hv16 dX9_orders_109 ?_
      obtain ⟨q17, hq17, hf⟩ := bindE hf
      refine rx_cVi hG (c_P_granted_0 l E T v16 hq17) (skX0 T) rfl rfl kw_P_116 ⟨Nat.le_of_ble_eq_true rfl, Nat.le_of_ble_eq_true rfl⟩ rfl (Nat.le_of_ble_eq_true rfl) dX9_orders_110 ?_
      cases hf
      exact rx_iret hG dX9_orders_113
    · have hf := ifT hf c5
      refine rx_aload_n hG dX9_orders_16 0 rfl ?_
      refine rx_iconst hG 1 dX9_orders_17 ic_1 ?_
      obtain ⟨q18, hq18, hf⟩ := bindE hf
      refine rx_cVi hG (c_P_refused_0 l E T 1 hq18) (skX0 T) rfl rfl kw_P_79 ⟨Nat.le_of_ble_eq_true rfl, Nat.le_of_ble_eq_true rfl⟩ rfl (Nat.le_of_ble_eq_true rfl) dX9_orders_18 ?_
      cases hf
      exact rx_iret hG dX9_orders_21
set_option maxHeartbeats 4000000 in
set_option maxRecDepth 100000 in
theorem c_P_starved_0 (l : Launch) (E : En) (T : List Sk) (p0 : Int32) {M M' : Mm} {r : Int32} (h : f_P_starved_0 p0 M = some (r, M')) : Ct l (SKX ++ T) E yX9_starved cX9_starved 2 (some .int) 1 21 [.ref (adr E 0), .int p0] M (some (.int r)) M' := by
  refine ct_of (by decide) (Nat.le_of_ble_eq_true rfl) ?_
  intro G hG
  show G 0 [(0, .ref (adr E 0)), (1, .int p0)] [] M
  have hf := h
  unfold f_P_starved_0 at hf
  refine rx_aload_n hG dX9_starved_0 0 rfl ?_
  refine gfX_P_103_0 l E T hG dX9_starved_1 ?_
  refine rx_if_eq hG 15 dX9_starved_4 rfl (fun c1 => ?_) (fun c1 => ?_)
  · have hf := ifT hf c1
    refine rx_aload_n hG dX9_starved_15 0 rfl ?_
    refine rx_iconst hG 1 dX9_starved_16 ic_1 ?_
    obtain ⟨q2, hq2, hf⟩ := bindE hf
    refine rx_cVi hG (c_P_refused_0 l E T 1 hq2) (skX0 T) rfl rfl kw_P_79 ⟨Nat.le_of_ble_eq_true rfl, Nat.le_of_ble_eq_true rfl⟩ rfl (Nat.le_of_ble_eq_true rfl) dX9_starved_17 ?_
    cases hf
    exact rx_iret hG dX9_starved_20
  · have hf := ifF hf c1
    refine rx_iload_n hG dX9_starved_7 1 rfl ?_
    refine rx_iconst hG 1 dX9_starved_8 ic_1 ?_
    obtain ⟨v3, hv3, hf⟩ := bindE hf
    refine rx_cSi hG (c_P_within l E (SKX ++ T) p0 1 hv3) kw_P_128 ⟨Nat.le_of_ble_eq_true rfl, Nat.le_of_ble_eq_true rfl⟩ rfl (Nat.le_of_ble_eq_true rfl) dX9_starved_9 ?_
    refine rx_if_ne hG 21 dX9_starved_12 rfl (fun c4 => ?_) (fun c4 => ?_)
    · have hf := ifF hf c4
      refine rx_aload_n hG dX9_starved_21 0 rfl ?_
      refine gfX_P_41_0 l E T hG dX9_starved_22 ?_
      refine gfX_P_228_35 l E T hG dX9_starved_25 ?_
      refine rx_bipush hG (-2) dX9_starved_28 bp_m2 ?_
      refine rx_icmp_ne hG 40 dX9_starved_30 rfl (fun c5 => ?_) (fun c5 => ?_)
      · have hf := ifF hf c5
        refine rx_aload_n hG dX9_starved_40 0 rfl ?_
        refine rx_iload_n hG dX9_starved_41 1 rfl ?_
        refine rx_if_ne hG 55 dX9_starved_42 rfl (fun c6 => ?_) (fun c6 => ?_)
        · have hf := ifF hf c6
          refine rx_aload_n hG dX9_starved_55 0 rfl ?_
          refine gfX_P_41_0 l E T hG dX9_starved_56 ?_
          refine gfX_P_231_35 l E T hG dX9_starved_59 ?_
          obtain ⟨q7, hq7, hf⟩ := bindE hf
          refine rx_cVi hG (c_P_granted_0 l E T (M.1 35 17) hq7) (skX0 T) rfl rfl kw_P_116 ⟨Nat.le_of_ble_eq_true rfl, Nat.le_of_ble_eq_true rfl⟩ rfl (Nat.le_of_ble_eq_true rfl) dX9_starved_62 ?_
          cases hf
          exact rx_iret hG dX9_starved_65
        · have hf := ifT hf c6
          refine rx_aload_n hG dX9_starved_45 0 rfl ?_
          refine gfX_P_41_0 l E T hG dX9_starved_46 ?_
          refine gfX_P_228_35 l E T hG dX9_starved_49 ?_
          refine rx_goto hG 62 dX9_starved_52 rfl ?_
          obtain ⟨q8, hq8, hf⟩ := bindE hf
          refine rx_cVi hG (c_P_granted_0 l E T (M.1 35 16) hq8) (skX0 T) rfl rfl kw_P_116 ⟨Nat.le_of_ble_eq_true rfl, Nat.le_of_ble_eq_true rfl⟩ rfl (Nat.le_of_ble_eq_true rfl) dX9_starved_62 ?_
          cases hf
          exact rx_iret hG dX9_starved_65
      · have hf := ifT hf c5
        refine rx_aload_n hG dX9_starved_33 0 rfl ?_
        refine rx_bipush hG 6 dX9_starved_34 bp_6 ?_
        obtain ⟨q9, hq9, hf⟩ := bindE hf
        refine rx_cVi hG (c_P_refused_0 l E T 6 hq9) (skX0 T) rfl rfl kw_P_79 ⟨Nat.le_of_ble_eq_true rfl, Nat.le_of_ble_eq_true rfl⟩ rfl (Nat.le_of_ble_eq_true rfl) dX9_starved_36 ?_
        cases hf
        exact rx_iret hG dX9_starved_39
    · have hf := ifT hf c4
      refine rx_aload_n hG dX9_starved_15 0 rfl ?_
      refine rx_iconst hG 1 dX9_starved_16 ic_1 ?_
      obtain ⟨q10, hq10, hf⟩ := bindE hf
      refine rx_cVi hG (c_P_refused_0 l E T 1 hq10) (skX0 T) rfl rfl kw_P_79 ⟨Nat.le_of_ble_eq_true rfl, Nat.le_of_ble_eq_true rfl⟩ rfl (Nat.le_of_ble_eq_true rfl) dX9_starved_17 ?_
      cases hf
      exact rx_iret hG dX9_starved_20

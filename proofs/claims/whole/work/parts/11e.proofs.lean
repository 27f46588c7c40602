set_option maxHeartbeats 4000000 in
set_option maxRecDepth 100000 in
theorem Lj_M_goOn_0_321 (l : Launch) (E : En) (T : List Sk) {a0 b0 kc ks : Nat} {M' : Mm} {G : Nat → List (Nat × Value) → List Value → Mm → Prop} (hG : RX l (SKM ++ T) E RX10 cX10_goOn 1 none { frames := 2, cells := a0, slots := b0, locals := 43 } kc ks none M' G)  : ∀ (t0 : Int32) (M : Mm), j_M_goOn_0_321  t0 M = some M' → G 321 [(0, .ref (adr E 0))] [.int t0, .ref (adr E 0)] M := by
  intro t0 M hf
  unfold j_M_goOn_0_321 at hf
  obtain ⟨M1, hM1, hf⟩ := bindE hf
  refine pfM_M_102_0 l E T hG hM1 dX10_goOn_321 ?_
  refine rx_aload_n hG dX10_goOn_324 0 rfl ?_
  refine rx_dup hG dX10_goOn_325 rfl ?_
  refine gfM_M_99_0 l E T hG dX10_goOn_326 ?_
  refine rx_iconst hG 1 dX10_goOn_329 ic_1 ?_
  refine rx_iadd hG dX10_goOn_330 ?_
  obtain ⟨M2, hM2, hf⟩ := bindE hf
  refine pfM_M_99_0 l E T hG hM2 dX10_goOn_331 ?_
  cases hf
  exact rx_vret hG dX10_goOn_334
set_option maxHeartbeats 4000000 in
set_option maxRecDepth 100000 in
theorem Lj_M_goOn_0_316 (l : Launch) (E : En) (T : List Sk) {a0 b0 kc ks : Nat} {M' : Mm} {G : Nat → List (Nat × Value) → List Value → Mm → Prop} (hG : RX l (SKM ++ T) E RX10 cX10_goOn 1 none { frames := 2, cells := a0, slots := b0, locals := 43 } kc ks none M' G)  : ∀  (M : Mm), j_M_goOn_0_316  M = some M' → G 316 [(0, .ref (adr E 0))] [.ref (adr E 0)] M := by
  intro M hf
  unfold j_M_goOn_0_316 at hf
  refine rx_iconst hG 4 dX10_goOn_316 ic_4 ?_
  refine rx_goto hG 321 dX10_goOn_317 rfl ?_
  exact Lj_M_goOn_0_321 l E T hG  4 M hf
set_option maxHeartbeats 4000000 in
set_option maxRecDepth 100000 in
theorem Lj_M_goOn_0_259 (l : Launch) (E : En) (T : List Sk) {a0 b0 kc ks : Nat} {M' : Mm} {G : Nat → List (Nat × Value) → List Value → Mm → Prop} (hG : RX l (SKM ++ T) E RX10 cX10_goOn 1 none { frames := 2, cells := a0, slots := b0, locals := 43 } kc ks none M' G)  : ∀  (M : Mm), j_M_goOn_0_259  M = some M' → G 259 [(0, .ref (adr E 0))] [] M := by
  intro M hf
  unfold j_M_goOn_0_259 at hf
  refine rx_aload_n hG dX10_goOn_259 0 rfl ?_
  refine rx_aload_n hG dX10_goOn_260 0 rfl ?_
  refine gfM_M_99_0 l E T hG dX10_goOn_261 ?_
  refine rx_aload_n hG dX10_goOn_264 0 rfl ?_
  refine gfM_M_86_0 l E T hG dX10_goOn_265 ?_
  refine rx_isub hG dX10_goOn_268 ?_
  refine rx_iconst hG 4 dX10_goOn_269 ic_4 ?_
  refine rx_icmp_le hG 277 dX10_goOn_270 rfl (fun c1 => ?_) (fun c1 => ?_)
  · have hf := ifT hf c1
    refine rx_iconst hG 3 dX10_goOn_277 ic_3 ?_
    obtain ⟨M2, hM2, hf⟩ := bindE hf
    refine pfM_M_102_0 l E T hG hM2 dX10_goOn_278 ?_
    refine rx_goto hG 334 dX10_goOn_281 rfl ?_
    cases hf
    exact rx_vret hG dX10_goOn_334
  · have hf := ifF hf c1
    refine rx_iconst hG 0 dX10_goOn_273 ic_0 ?_
    refine rx_goto hG 278 dX10_goOn_274 rfl ?_
    obtain ⟨M3, hM3, hf⟩ := bindE hf
    refine pfM_M_102_0 l E T hG hM3 dX10_goOn_278 ?_
    refine rx_goto hG 334 dX10_goOn_281 rfl ?_
    cases hf
    exact rx_vret hG dX10_goOn_334
set_option maxHeartbeats 4000000 in
set_option maxRecDepth 100000 in
theorem Lj_M_goOn_0_246 (l : Launch) (E : En) (T : List Sk) {a0 b0 kc ks : Nat} {M' : Mm} {G : Nat → List (Nat × Value) → List Value → Mm → Prop} (hG : RX l (SKM ++ T) E RX10 cX10_goOn 1 none { frames := 2, cells := a0, slots := b0, locals := 43 } kc ks none M' G) (rc198 : Mm → Option Mm) (hrc198 : ∀  (M : Mm), rc198 M = some M' → G 198 [(0, .ref (adr E 0))] [] M) : ∀  (M : Mm), j_M_goOn_0_246 rc198 M = some M' → G 246 [(0, .ref (adr E 0))] [] M := by
  intro M hf
  unfold j_M_goOn_0_246 at hf
  refine rx_aload_n hG dX10_goOn_246 0 rfl ?_
  refine rx_dup hG dX10_goOn_247 rfl ?_
  refine gfM_M_99_0 l E T hG dX10_goOn_248 ?_
  refine rx_iconst hG 1 dX10_goOn_251 ic_1 ?_
  refine rx_iadd hG dX10_goOn_252 ?_
  obtain ⟨M1, hM1, hf⟩ := bindE hf
  refine pfM_M_99_0 l E T hG hM1 dX10_goOn_253 ?_
  refine rx_goto hG 198 dX10_goOn_256 rfl ?_
  exact hrc198 M1 hf
set_option maxHeartbeats 4000000 in
set_option maxRecDepth 100000 in
theorem Lblp_M_goOn_0_198 (l : Launch) (E : En) (T : List Sk) {a0 b0 kc ks : Nat} {M' : Mm} {G : Nat → List (Nat × Value) → List Value → Mm → Prop} (hG : RX l (SKM ++ T) E RX10 cX10_goOn 1 none { frames := 2, cells := a0, slots := b0, locals := 43 } kc ks none M' G) (rc198 : Mm → Option Mm) (hrc198 : ∀  (M : Mm), rc198 M = some M' → G 198 [(0, .ref (adr E 0))] [] M) : ∀  (M : Mm), blp_M_goOn_0_198 rc198 M = some M' → G 198 [(0, .ref (adr E 0))] [] M := by
  intro M hf
  unfold blp_M_goOn_0_198 at hf
  refine rx_aload_n hG dX10_goOn_198 0 rfl ?_
  refine rx_aload_n hG dX10_goOn_199 0 rfl ?_
  refine gfM_M_99_0 l E T hG dX10_goOn_200 ?_
  obtain ⟨v1, hv1, hf⟩ := bindE hf
  refine rx_cVi hG (c_M_isDigitAt_0 l E T (M.1 0 6) hv1) (skM0 T) rfl rfl kw_M_117 ⟨Nat.le_of_ble_eq_true rfl, Nat.le_of_ble_eq_true rfl⟩ rfl (Nat.le_of_ble_eq_true rfl) dX10_goOn_203 ?_
  refine rx_if_eq hG 259 dX10_goOn_206 rfl (fun c2 => ?_) (fun c2 => ?_)
  · have hf := ifT hf c2
    exact Lj_M_goOn_0_259 l E T hG  M hf
  · have hf := ifF hf c2
    refine rx_aload_n hG dX10_goOn_209 0 rfl ?_
    refine gfM_M_99_0 l E T hG dX10_goOn_210 ?_
    refine rx_aload_n hG dX10_goOn_213 0 rfl ?_
    refine gfM_M_86_0 l E T hG dX10_goOn_214 ?_
    refine rx_isub hG dX10_goOn_217 ?_
    refine rx_iconst hG 4 dX10_goOn_218 ic_4 ?_
    refine rx_icmp_ge hG 246 dX10_goOn_219 rfl (fun c3 => ?_) (fun c3 => ?_)
    · have hf := ifT hf c3
      exact Lj_M_goOn_0_246 l E T hG rc198 hrc198 M hf
    · have hf := ifF hf c3
      refine rx_aload_n hG dX10_goOn_222 0 rfl ?_
      refine rx_bipush hG 10 dX10_goOn_223 bp_10 ?_
      refine rx_aload_n hG dX10_goOn_225 0 rfl ?_
      refine gfM_M_120_0 l E T hG dX10_goOn_226 ?_
      refine rx_imul hG dX10_goOn_229 ?_
      refine rx_aload_n hG dX10_goOn_230 0 rfl ?_
      refine gfM_M_13_0 l E T hG dX10_goOn_231 ?_
      refine rx_aload_n hG dX10_goOn_234 0 rfl ?_
      refine gfM_M_99_0 l E T hG dX10_goOn_235 ?_
      obtain ⟨v4, hv4, hf⟩ := bindE hf
      refine rx_iald hG (skM1 T) hv4 dX10_goOn_238 ?_
      refine rx_iadd hG dX10_goOn_239 ?_
      refine rx_bipush hG 48 dX10_goOn_240 bp_48 ?_
      refine rx_isub hG dX10_goOn_242 ?_
      obtain ⟨M5, hM5, hf⟩ := bindE hf
      refine pfM_M_120_0 l E T hG hM5 dX10_goOn_243 ?_
      exact Lj_M_goOn_0_246 l E T hG rc198 hrc198 M5 hf
theorem Llp_M_goOn_0_198 (l : Launch) (E : En) (T : List Sk) {a0 b0 kc ks : Nat} {M' : Mm} {G : Nat → List (Nat × Value) → List Value → Mm → Prop} (hG : RX l (SKM ++ T) E RX10 cX10_goOn 1 none { frames := 2, cells := a0, slots := b0, locals := 43 } kc ks none M' G)  : ∀ (n : Nat)  (M : Mm), lp_M_goOn_0_198  n M = some M' → G 198 [(0, .ref (adr E 0))] [] M := by
  intro n
  induction n with
  | zero => intro M hf; cases hf
  | succ n ih => intro M hf; exact Lblp_M_goOn_0_198 l E T hG  (lp_M_goOn_0_198  n) ih M hf
set_option maxHeartbeats 4000000 in
set_option maxRecDepth 100000 in
theorem Lj_M_goOn_0_156 (l : Launch) (E : En) (T : List Sk) {a0 b0 kc ks : Nat} {M' : Mm} {G : Nat → List (Nat × Value) → List Value → Mm → Prop} (hG : RX l (SKM ++ T) E RX10 cX10_goOn 1 none { frames := 2, cells := a0, slots := b0, locals := 43 } kc ks none M' G)  : ∀  (M : Mm), j_M_goOn_0_156  M = some M' → G 156 [(0, .ref (adr E 0))] [] M := by
  intro M hf
  unfold j_M_goOn_0_156 at hf
  refine rx_aload_n hG dX10_goOn_156 0 rfl ?_
  refine rx_aload_n hG dX10_goOn_157 0 rfl ?_
  refine gfM_M_99_0 l E T hG dX10_goOn_158 ?_
  refine rx_aload_n hG dX10_goOn_161 0 rfl ?_
  refine gfM_M_86_0 l E T hG dX10_goOn_162 ?_
  refine rx_isub hG dX10_goOn_165 ?_
  refine rx_bipush hG 6 dX10_goOn_166 bp_6 ?_
  refine rx_icmp_le hG 175 dX10_goOn_168 rfl (fun c1 => ?_) (fun c1 => ?_)
  · have hf := ifT hf c1
    refine rx_iconst hG 2 dX10_goOn_175 ic_2 ?_
    obtain ⟨M2, hM2, hf⟩ := bindE hf
    refine pfM_M_102_0 l E T hG hM2 dX10_goOn_176 ?_
    refine rx_goto hG 334 dX10_goOn_179 rfl ?_
    cases hf
    exact rx_vret hG dX10_goOn_334
  · have hf := ifF hf c1
    refine rx_iconst hG 0 dX10_goOn_171 ic_0 ?_
    refine rx_goto hG 176 dX10_goOn_172 rfl ?_
    obtain ⟨M3, hM3, hf⟩ := bindE hf
    refine pfM_M_102_0 l E T hG hM3 dX10_goOn_176 ?_
    refine rx_goto hG 334 dX10_goOn_179 rfl ?_
    cases hf
    exact rx_vret hG dX10_goOn_334
set_option maxHeartbeats 4000000 in
set_option maxRecDepth 100000 in
theorem Lj_M_goOn_0_143 (l : Launch) (E : En) (T : List Sk) {a0 b0 kc ks : Nat} {M' : Mm} {G : Nat → List (Nat × Value) → List Value → Mm → Prop} (hG : RX l (SKM ++ T) E RX10 cX10_goOn 1 none { frames := 2, cells := a0, slots := b0, locals := 43 } kc ks none M' G) (rc89 : Mm → Option Mm) (hrc89 : ∀  (M : Mm), rc89 M = some M' → G 89 [(0, .ref (adr E 0))] [] M) : ∀  (M : Mm), j_M_goOn_0_143 rc89 M = some M' → G 143 [(0, .ref (adr E 0))] [] M := by
  intro M hf
  unfold j_M_goOn_0_143 at hf
  refine rx_aload_n hG dX10_goOn_143 0 rfl ?_
  refine rx_dup hG dX10_goOn_144 rfl ?_
  refine gfM_M_99_0 l E T hG dX10_goOn_145 ?_
  refine rx_iconst hG 1 dX10_goOn_148 ic_1 ?_
  refine rx_iadd hG dX10_goOn_149 ?_
  obtain ⟨M1, hM1, hf⟩ := bindE hf
  refine pfM_M_99_0 l E T hG hM1 dX10_goOn_150 ?_
  refine rx_goto hG 89 dX10_goOn_153 rfl ?_
  exact hrc89 M1 hf
set_option maxHeartbeats 4000000 in
set_option maxRecDepth 100000 in
theorem Lblp_M_goOn_0_89 (l : Launch) (E : En) (T : List Sk) {a0 b0 kc ks : Nat} {M' : Mm} {G : Nat → List (Nat × Value) → List Value → Mm → Prop} (hG : RX l (SKM ++ T) E RX10 cX10_goOn 1 none { frames := 2, cells := a0, slots := b0, locals := 43 } kc ks none M' G) (rc89 : Mm → Option Mm) (hrc89 : ∀  (M : Mm), rc89 M = some M' → G 89 [(0, .ref (adr E 0))] [] M) : ∀  (M : Mm), blp_M_goOn_0_89 rc89 M = some M' → G 89 [(0, .ref (adr E 0))] [] M := by
  intro M hf
  unfold blp_M_goOn_0_89 at hf
  refine rx_aload_n hG dX10_goOn_89 0 rfl ?_
  refine rx_aload_n hG dX10_goOn_90 0 rfl ?_
  refine gfM_M_99_0 l E T hG dX10_goOn_91 ?_
  obtain ⟨v1, hv1, hf⟩ := bindE hf
  refine rx_cVi hG (c_M_isLetterAt_0 l E T (M.1 0 6) hv1) (skM0 T) rfl rfl kw_M_105 ⟨Nat.le_of_ble_eq_true rfl, Nat.le_of_ble_eq_true rfl⟩ rfl (Nat.le_of_ble_eq_true rfl) dX10_goOn_94 ?_
  refine rx_if_eq hG 156 dX10_goOn_97 rfl (fun c2 => ?_) (fun c2 => ?_)
  · have hf := ifT hf c2
    exact Lj_M_goOn_0_156 l E T hG  M hf
  · have hf := ifF hf c2
    refine rx_aload_n hG dX10_goOn_100 0 rfl ?_
    refine gfM_M_99_0 l E T hG dX10_goOn_101 ?_
    refine rx_aload_n hG dX10_goOn_104 0 rfl ?_
    refine gfM_M_86_0 l E T hG dX10_goOn_105 ?_
    refine rx_isub hG dX10_goOn_108 ?_
    refine rx_bipush hG 6 dX10_goOn_109 bp_6 ?_
    refine rx_icmp_ge hG 143 dX10_goOn_111 rfl (fun c3 => ?_) (fun c3 => ?_)
    · have hf := ifT hf c3
      exact Lj_M_goOn_0_143 l E T hG rc89 hrc89 M hf
    · have hf := ifF hf c3
      refine rx_aload_n hG dX10_goOn_114 0 rfl ?_
      refine rx_aload_n hG dX10_goOn_115 0 rfl ?_
      refine gfM_M_109_0 l E T hG dX10_goOn_116 ?_
      refine rx_ldc2 hG q_1297 dX10_goOn_119 ?_
      refine rx_lmul hG dX10_goOn_122 ?_
      refine rx_aload_n hG dX10_goOn_123 0 rfl ?_
      refine gfM_M_13_0 l E T hG dX10_goOn_124 ?_
      refine rx_aload_n hG dX10_goOn_127 0 rfl ?_
      refine gfM_M_99_0 l E T hG dX10_goOn_128 ?_
      obtain ⟨v4, hv4, hf⟩ := bindE hf
      refine rx_iald hG (skM1 T) hv4 dX10_goOn_131 ?_
      refine rx_i2l hG dX10_goOn_132 ?_
      refine rx_ladd hG dX10_goOn_133 ?_
      refine rx_ldc2 hG q_1298 dX10_goOn_134 ?_
      refine rx_lsub hG dX10_goOn_137 ?_
      refine rx_lconst hG 1 dX10_goOn_138 lc_1 ?_
      refine rx_ladd hG dX10_goOn_139 ?_
      obtain ⟨M5, hM5, hf⟩ := bindE hf
      refine pfM_M_109_0 l E T hG hM5 dX10_goOn_140 ?_
      exact Lj_M_goOn_0_143 l E T hG rc89 hrc89 M5 hf
theorem Llp_M_goOn_0_89 (l : Launch) (E : En) (T : List Sk) {a0 b0 kc ks : Nat} {M' : Mm} {G : Nat → List (Nat × Value) → List Value → Mm → Prop} (hG : RX l (SKM ++ T) E RX10 cX10_goOn 1 none { frames := 2, cells := a0, slots := b0, locals := 43 } kc ks none M' G)  : ∀ (n : Nat)  (M : Mm), lp_M_goOn_0_89  n M = some M' → G 89 [(0, .ref (adr E 0))] [] M := by
  intro n
  induction n with
  | zero => intro M hf; cases hf
  | succ n ih => intro M hf; exact Lblp_M_goOn_0_89 l E T hG  (lp_M_goOn_0_89  n) ih M hf
set_option maxHeartbeats 4000000 in
set_option maxRecDepth 100000 in
theorem Lj_M_goOn_0_46 (l : Launch) (E : En) (T : List Sk) {a0 b0 kc ks : Nat} {M' : Mm} {G : Nat → List (Nat × Value) → List Value → Mm → Prop} (hG : RX l (SKM ++ T) E RX10 cX10_goOn 1 none { frames := 2, cells := a0, slots := b0, locals := 43 } kc ks none M' G)  : ∀  (M : Mm), j_M_goOn_0_46  M = some M' → G 46 [(0, .ref (adr E 0))] [] M := by
  intro M hf
  unfold j_M_goOn_0_46 at hf
  refine rx_aload_n hG dX10_goOn_46 0 rfl ?_
  refine rx_aload_n hG dX10_goOn_47 0 rfl ?_
  refine gfM_M_99_0 l E T hG dX10_goOn_48 ?_
  obtain ⟨M1, hM1, hf⟩ := bindE hf
  refine pfM_M_86_0 l E T hG hM1 dX10_goOn_51 ?_
  refine rx_aload_n hG dX10_goOn_54 0 rfl ?_
  refine gfM_M_99_0 l E T hG dX10_goOn_55 ?_
  refine rx_aload_n hG dX10_goOn_58 0 rfl ?_
  refine gfM_M_92_0 l E T hG dX10_goOn_59 ?_
  refine rx_icmp_ne hG 73 dX10_goOn_62 rfl (fun c2 => ?_) (fun c2 => ?_)
  · have hf := ifF hf c2
    refine rx_aload_n hG dX10_goOn_73 0 rfl ?_
    refine rx_aload_n hG dX10_goOn_74 0 rfl ?_
    refine gfM_M_99_0 l E T hG dX10_goOn_75 ?_
    obtain ⟨v3, hv3, hf⟩ := bindE hf
    refine rx_cVi hG (c_M_isLetterAt_0 l E T (M1.1 0 6) hv3) (skM0 T) rfl rfl kw_M_105 ⟨Nat.le_of_ble_eq_true rfl, Nat.le_of_ble_eq_true rfl⟩ rfl (Nat.le_of_ble_eq_true rfl) dX10_goOn_78 ?_
    refine rx_if_eq hG 182 dX10_goOn_81 rfl (fun c4 => ?_) (fun c4 => ?_)
    · have hf := ifT hf c4
      refine rx_aload_n hG dX10_goOn_182 0 rfl ?_
      refine rx_aload_n hG dX10_goOn_183 0 rfl ?_
      refine gfM_M_99_0 l E T hG dX10_goOn_184 ?_
      obtain ⟨v5, hv5, hf⟩ := bindE hf
      refine rx_cVi hG (c_M_isDigitAt_0 l E T (M1.1 0 6) hv5) (skM0 T) rfl rfl kw_M_117 ⟨Nat.le_of_ble_eq_true rfl, Nat.le_of_ble_eq_true rfl⟩ rfl (Nat.le_of_ble_eq_true rfl) dX10_goOn_187 ?_
      refine rx_if_eq hG 284 dX10_goOn_190 rfl (fun c6 => ?_) (fun c6 => ?_)
      · have hf := ifT hf c6
        refine rx_aload_n hG dX10_goOn_284 0 rfl ?_
        refine rx_aload_n hG dX10_goOn_285 0 rfl ?_
        refine gfM_M_13_0 l E T hG dX10_goOn_286 ?_
        refine rx_aload_n hG dX10_goOn_289 0 rfl ?_
        refine gfM_M_99_0 l E T hG dX10_goOn_290 ?_
        obtain ⟨v7, hv7, hf⟩ := bindE hf
        refine rx_iald hG (skM1 T) hv7 dX10_goOn_293 ?_
        obtain ⟨M8, hM8, hf⟩ := bindE hf
        refine pfM_M_123_0 l E T hG hM8 dX10_goOn_294 ?_
        refine rx_aload_n hG dX10_goOn_297 0 rfl ?_
        refine rx_aload_n hG dX10_goOn_298 0 rfl ?_
        refine gfM_M_123_0 l E T hG dX10_goOn_299 ?_
        refine rx_bipush hG 59 dX10_goOn_302 bp_59 ?_
        refine rx_icmp_eq hG 316 dX10_goOn_304 rfl (fun c9 => ?_) (fun c9 => ?_)
        · have hf := ifT hf c9
          exact Lj_M_goOn_0_316 l E T hG  M8 hf
        · have hf := ifF hf c9
          refine rx_aload_n hG dX10_goOn_307 0 rfl ?_
          refine gfM_M_123_0 l E T hG dX10_goOn_308 ?_
          refine rx_bipush hG 44 dX10_goOn_311 bp_44 ?_
          refine rx_icmp_ne hG 320 dX10_goOn_313 rfl (fun c10 => ?_) (fun c10 => ?_)
          · have hf := ifF hf c10
            refine rx_iconst hG 0 dX10_goOn_320 ic_0 ?_
            exact Lj_M_goOn_0_321 l E T hG  0 M8 hf
          · have hf := ifT hf c10
            exact Lj_M_goOn_0_316 l E T hG  M8 hf
      · have hf := ifF hf c6
        refine rx_aload_n hG dX10_goOn_193 0 rfl ?_
        refine rx_iconst hG 0 dX10_goOn_194 ic_0 ?_
        obtain ⟨M11, hM11, hf⟩ := bindE hf
        refine pfM_M_120_0 l E T hG hM11 dX10_goOn_195 ?_
        exact Llp_M_goOn_0_198 l E T hG  FW M11 hf
    · have hf := ifF hf c4
      refine rx_aload_n hG dX10_goOn_84 0 rfl ?_
      refine rx_lconst hG 0 dX10_goOn_85 lc_0 ?_
      obtain ⟨M12, hM12, hf⟩ := bindE hf
      refine pfM_M_109_0 l E T hG hM12 dX10_goOn_86 ?_
      exact Llp_M_goOn_0_89 l E T hG  FW M12 hf
  · have hf := ifT hf c2
    refine rx_aload_n hG dX10_goOn_65 0 rfl ?_
    refine rx_iconst hG 1 dX10_goOn_66 ic_1 ?_
    obtain ⟨M13, hM13, hf⟩ := bindE hf
    refine pfM_M_102_0 l E T hG hM13 dX10_goOn_67 ?_
    refine rx_goto hG 334 dX10_goOn_70 rfl ?_
    cases hf
    exact rx_vret hG dX10_goOn_334
set_option maxHeartbeats 4000000 in
set_option maxRecDepth 100000 in
theorem Lblp_M_goOn_0_8 (l : Launch) (E : En) (T : List Sk) {a0 b0 kc ks : Nat} {M' : Mm} {G : Nat → List (Nat × Value) → List Value → Mm → Prop} (hG : RX l (SKM ++ T) E RX10 cX10_goOn 1 none { frames := 2, cells := a0, slots := b0, locals := 43 } kc ks none M' G) (rc8 : Mm → Option Mm) (hrc8 : ∀  (M : Mm), rc8 M = some M' → G 8 [(0, .ref (adr E 0))] [] M) : ∀  (M : Mm), blp_M_goOn_0_8 rc8 M = some M' → G 8 [(0, .ref (adr E 0))] [] M := by
  intro M hf
  unfold blp_M_goOn_0_8 at hf
  refine rx_aload_n hG dX10_goOn_8 0 rfl ?_
  refine gfM_M_99_0 l E T hG dX10_goOn_9 ?_
  refine rx_aload_n hG dX10_goOn_12 0 rfl ?_
  refine gfM_M_92_0 l E T hG dX10_goOn_13 ?_
  refine rx_icmp_ge hG 46 dX10_goOn_16 rfl (fun c1 => ?_) (fun c1 => ?_)
  · have hf := ifT hf c1
    exact Lj_M_goOn_0_46 l E T hG  M hf
  · have hf := ifF hf c1
    refine rx_aload_n hG dX10_goOn_19 0 rfl ?_
    refine gfM_M_13_0 l E T hG dX10_goOn_20 ?_
    refine rx_aload_n hG dX10_goOn_23 0 rfl ?_
    refine gfM_M_99_0 l E T hG dX10_goOn_24 ?_
    obtain ⟨v2, hv2, hf⟩ := bindE hf
    refine rx_iald hG (skM1 T) hv2 dX10_goOn_27 ?_
    refine rx_bipush hG 32 dX10_goOn_28 bp_32 ?_
    refine rx_icmp_ne hG 46 dX10_goOn_30 rfl (fun c3 => ?_) (fun c3 => ?_)
    · have hf := ifF hf c3
      exact Lj_M_goOn_0_46 l E T hG  M hf
    · have hf := ifT hf c3
      refine rx_aload_n hG dX10_goOn_33 0 rfl ?_
      refine rx_dup hG dX10_goOn_34 rfl ?_
      refine gfM_M_99_0 l E T hG dX10_goOn_35 ?_
      refine rx_iconst hG 1 dX10_goOn_38 ic_1 ?_
      refine rx_iadd hG dX10_goOn_39 ?_
      obtain ⟨M4, hM4, hf⟩ := bindE hf
      refine pfM_M_99_0 l E T hG hM4 dX10_goOn_40 ?_
      refine rx_goto hG 8 dX10_goOn_43 rfl ?_
      exact hrc8 M4 hf
theorem Llp_M_goOn_0_8 (l : Launch) (E : En) (T : List Sk) {a0 b0 kc ks : Nat} {M' : Mm} {G : Nat → List (Nat × Value) → List Value → Mm → Prop} (hG : RX l (SKM ++ T) E RX10 cX10_goOn 1 none { frames := 2, cells := a0, slots := b0, locals := 43 } kc ks none M' G)  : ∀ (n : Nat)  (M : Mm), lp_M_goOn_0_8  n M = some M' → G 8 [(0, .ref (adr E 0))] [] M := by
  intro n
  induction n with
  | zero => intro M hf; cases hf
  | succ n ih => intro M hf; exact Lblp_M_goOn_0_8 l E T hG  (lp_M_goOn_0_8  n) ih M hf
set_option maxHeartbeats 4000000 in
set_option maxRecDepth 100000 in
theorem c_M_goOn_0 (l : Launch) (E : En) (T : List Sk)  {M M' : Mm} (h : f_M_goOn_0 M = some M') : Ct l (SKM ++ T) E yX10_goOn cX10_goOn 1 none 2 43 [.ref (adr E 0)] M none M' := by
  refine ct_of (by decide) (Nat.le_of_ble_eq_true rfl) ?_
  intro G hG
  show G 0 [(0, .ref (adr E 0))] [] M
  have hf := h
  unfold f_M_goOn_0 at hf
  refine rx_aload_n hG dX10_goOn_0 0 rfl ?_
  refine gfM_M_83_0 l E T hG dX10_goOn_1 ?_
  refine rx_if_le hG 8 dX10_goOn_4 rfl (fun c1 => ?_) (fun c1 => ?_)
  · have hf := ifT hf c1
    exact Llp_M_goOn_0_8 l E T hG  FW M hf
  · have hf := ifF hf c1
    cases hf
    exact rx_vret hG dX10_goOn_7
set_option maxHeartbeats 4000000 in
set_option maxRecDepth 100000 in
theorem Lblp_M_wordOf_4 (l : Launch) (E : En) (T : List Sk) {a0 b0 kc ks : Nat} {r : Int64} {M : Mm} {G : Nat → List (Nat × Value) → List Value → Mm → Prop} (hG : RX l T E RX10 cX10_wordOf 4 (some .long) { frames := 4, cells := a0, slots := b0, locals := 85 } kc ks (some (.long r)) M G) (rc4 : Nat → Int64 → Int32 → Option Int64) (hrc4 : ∀ (x0 : Nat) (x1 : Int64) (x3 : Int32), rc4 x0 x1 x3 = some r → G 4 [(0, .ref (E.2.2.2.2.1 x0)), (1, .long x1), (3, .int x3)] [] M) : ∀ (x0 : Nat) (x1 : Int64) (x3 : Int32), blp_M_wordOf_4 rc4 x0 x1 x3 = some r → G 4 [(0, .ref (E.2.2.2.2.1 x0)), (1, .long x1), (3, .int x3)] [] M := by
  intro x0 x1 x3 hf
  unfold blp_M_wordOf_4 at hf
  refine rx_iload_n hG dX10_wordOf_4 2 rfl ?_
  refine rx_aload_n hG dX10_wordOf_5 0 rfl ?_
  obtain ⟨v1, hv1, hf⟩ := bindE hf
  refine rx_slen hG hv1 kw_M_126 ⟨Nat.le_of_ble_eq_true rfl, Nat.le_of_ble_eq_true rfl⟩ (Nat.le_of_ble_eq_true rfl) dX10_wordOf_6 ?_
  refine rx_icmp_ge hG 37 dX10_wordOf_9 rfl (fun c2 => ?_) (fun c2 => ?_)
  · have hf := ifT hf c2
    refine rx_lload_n hG dX10_wordOf_37 1 rfl ?_
    cases hf
    exact rx_lret hG dX10_wordOf_38
  · have hf := ifF hf c2
    refine rx_lload_n hG dX10_wordOf_12 1 rfl ?_
    refine rx_ldc2 hG q_1297 dX10_wordOf_13 ?_
    refine rx_lmul hG dX10_wordOf_16 ?_
    refine rx_aload_n hG dX10_wordOf_17 0 rfl ?_
    refine rx_iload_n hG dX10_wordOf_18 2 rfl ?_
    obtain ⟨v3, hv3, hf⟩ := bindE hf
    refine rx_schr hG hv3 kw_M_132 ⟨Nat.le_of_ble_eq_true rfl, Nat.le_of_ble_eq_true rfl⟩ (Nat.le_of_ble_eq_true rfl) dX10_wordOf_19 ?_
    refine rx_i2l hG dX10_wordOf_22 ?_
    refine rx_ladd hG dX10_wordOf_23 ?_
    refine rx_ldc2 hG q_1298 dX10_wordOf_24 ?_
    refine rx_lsub hG dX10_wordOf_27 ?_
    refine rx_lconst hG 1 dX10_wordOf_28 lc_1 ?_
    refine rx_ladd hG dX10_wordOf_29 ?_
    obtain ⟨w4, hw4, hf⟩ := bindE hf
    refine rx_nmL hG hw4 ?_
    refine rx_lstore_n (lv2 := [(1, .long w4), (0, .ref (E.2.2.2.2.1 x0)), (3, .int x3)]) hG dX10_wordOf_30 (Nat.le_of_ble_eq_true rfl) rfl ?_
    refine rx_iinc (lv2 := [(3, .int (x3 + 1)), (1, .long w4), (0, .ref (E.2.2.2.2.1 x0))]) hG 1 dX10_wordOf_31 ic_1 2 rfl (Nat.le_of_ble_eq_true rfl) rfl ?_
    refine rx_goto hG 4 dX10_wordOf_34 rfl ?_
    refine rx_sub hG [2, 1, 0] (lv' := [(0, .ref (E.2.2.2.2.1 x0)), (1, .long w4), (3, .int (x3 + 1))]) rfl ?_
    exact hrc4 x0 w4 (x3 + 1) hf
theorem Llp_M_wordOf_4 (l : Launch) (E : En) (T : List Sk) {a0 b0 kc ks : Nat} {r : Int64} {M : Mm} {G : Nat → List (Nat × Value) → List Value → Mm → Prop} (hG : RX l T E RX10 cX10_wordOf 4 (some .long) { frames := 4, cells := a0, slots := b0, locals := 85 } kc ks (some (.long r)) M G)  : ∀ (n : Nat) (x0 : Nat) (x1 : Int64) (x3 : Int32), lp_M_wordOf_4  n x0 x1 x3 = some r → G 4 [(0, .ref (E.2.2.2.2.1 x0)), (1, .long x1), (3, .int x3)] [] M := by
  intro n
  induction n with
  | zero => intro x0 x1 x3 hf; cases hf
  | succ n ih => intro x0 x1 x3 hf; exact Lblp_M_wordOf_4 l E T hG  (lp_M_wordOf_4  n) ih x0 x1 x3 hf
set_option maxHeartbeats 4000000 in
set_option maxRecDepth 100000 in
theorem c_M_wordOf (l : Launch) (E : En) (T : List Sk) (p0 : Nat) {M : Mm} {r : Int64} (h : f_M_wordOf p0 = some r) : Ct l T E yX10_wordOf cX10_wordOf 4 (some .long) 4 85 [.ref (E.2.2.2.2.1 p0)] M (some (.long r)) M := by
  refine ct_of (by decide) (Nat.le_of_ble_eq_true rfl) ?_
  intro G hG
  show G 0 [(0, .ref (E.2.2.2.2.1 p0))] [] M
  have hf := h
  unfold f_M_wordOf at hf
  refine rx_lconst hG 0 dX10_wordOf_0 lc_0 ?_
  refine rx_lstore_n (lv2 := [(1, .long 0), (0, .ref (E.2.2.2.2.1 p0))]) hG dX10_wordOf_1 (Nat.le_of_ble_eq_true rfl) rfl ?_
  refine rx_iconst hG 0 dX10_wordOf_2 ic_0 ?_
  refine rx_istore_n (lv2 := [(3, .int 0), (1, .long 0), (0, .ref (E.2.2.2.2.1 p0))]) hG dX10_wordOf_3 (Nat.le_of_ble_eq_true rfl) rfl ?_
  refine rx_sub hG [2, 1, 0] (lv' := [(0, .ref (E.2.2.2.2.1 p0)), (1, .long 0), (3, .int 0)]) rfl ?_
  exact Llp_M_wordOf_4 l E T hG  FW p0 0 0 hf
set_option maxHeartbeats 4000000 in
set_option maxRecDepth 100000 in
theorem c_M_isWord_0 (l : Launch) (E : En) (T : List Sk) (p0 : Nat) {M : Mm} {r : Int32} (h : f_M_isWord_0 p0 M = some r) : Ct l (SKM ++ T) E yX10_isWord cX10_isWord 2 (some .boolean) 5 108 [.ref (adr E 0), .ref (E.2.2.2.2.1 p0)] M (some (.int r)) M := by
  refine ct_of (by decide) (Nat.le_of_ble_eq_true rfl) ?_
  intro G hG
  show G 0 [(0, .ref (adr E 0)), (1, .ref (E.2.2.2.2.1 p0))] [] M
  have hf := h
  unfold f_M_isWord_0 at hf
  refine rx_aload_n hG dX10_isWord_0 0 rfl ?_
  refine gfM_M_83_0 l E T hG dX10_isWord_1 ?_
  refine rx_if_ne hG 31 dX10_isWord_4 rfl (fun c1 => ?_) (fun c1 => ?_)
  · have hf := ifF hf c1
    refine rx_iconst hG 0 dX10_isWord_31 ic_0 ?_
    cases hf
    exact rx_zret hG zr0 dX10_isWord_32
  · have hf := ifT hf c1
    refine rx_aload_n hG dX10_isWord_7 0 rfl ?_
    refine gfM_M_102_0 l E T hG dX10_isWord_8 ?_
    refine rx_iconst hG 2 dX10_isWord_11 ic_2 ?_
    refine rx_icmp_ne hG 31 dX10_isWord_12 rfl (fun c2 => ?_) (fun c2 => ?_)
    · have hf := ifF hf c2
      refine rx_iconst hG 0 dX10_isWord_31 ic_0 ?_
      cases hf
      exact rx_zret hG zr0 dX10_isWord_32
    · have hf := ifT hf c2
      refine rx_aload_n hG dX10_isWord_15 0 rfl ?_
      refine gfM_M_109_0 l E T hG dX10_isWord_16 ?_
      refine rx_aload_n hG dX10_isWord_19 1 rfl ?_
      obtain ⟨w3, hw3, hf⟩ := bindE hf
      refine rx_cSl hG (c_M_wordOf l E (SKM ++ T) p0 hw3) kw_M_136 ⟨Nat.le_of_ble_eq_true rfl, Nat.le_of_ble_eq_true rfl⟩ rfl (Nat.le_of_ble_eq_true rfl) dX10_isWord_20 ?_
      refine rx_lcmp hG dX10_isWord_23 ?_
      refine rx_if_ne hG 31 dX10_isWord_24 rfl (fun c4 => ?_) (fun c4 => ?_)
      · have hf := ifF hf c4
        refine rx_iconst hG 0 dX10_isWord_31 ic_0 ?_
        cases hf
        exact rx_zret hG zr0 dX10_isWord_32
      · have hf := ifT hf c4
        refine rx_iconst hG 1 dX10_isWord_27 ic_1 ?_
        refine rx_goto hG 32 dX10_isWord_28 rfl ?_
        cases hf
        exact rx_zret hG zr1 dX10_isWord_32
set_option maxHeartbeats 4000000 in
set_option maxRecDepth 100000 in
theorem c_M_flaw_0 (l : Launch) (E : En) (T : List Sk) (p0 : Int32) {M M' : Mm} (h : f_M_flaw_0 p0 M = some M') : Ct l (SKM ++ T) E yX10_flaw cX10_flaw 2 none 0 0 [.ref (adr E 0), .int p0] M none M' := by
  refine ct_of (by decide) (Nat.le_of_ble_eq_true rfl) ?_
  intro G hG
  show G 0 [(0, .ref (adr E 0)), (1, .int p0)] [] M
  have hf := h
  unfold f_M_flaw_0 at hf
  refine rx_aload_n hG dX10_flaw_0 0 rfl ?_
  refine gfM_M_83_0 l E T hG dX10_flaw_1 ?_
  refine rx_if_le hG 8 dX10_flaw_4 rfl (fun c1 => ?_) (fun c1 => ?_)
  · have hf := ifT hf c1
    refine rx_aload_n hG dX10_flaw_8 0 rfl ?_
    refine rx_iload_n hG dX10_flaw_9 1 rfl ?_
    obtain ⟨M2, hM2, hf⟩ := bindE hf
    refine pfM_M_83_0 l E T hG hM2 dX10_flaw_10 ?_
    refine rx_aload_n hG dX10_flaw_13 0 rfl ?_
    refine rx_aload_n hG dX10_flaw_14 0 rfl ?_
    refine gfM_M_86_0 l E T hG dX10_flaw_15 ?_
    obtain ⟨M3, hM3, hf⟩ := bindE hf
    refine pfM_M_89_0 l E T hG hM3 dX10_flaw_18 ?_
    cases hf
    exact rx_vret hG dX10_flaw_21
  · have hf := ifF hf c1
    cases hf
    exact rx_vret hG dX10_flaw_7
set_option maxHeartbeats 4000000 in
set_option maxRecDepth 100000 in
theorem Lj_M_readRule_0_72 (l : Launch) (E : En) (T : List Sk) {a0 b0 kc ks : Nat} {M' : Mm} {G : Nat → List (Nat × Value) → List Value → Mm → Prop} (hG : RX l (SKM ++ T) E RX10 cX10_readRule 2 none { frames := 6, cells := a0, slots := b0, locals := 129 } kc ks none M' G)  : ∀ (x1 : Int32) (M : Mm), j_M_readRule_0_72  x1 M = some M' → G 72 [(0, .ref (adr E 0)), (1, .int x1)] [] M := by
  intro x1 M hf
  unfold j_M_readRule_0_72 at hf
  refine rx_aload_n hG dX10_readRule_72 0 rfl ?_
  obtain ⟨M1, hM1, hf⟩ := bindE hf
  refine rx_cVv hG (c_M_goOn_0 l E T  hM1) (skM0 T) rfl rfl kw_M_144 ⟨Nat.le_of_ble_eq_true rfl, Nat.le_of_ble_eq_true rfl⟩ rfl (Nat.le_of_ble_eq_true rfl) dX10_readRule_73 ?_
  refine rx_aload_n hG dX10_readRule_76 0 rfl ?_
  refine gfM_M_83_0 l E T hG dX10_readRule_77 ?_
  refine rx_if_ne hG 91 dX10_readRule_80 rfl (fun c2 => ?_) (fun c2 => ?_)
  · have hf := ifF hf c2
    cases hf
    exact rx_vret hG dX10_readRule_91
  · have hf := ifT hf c2
    refine rx_aload_n hG dX10_readRule_83 0 rfl ?_
    refine gfM_M_45_0 l E T hG dX10_readRule_84 ?_
    refine rx_bipush hG 36 dX10_readRule_87 bp_36 ?_
    refine rx_iload_n hG dX10_readRule_89 1 rfl ?_
    obtain ⟨M3, hM3, hf⟩ := bindE hf
    refine rx_iast hG (skM11 T) hM3 dX10_readRule_90 ?_
    cases hf
    exact rx_vret hG dX10_readRule_91
set_option maxHeartbeats 4000000 in
set_option maxRecDepth 100000 in
theorem Lj_M_readRule_0_61 (l : Launch) (E : En) (T : List Sk) {a0 b0 kc ks : Nat} {M' : Mm} {G : Nat → List (Nat × Value) → List Value → Mm → Prop} (hG : RX l (SKM ++ T) E RX10 cX10_readRule 2 none { frames := 6, cells := a0, slots := b0, locals := 129 } kc ks none M' G)  : ∀ (t0 : Int32) (M : Mm), j_M_readRule_0_61  t0 M = some M' → G 61 [(0, .ref (adr E 0))] [.int t0] M := by
  intro t0 M hf
  unfold j_M_readRule_0_61 at hf
  refine rx_istore_n (lv2 := [(1, .int t0), (0, .ref (adr E 0))]) hG dX10_readRule_61 (Nat.le_of_ble_eq_true rfl) rfl ?_
  refine rx_iload_n hG dX10_readRule_62 0 rfl ?_
  refine rx_iconst hG (-1) dX10_readRule_63 ic_m1 ?_
  refine rx_icmp_ne hG 72 dX10_readRule_64 rfl (fun c1 => ?_) (fun c1 => ?_)
  · have hf := ifF hf c1
    refine rx_sub hG [1, 0] (lv' := [(0, .ref (adr E 0)), (1, .int t0)]) rfl ?_
    exact Lj_M_readRule_0_72 l E T hG  t0 M hf
  · have hf := ifT hf c1
    refine rx_aload_n hG dX10_readRule_67 1 rfl ?_
    refine rx_iconst hG 1 dX10_readRule_68 ic_1 ?_
    obtain ⟨M2, hM2, hf⟩ := bindE hf
    refine rx_cVv hG (c_M_flaw_0 l E T 1 hM2) (skM0 T) rfl rfl kw_M_147 ⟨Nat.le_of_ble_eq_true rfl, Nat.le_of_ble_eq_true rfl⟩ rfl (Nat.le_of_ble_eq_true rfl) dX10_readRule_69 ?_
    refine rx_sub hG [1, 0] (lv' := [(0, .ref (adr E 0)), (1, .int t0)]) rfl ?_
    exact Lj_M_readRule_0_72 l E T hG  t0 M2 hf
set_option maxHeartbeats 4000000 in
set_option maxRecDepth 100000 in
theorem Lj_M_readRule_0_12 (l : Launch) (E : En) (T : List Sk) {a0 b0 kc ks : Nat} {M' : Mm} {G : Nat → List (Nat × Value) → List Value → Mm → Prop} (hG : RX l (SKM ++ T) E RX10 cX10_readRule 2 none { frames := 6, cells := a0, slots := b0, locals := 129 } kc ks none M' G)  : ∀  (M : Mm), j_M_readRule_0_12  M = some M' → G 12 [(0, .ref (adr E 0))] [] M := by
  intro M hf
  unfold j_M_readRule_0_12 at hf
  refine rx_aload_n hG dX10_readRule_12 0 rfl ?_
  refine rx_iconst hG 1 dX10_readRule_13 ic_1 ?_
  obtain ⟨M1, hM1, hf⟩ := bindE hf
  refine pfM_M_213_0 l E T hG hM1 (Or.inr rfl) dX10_readRule_14 ?_
  refine rx_aload_n hG dX10_readRule_17 0 rfl ?_
  obtain ⟨M2, hM2, hf⟩ := bindE hf
  refine rx_cVv hG (c_M_goOn_0 l E T  hM2) (skM0 T) rfl rfl kw_M_144 ⟨Nat.le_of_ble_eq_true rfl, Nat.le_of_ble_eq_true rfl⟩ rfl (Nat.le_of_ble_eq_true rfl) dX10_readRule_18 ?_
  refine rx_aload_n hG dX10_readRule_21 0 rfl ?_
  refine rx_ldcS hG 10 rfl dX10_readRule_22 ?_
  obtain ⟨v3, hv3, hf⟩ := bindE hf
  refine rx_cVi hG (c_M_isWord_0 l E T 10 hv3) (skM0 T) rfl rfl kw_M_140 ⟨Nat.le_of_ble_eq_true rfl, Nat.le_of_ble_eq_true rfl⟩ rfl (Nat.le_of_ble_eq_true rfl) dX10_readRule_24 ?_
  refine rx_if_eq hG 34 dX10_readRule_27 rfl (fun c4 => ?_) (fun c4 => ?_)
  · have hf := ifT hf c4
    refine rx_aload_n hG dX10_readRule_34 0 rfl ?_
    refine rx_ldcS hG 11 rfl dX10_readRule_35 ?_
    obtain ⟨v5, hv5, hf⟩ := bindE hf
    refine rx_cVi hG (c_M_isWord_0 l E T 11 hv5) (skM0 T) rfl rfl kw_M_140 ⟨Nat.le_of_ble_eq_true rfl, Nat.le_of_ble_eq_true rfl⟩ rfl (Nat.le_of_ble_eq_true rfl) dX10_readRule_37 ?_
    refine rx_if_eq hG 47 dX10_readRule_40 rfl (fun c6 => ?_) (fun c6 => ?_)
    · have hf := ifT hf c6
      refine rx_aload_n hG dX10_readRule_47 0 rfl ?_
      refine rx_ldcS hG 12 rfl dX10_readRule_48 ?_
      obtain ⟨v7, hv7, hf⟩ := bindE hf
      refine rx_cVi hG (c_M_isWord_0 l E T 12 hv7) (skM0 T) rfl rfl kw_M_140 ⟨Nat.le_of_ble_eq_true rfl, Nat.le_of_ble_eq_true rfl⟩ rfl (Nat.le_of_ble_eq_true rfl) dX10_readRule_50 ?_
      refine rx_if_eq hG 60 dX10_readRule_53 rfl (fun c8 => ?_) (fun c8 => ?_)
      · have hf := ifT hf c8
        refine rx_iconst hG (-1) dX10_readRule_60 ic_m1 ?_
        exact Lj_M_readRule_0_61 l E T hG  (-1) M2 hf
      · have hf := ifF hf c8
        refine rx_iconst hG 2 dX10_readRule_56 ic_2 ?_
        refine rx_goto hG 61 dX10_readRule_57 rfl ?_
        exact Lj_M_readRule_0_61 l E T hG  2 M2 hf
    · have hf := ifF hf c6
      refine rx_iconst hG 1 dX10_readRule_43 ic_1 ?_
      refine rx_goto hG 61 dX10_readRule_44 rfl ?_
      exact Lj_M_readRule_0_61 l E T hG  1 M2 hf
  · have hf := ifF hf c4
    refine rx_iconst hG 0 dX10_readRule_30 ic_0 ?_
    refine rx_goto hG 61 dX10_readRule_31 rfl ?_
    exact Lj_M_readRule_0_61 l E T hG  0 M2 hf
set_option maxHeartbeats 4000000 in
set_option maxRecDepth 100000 in
theorem c_M_readRule_0 (l : Launch) (E : En) (T : List Sk)  {M M' : Mm} (h : f_M_readRule_0 M = some M') : Ct l (SKM ++ T) E yX10_readRule cX10_readRule 2 none 6 129 [.ref (adr E 0)] M none M' := by
  refine ct_of (by decide) (Nat.le_of_ble_eq_true rfl) ?_
  intro G hG
  show G 0 [(0, .ref (adr E 0))] [] M
  have hf := h
  unfold f_M_readRule_0 at hf
  refine rx_aload_n hG dX10_readRule_0 0 rfl ?_
  refine gfM_M_213_0 l E T hG dX10_readRule_1 ?_
  refine rx_if_eq hG 12 dX10_readRule_4 rfl (fun c1 => ?_) (fun c1 => ?_)
  · have hf := ifT hf c1
    exact Lj_M_readRule_0_12 l E T hG  M hf
  · have hf := ifF hf c1
    refine rx_aload_n hG dX10_readRule_7 0 rfl ?_
    refine rx_iconst hG 3 dX10_readRule_8 ic_3 ?_
    obtain ⟨M2, hM2, hf⟩ := bindE hf
    refine rx_cVv hG (c_M_flaw_0 l E T 3 hM2) (skM0 T) rfl rfl kw_M_147 ⟨Nat.le_of_ble_eq_true rfl, Nat.le_of_ble_eq_true rfl⟩ rfl (Nat.le_of_ble_eq_true rfl) dX10_readRule_9 ?_
    exact Lj_M_readRule_0_12 l E T hG  M2 hf
set_option maxHeartbeats 4000000 in
set_option maxRecDepth 100000 in
theorem Lblp_M_benchOf_0_2 (l : Launch) (E : En) (T : List Sk) {a0 b0 kc ks : Nat} {r : Int32} {M : Mm} {G : Nat → List (Nat × Value) → List Value → Mm → Prop} (hG : RX l (SKM ++ T) E RX10 cX10_benchOf 2 (some .int) { frames := 0, cells := a0, slots := b0, locals := 0 } kc ks (some (.int r)) M G) (rc2 : Int32 → Mm → Option Int32) (hrc2 : ∀ (x1 : Int32), rc2 x1 M = some r → G 2 [(0, .ref (adr E 0)), (1, .int x1)] [] M) : ∀ (x1 : Int32), blp_M_benchOf_0_2 rc2 x1 M = some r → G 2 [(0, .ref (adr E 0)), (1, .int x1)] [] M := by
  intro x1 hf
  unfold blp_M_benchOf_0_2 at hf
  refine rx_iload_n hG dX10_benchOf_2 1 rfl ?_
  refine rx_aload_n hG dX10_benchOf_3 0 rfl ?_
  refine gfM_M_175_0 l E T hG dX10_benchOf_4 ?_
  refine rx_icmp_ge hG 35 dX10_benchOf_7 rfl (fun c1 => ?_) (fun c1 => ?_)
  · have hf := ifT hf c1
    refine rx_iconst hG (-1) dX10_benchOf_35 ic_m1 ?_
    cases hf
    exact rx_iret hG dX10_benchOf_36
  · have hf := ifF hf c1
    refine rx_aload_n hG dX10_benchOf_10 0 rfl ?_
    refine gfM_M_21_0 l E T hG dX10_benchOf_11 ?_
    refine rx_bipush hG 6 dX10_benchOf_14 bp_6 ?_
    refine rx_iload_n hG dX10_benchOf_16 1 rfl ?_
    refine rx_iadd hG dX10_benchOf_17 ?_
    obtain ⟨w2, hw2, hf⟩ := bindE hf
    refine rx_lald hG (skM3 T) hw2 dX10_benchOf_18 ?_
    refine rx_aload_n hG dX10_benchOf_19 0 rfl ?_
    refine gfM_M_109_0 l E T hG dX10_benchOf_20 ?_
    refine rx_lcmp hG dX10_benchOf_23 ?_
    refine rx_if_ne hG 29 dX10_benchOf_24 rfl (fun c3 => ?_) (fun c3 => ?_)
    · have hf := ifF hf c3
      refine rx_iinc (lv2 := [(1, .int (x1 + 1)), (0, .ref (adr E 0))]) hG 1 dX10_benchOf_29 ic_1 1 rfl (Nat.le_of_ble_eq_true rfl) rfl ?_
      refine rx_goto hG 2 dX10_benchOf_32 rfl ?_
      refine rx_sub hG [1, 0] (lv' := [(0, .ref (adr E 0)), (1, .int (x1 + 1))]) rfl ?_
      exact hrc2 (x1 + 1) hf
    · have hf := ifT hf c3
      refine rx_iload_n hG dX10_benchOf_27 1 rfl ?_
      cases hf
      exact rx_iret hG dX10_benchOf_28
theorem Llp_M_benchOf_0_2 (l : Launch) (E : En) (T : List Sk) {a0 b0 kc ks : Nat} {r : Int32} {M : Mm} {G : Nat → List (Nat × Value) → List Value → Mm → Prop} (hG : RX l (SKM ++ T) E RX10 cX10_benchOf 2 (some .int) { frames := 0, cells := a0, slots := b0, locals := 0 } kc ks (some (.int r)) M G)  : ∀ (n : Nat) (x1 : Int32), lp_M_benchOf_0_2  n x1 M = some r → G 2 [(0, .ref (adr E 0)), (1, .int x1)] [] M := by
  intro n
  induction n with
  | zero => intro x1 hf; cases hf
  | succ n ih => intro x1 hf; exact Lblp_M_benchOf_0_2 l E T hG  (lp_M_benchOf_0_2  n) ih x1 hf
set_option maxHeartbeats 4000000 in
set_option maxRecDepth 100000 in
theorem c_M_benchOf_0 (l : Launch) (E : En) (T : List Sk)  {M : Mm} {r : Int32} (h : f_M_benchOf_0 M = some r) : Ct l (SKM ++ T) E yX10_benchOf cX10_benchOf 2 (some .int) 0 0 [.ref (adr E 0)] M (some (.int r)) M := by
  refine ct_of (by decide) (Nat.le_of_ble_eq_true rfl) ?_
  intro G hG
  show G 0 [(0, .ref (adr E 0))] [] M
  have hf := h
  unfold f_M_benchOf_0 at hf
  refine rx_iconst hG 0 dX10_benchOf_0 ic_0 ?_
  refine rx_istore_n (lv2 := [(1, .int 0), (0, .ref (adr E 0))]) hG dX10_benchOf_1 (Nat.le_of_ble_eq_true rfl) rfl ?_
  refine rx_sub hG [1, 0] (lv' := [(0, .ref (adr E 0)), (1, .int 0)]) rfl ?_
  exact Llp_M_benchOf_0_2 l E T hG  FW 0 hf
set_option maxHeartbeats 4000000 in
set_option maxRecDepth 100000 in
theorem Lblp_M_kindOf_0_2 (l : Launch) (E : En) (T : List Sk) {a0 b0 kc ks : Nat} {r : Int32} {M : Mm} {G : Nat → List (Nat × Value) → List Value → Mm → Prop} (hG : RX l (SKM ++ T) E RX10 cX10_kindOf 2 (some .int) { frames := 0, cells := a0, slots := b0, locals := 0 } kc ks (some (.int r)) M G) (rc2 : Int32 → Mm → Option Int32) (hrc2 : ∀ (x1 : Int32), rc2 x1 M = some r → G 2 [(0, .ref (adr E 0)), (1, .int x1)] [] M) : ∀ (x1 : Int32), blp_M_kindOf_0_2 rc2 x1 M = some r → G 2 [(0, .ref (adr E 0)), (1, .int x1)] [] M := by
  intro x1 hf
  unfold blp_M_kindOf_0_2 at hf
  refine rx_iload_n hG dX10_kindOf_2 1 rfl ?_
  refine rx_aload_n hG dX10_kindOf_3 0 rfl ?_
  refine gfM_M_172_0 l E T hG dX10_kindOf_4 ?_
  refine rx_icmp_ge hG 34 dX10_kindOf_7 rfl (fun c1 => ?_) (fun c1 => ?_)
  · have hf := ifT hf c1
    refine rx_iconst hG (-1) dX10_kindOf_34 ic_m1 ?_
    cases hf
    exact rx_iret hG dX10_kindOf_35
  · have hf := ifF hf c1
    refine rx_aload_n hG dX10_kindOf_10 0 rfl ?_
    refine gfM_M_17_0 l E T hG dX10_kindOf_11 ?_
    refine rx_iconst hG 3 dX10_kindOf_14 ic_3 ?_
    refine rx_iload_n hG dX10_kindOf_15 1 rfl ?_
    refine rx_iadd hG dX10_kindOf_16 ?_
    obtain ⟨w2, hw2, hf⟩ := bindE hf
    refine rx_lald hG (skM2 T) hw2 dX10_kindOf_17 ?_
    refine rx_aload_n hG dX10_kindOf_18 0 rfl ?_
    refine gfM_M_109_0 l E T hG dX10_kindOf_19 ?_
    refine rx_lcmp hG dX10_kindOf_22 ?_
    refine rx_if_ne hG 28 dX10_kindOf_23 rfl (fun c3 => ?_) (fun c3 => ?_)
    · have hf := ifF hf c3
      refine rx_iinc (lv2 := [(1, .int (x1 + 1)), (0, .ref (adr E 0))]) hG 1 dX10_kindOf_28 ic_1 1 rfl (Nat.le_of_ble_eq_true rfl) rfl ?_
      refine rx_goto hG 2 dX10_kindOf_31 rfl ?_
      refine rx_sub hG [1, 0] (lv' := [(0, .ref (adr E 0)), (1, .int (x1 + 1))]) rfl ?_
      exact hrc2 (x1 + 1) hf
    · have hf := ifT hf c3
      refine rx_iload_n hG dX10_kindOf_26 1 rfl ?_
      cases hf
      exact rx_iret hG dX10_kindOf_27
theorem Llp_M_kindOf_0_2 (l : Launch) (E : En) (T : List Sk) {a0 b0 kc ks : Nat} {r : Int32} {M : Mm} {G : Nat → List (Nat × Value) → List Value → Mm → Prop} (hG : RX l (SKM ++ T) E RX10 cX10_kindOf 2 (some .int) { frames := 0, cells := a0, slots := b0, locals := 0 } kc ks (some (.int r)) M G)  : ∀ (n : Nat) (x1 : Int32), lp_M_kindOf_0_2  n x1 M = some r → G 2 [(0, .ref (adr E 0)), (1, .int x1)] [] M := by
  intro n
  induction n with
  | zero => intro x1 hf; cases hf
  | succ n ih => intro x1 hf; exact Lblp_M_kindOf_0_2 l E T hG  (lp_M_kindOf_0_2  n) ih x1 hf
set_option maxHeartbeats 4000000 in
set_option maxRecDepth 100000 in
theorem c_M_kindOf_0 (l : Launch) (E : En) (T : List Sk)  {M : Mm} {r : Int32} (h : f_M_kindOf_0 M = some r) : Ct l (SKM ++ T) E yX10_kindOf cX10_kindOf 2 (some .int) 0 0 [.ref (adr E 0)] M (some (.int r)) M := by
  refine ct_of (by decide) (Nat.le_of_ble_eq_true rfl) ?_
  intro G hG
  show G 0 [(0, .ref (adr E 0))] [] M
  have hf := h
  unfold f_M_kindOf_0 at hf
  refine rx_iconst hG 0 dX10_kindOf_0 ic_0 ?_
  refine rx_istore_n (lv2 := [(1, .int 0), (0, .ref (adr E 0))]) hG dX10_kindOf_1 (Nat.le_of_ble_eq_true rfl) rfl ?_
  refine rx_sub hG [1, 0] (lv' := [(0, .ref (adr E 0)), (1, .int 0)]) rfl ?_
  exact Llp_M_kindOf_0_2 l E T hG  FW 0 hf
set_option maxHeartbeats 4000000 in
set_option maxRecDepth 100000 in
theorem Lj_M_isOwn_0_59 (l : Launch) (E : En) (T : List Sk) {a0 b0 kc ks : Nat} {r : Int32} {M : Mm} {G : Nat → List (Nat × Value) → List Value → Mm → Prop} (hG : RX l (SKM ++ T) E RX10 cX10_isOwn 2 (some .boolean) { frames := 6, cells := a0, slots := b0, locals := 129 } kc ks (some (.int r)) M G)  : ∀ (t0 : Int32), j_M_isOwn_0_59  t0 M = some r → G 59 [(0, .ref (adr E 0))] [.int t0] M := by
  intro t0 hf
  unfold j_M_isOwn_0_59 at hf
  refine rx_istore_n (lv2 := [(1, .int t0), (0, .ref (adr E 0))]) hG dX10_isOwn_59 (Nat.le_of_ble_eq_true rfl) rfl ?_
  refine rx_iload_n hG dX10_isOwn_60 0 rfl ?_
  refine rx_if_ne hG 118 dX10_isOwn_61 rfl (fun c1 => ?_) (fun c1 => ?_)
  · have hf := ifF hf c1
    refine rx_iconst hG 1 dX10_isOwn_118 ic_1 ?_
    refine rx_goto hG 123 dX10_isOwn_119 rfl ?_
    cases hf
    exact rx_zret hG zr1 dX10_isOwn_123
  · have hf := ifT hf c1
    refine rx_aload_n hG dX10_isOwn_64 1 rfl ?_
    refine rx_ldcS hG 7 rfl dX10_isOwn_65 ?_
    obtain ⟨v2, hv2, hf⟩ := bindE hf
    refine rx_cVi hG (c_M_isWord_0 l E T 7 hv2) (skM0 T) rfl rfl kw_M_140 ⟨Nat.le_of_ble_eq_true rfl, Nat.le_of_ble_eq_true rfl⟩ rfl (Nat.le_of_ble_eq_true rfl) dX10_isOwn_67 ?_
    refine rx_if_ne hG 118 dX10_isOwn_70 rfl (fun c3 => ?_) (fun c3 => ?_)
    · have hf := ifF hf c3
      refine rx_iconst hG 1 dX10_isOwn_118 ic_1 ?_
      refine rx_goto hG 123 dX10_isOwn_119 rfl ?_
      cases hf
      exact rx_zret hG zr1 dX10_isOwn_123
    · have hf := ifT hf c3
      refine rx_aload_n hG dX10_isOwn_73 1 rfl ?_
      refine rx_ldcS hG 8 rfl dX10_isOwn_74 ?_
      obtain ⟨v4, hv4, hf⟩ := bindE hf
      refine rx_cVi hG (c_M_isWord_0 l E T 8 hv4) (skM0 T) rfl rfl kw_M_140 ⟨Nat.le_of_ble_eq_true rfl, Nat.le_of_ble_eq_true rfl⟩ rfl (Nat.le_of_ble_eq_true rfl) dX10_isOwn_76 ?_
      refine rx_if_ne hG 118 dX10_isOwn_79 rfl (fun c5 => ?_) (fun c5 => ?_)
      · have hf := ifF hf c5
        refine rx_iconst hG 1 dX10_isOwn_118 ic_1 ?_
        refine rx_goto hG 123 dX10_isOwn_119 rfl ?_
        cases hf
        exact rx_zret hG zr1 dX10_isOwn_123
      · have hf := ifT hf c5
        refine rx_aload_n hG dX10_isOwn_82 1 rfl ?_
        refine rx_ldcS hG 9 rfl dX10_isOwn_83 ?_
        obtain ⟨v6, hv6, hf⟩ := bindE hf
        refine rx_cVi hG (c_M_isWord_0 l E T 9 hv6) (skM0 T) rfl rfl kw_M_140 ⟨Nat.le_of_ble_eq_true rfl, Nat.le_of_ble_eq_true rfl⟩ rfl (Nat.le_of_ble_eq_true rfl) dX10_isOwn_85 ?_
        refine rx_if_ne hG 118 dX10_isOwn_88 rfl (fun c7 => ?_) (fun c7 => ?_)
        · have hf := ifF hf c7
          refine rx_iconst hG 1 dX10_isOwn_118 ic_1 ?_
          refine rx_goto hG 123 dX10_isOwn_119 rfl ?_
          cases hf
          exact rx_zret hG zr1 dX10_isOwn_123
        · have hf := ifT hf c7
          refine rx_aload_n hG dX10_isOwn_91 1 rfl ?_
          refine rx_ldcS hG 10 rfl dX10_isOwn_92 ?_
          obtain ⟨v8, hv8, hf⟩ := bindE hf
          refine rx_cVi hG (c_M_isWord_0 l E T 10 hv8) (skM0 T) rfl rfl kw_M_140 ⟨Nat.le_of_ble_eq_true rfl, Nat.le_of_ble_eq_true rfl⟩ rfl (Nat.le_of_ble_eq_true rfl) dX10_isOwn_94 ?_
          refine rx_if_ne hG 118 dX10_isOwn_97 rfl (fun c9 => ?_) (fun c9 => ?_)
          · have hf := ifF hf c9
            refine rx_iconst hG 1 dX10_isOwn_118 ic_1 ?_
            refine rx_goto hG 123 dX10_isOwn_119 rfl ?_
            cases hf
            exact rx_zret hG zr1 dX10_isOwn_123
          · have hf := ifT hf c9
            refine rx_aload_n hG dX10_isOwn_100 1 rfl ?_
            refine rx_ldcS hG 11 rfl dX10_isOwn_101 ?_
            obtain ⟨v10, hv10, hf⟩ := bindE hf
            refine rx_cVi hG (c_M_isWord_0 l E T 11 hv10) (skM0 T) rfl rfl kw_M_140 ⟨Nat.le_of_ble_eq_true rfl, Nat.le_of_ble_eq_true rfl⟩ rfl (Nat.le_of_ble_eq_true rfl) dX10_isOwn_103 ?_
            refine rx_if_ne hG 118 dX10_isOwn_106 rfl (fun c11 => ?_) (fun c11 => ?_)
            · have hf := ifF hf c11
              refine rx_iconst hG 1 dX10_isOwn_118 ic_1 ?_
              refine rx_goto hG 123 dX10_isOwn_119 rfl ?_
              cases hf
              exact rx_zret hG zr1 dX10_isOwn_123
            · have hf := ifT hf c11
              refine rx_aload_n hG dX10_isOwn_109 1 rfl ?_
              refine rx_ldcS hG 12 rfl dX10_isOwn_110 ?_
              obtain ⟨v12, hv12, hf⟩ := bindE hf
              refine rx_cVi hG (c_M_isWord_0 l E T 12 hv12) (skM0 T) rfl rfl kw_M_140 ⟨Nat.le_of_ble_eq_true rfl, Nat.le_of_ble_eq_true rfl⟩ rfl (Nat.le_of_ble_eq_true rfl) dX10_isOwn_112 ?_
              refine rx_if_eq hG 122 dX10_isOwn_115 rfl (fun c13 => ?_) (fun c13 => ?_)
              · have hf := ifT hf c13
                refine rx_iconst hG 0 dX10_isOwn_122 ic_0 ?_
                cases hf
                exact rx_zret hG zr0 dX10_isOwn_123
              · have hf := ifF hf c13
                refine rx_iconst hG 1 dX10_isOwn_118 ic_1 ?_
                refine rx_goto hG 123 dX10_isOwn_119 rfl ?_
                cases hf
                exact rx_zret hG zr1 dX10_isOwn_123
set_option maxHeartbeats 4000000 in
set_option maxRecDepth 100000 in
theorem Lj_M_isOwn_0_54 (l : Launch) (E : En) (T : List Sk) {a0 b0 kc ks : Nat} {r : Int32} {M : Mm} {G : Nat → List (Nat × Value) → List Value → Mm → Prop} (hG : RX l (SKM ++ T) E RX10 cX10_isOwn 2 (some .boolean) { frames := 6, cells := a0, slots := b0, locals := 129 } kc ks (some (.int r)) M G)  : j_M_isOwn_0_54  M = some r → G 54 [(0, .ref (adr E 0))] [] M := by
  intro  hf
  unfold j_M_isOwn_0_54 at hf
  refine rx_iconst hG 1 dX10_isOwn_54 ic_1 ?_
  refine rx_goto hG 59 dX10_isOwn_55 rfl ?_
  exact Lj_M_isOwn_0_59 l E T hG  1 hf
set_option maxHeartbeats 4000000 in
set_option maxRecDepth 100000 in
theorem c_M_isOwn_0 (l : Launch) (E : En) (T : List Sk)  {M : Mm} {r : Int32} (h : f_M_isOwn_0 M = some r) : Ct l (SKM ++ T) E yX10_isOwn cX10_isOwn 2 (some .boolean) 6 129 [.ref (adr E 0)] M (some (.int r)) M := by
  refine ct_of (by decide) (Nat.le_of_ble_eq_true rfl) ?_
  intro G hG
  show G 0 [(0, .ref (adr E 0))] [] M
  have hf := h
  unfold f_M_isOwn_0 at hf
  refine rx_aload_n hG dX10_isOwn_0 0 rfl ?_
  refine rx_ldcS hG 1 rfl dX10_isOwn_1 ?_
  obtain ⟨v1, hv1, hf⟩ := bindE hf
  refine rx_cVi hG (c_M_isWord_0 l E T 1 hv1) (skM0 T) rfl rfl kw_M_140 ⟨Nat.le_of_ble_eq_true rfl, Nat.le_of_ble_eq_true rfl⟩ rfl (Nat.le_of_ble_eq_true rfl) dX10_isOwn_3 ?_
  refine rx_if_ne hG 54 dX10_isOwn_6 rfl (fun c2 => ?_) (fun c2 => ?_)
  · have hf := ifF hf c2
    exact Lj_M_isOwn_0_54 l E T hG   hf
  · have hf := ifT hf c2
    refine rx_aload_n hG dX10_isOwn_9 0 rfl ?_
    refine rx_ldcS hG 2 rfl dX10_isOwn_10 ?_
    obtain ⟨v3, hv3, hf⟩ := bindE hf
    refine rx_cVi hG (c_M_isWord_0 l E T 2 hv3) (skM0 T) rfl rfl kw_M_140 ⟨Nat.le_of_ble_eq_true rfl, Nat.le_of_ble_eq_true rfl⟩ rfl (Nat.le_of_ble_eq_true rfl) dX10_isOwn_12 ?_
    refine rx_if_ne hG 54 dX10_isOwn_15 rfl (fun c4 => ?_) (fun c4 => ?_)
    · have hf := ifF hf c4
      exact Lj_M_isOwn_0_54 l E T hG   hf
    · have hf := ifT hf c4
      refine rx_aload_n hG dX10_isOwn_18 0 rfl ?_
      refine rx_ldcS hG 3 rfl dX10_isOwn_19 ?_
      obtain ⟨v5, hv5, hf⟩ := bindE hf
      refine rx_cVi hG (c_M_isWord_0 l E T 3 hv5) (skM0 T) rfl rfl kw_M_140 ⟨Nat.le_of_ble_eq_true rfl, Nat.le_of_ble_eq_true rfl⟩ rfl (Nat.le_of_ble_eq_true rfl) dX10_isOwn_21 ?_
      refine rx_if_ne hG 54 dX10_isOwn_24 rfl (fun c6 => ?_) (fun c6 => ?_)
      · have hf := ifF hf c6
        exact Lj_M_isOwn_0_54 l E T hG   hf
      · have hf := ifT hf c6
        refine rx_aload_n hG dX10_isOwn_27 0 rfl ?_
        refine rx_ldcS hG 4 rfl dX10_isOwn_28 ?_
        obtain ⟨v7, hv7, hf⟩ := bindE hf
        refine rx_cVi hG (c_M_isWord_0 l E T 4 hv7) (skM0 T) rfl rfl kw_M_140 ⟨Nat.le_of_ble_eq_true rfl, Nat.le_of_ble_eq_true rfl⟩ rfl (Nat.le_of_ble_eq_true rfl) dX10_isOwn_30 ?_
        refine rx_if_ne hG 54 dX10_isOwn_33 rfl (fun c8 => ?_) (fun c8 => ?_)
        · have hf := ifF hf c8
          exact Lj_M_isOwn_0_54 l E T hG   hf
        · have hf := ifT hf c8
          refine rx_aload_n hG dX10_isOwn_36 0 rfl ?_
          refine rx_ldcS hG 5 rfl dX10_isOwn_37 ?_
          obtain ⟨v9, hv9, hf⟩ := bindE hf
          refine rx_cVi hG (c_M_isWord_0 l E T 5 hv9) (skM0 T) rfl rfl kw_M_140 ⟨Nat.le_of_ble_eq_true rfl, Nat.le_of_ble_eq_true rfl⟩ rfl (Nat.le_of_ble_eq_true rfl) dX10_isOwn_39 ?_
          refine rx_if_ne hG 54 dX10_isOwn_42 rfl (fun c10 => ?_) (fun c10 => ?_)
          · have hf := ifF hf c10
            exact Lj_M_isOwn_0_54 l E T hG   hf
          · have hf := ifT hf c10
            refine rx_aload_n hG dX10_isOwn_45 0 rfl ?_
            refine rx_ldcS hG 6 rfl dX10_isOwn_46 ?_
            obtain ⟨v11, hv11, hf⟩ := bindE hf
            refine rx_cVi hG (c_M_isWord_0 l E T 6 hv11) (skM0 T) rfl rfl kw_M_140 ⟨Nat.le_of_ble_eq_true rfl, Nat.le_of_ble_eq_true rfl⟩ rfl (Nat.le_of_ble_eq_true rfl) dX10_isOwn_48 ?_
            refine rx_if_eq hG 58 dX10_isOwn_51 rfl (fun c12 => ?_) (fun c12 => ?_)
            · have hf := ifT hf c12
              refine rx_iconst hG 0 dX10_isOwn_58 ic_0 ?_
              exact Lj_M_isOwn_0_59 l E T hG  0 hf
            · have hf := ifF hf c12
              exact Lj_M_isOwn_0_54 l E T hG   hf
set_option maxHeartbeats 4000000 in
set_option maxRecDepth 100000 in
theorem Lj_M_readTold_0_42 (l : Launch) (E : En) (T : List Sk) {a0 b0 kc ks : Nat} {r : Int32} {M' : Mm} {G : Nat → List (Nat × Value) → List Value → Mm → Prop} (hG : RX l (SKM ++ T) E RX10 cX10_readTold 3 (some .int) { frames := 7, cells := a0, slots := b0, locals := 150 } kc ks (some (.int r)) M' G)  : ∀ (t0 : Int32) (M : Mm), j_M_readTold_0_42  t0 M = some (r, M') → G 42 [(0, .ref (adr E 0))] [.int t0] M := by
  intro t0 M hf
  unfold j_M_readTold_0_42 at hf
  refine rx_istore_n (lv2 := [(2, .int t0), (0, .ref (adr E 0))]) hG dX10_readTold_42 (Nat.le_of_ble_eq_true rfl) rfl ?_
  refine rx_iload_n hG dX10_readTold_43 0 rfl ?_
  refine rx_iconst hG (-1) dX10_readTold_44 ic_m1 ?_
  refine rx_icmp_ne hG 53 dX10_readTold_45 rfl (fun c1 => ?_) (fun c1 => ?_)
  · have hf := ifF hf c1
    refine rx_aload_n hG dX10_readTold_53 1 rfl ?_
    obtain ⟨M2, hM2, hf⟩ := bindE hf
    refine rx_cVv hG (c_M_goOn_0 l E T  hM2) (skM0 T) rfl rfl kw_M_144 ⟨Nat.le_of_ble_eq_true rfl, Nat.le_of_ble_eq_true rfl⟩ rfl (Nat.le_of_ble_eq_true rfl) dX10_readTold_54 ?_
    refine rx_iload_n hG dX10_readTold_57 0 rfl ?_
    cases hf
    exact rx_iret hG dX10_readTold_58
  · have hf := ifT hf c1
    refine rx_aload_n hG dX10_readTold_48 1 rfl ?_
    refine rx_iconst hG 3 dX10_readTold_49 ic_3 ?_
    obtain ⟨M3, hM3, hf⟩ := bindE hf
    refine rx_cVv hG (c_M_flaw_0 l E T 3 hM3) (skM0 T) rfl rfl kw_M_147 ⟨Nat.le_of_ble_eq_true rfl, Nat.le_of_ble_eq_true rfl⟩ rfl (Nat.le_of_ble_eq_true rfl) dX10_readTold_50 ?_
    refine rx_aload_n hG dX10_readTold_53 1 rfl ?_
    obtain ⟨M4, hM4, hf⟩ := bindE hf
    refine rx_cVv hG (c_M_goOn_0 l E T  hM4) (skM0 T) rfl rfl kw_M_144 ⟨Nat.le_of_ble_eq_true rfl, Nat.le_of_ble_eq_true rfl⟩ rfl (Nat.le_of_ble_eq_true rfl) dX10_readTold_54 ?_
    refine rx_iload_n hG dX10_readTold_57 0 rfl ?_
    cases hf
    exact rx_iret hG dX10_readTold_58
set_option maxHeartbeats 4000000 in
set_option maxRecDepth 100000 in
theorem Lj_M_readTold_0_27 (l : Launch) (E : En) (T : List Sk) {a0 b0 kc ks : Nat} {r : Int32} {M' : Mm} {G : Nat → List (Nat × Value) → List Value → Mm → Prop} (hG : RX l (SKM ++ T) E RX10 cX10_readTold 3 (some .int) { frames := 7, cells := a0, slots := b0, locals := 150 } kc ks (some (.int r)) M' G)  : ∀ (x1 : Int32) (M : Mm), j_M_readTold_0_27  x1 M = some (r, M') → G 27 [(0, .ref (adr E 0)), (1, .int x1)] [] M := by
  intro x1 M hf
  unfold j_M_readTold_0_27 at hf
  refine rx_iload_n hG dX10_readTold_27 1 rfl ?_
  refine rx_if_eq hG 38 dX10_readTold_28 rfl (fun c1 => ?_) (fun c1 => ?_)
  · have hf := ifT hf c1
    refine rx_aload_n hG dX10_readTold_38 0 rfl ?_
    obtain ⟨v2, hv2, hf⟩ := bindE hf
    refine rx_cVi hG (c_M_benchOf_0 l E T  hv2) (skM0 T) rfl rfl kw_M_185 ⟨Nat.le_of_ble_eq_true rfl, Nat.le_of_ble_eq_true rfl⟩ rfl (Nat.le_of_ble_eq_true rfl) dX10_readTold_39 ?_
    refine rx_sub hG [0] (lv' := [(0, .ref (adr E 0))]) rfl ?_
    exact Lj_M_readTold_0_42 l E T hG  v2 M hf
  · have hf := ifF hf c1
    refine rx_aload_n hG dX10_readTold_31 0 rfl ?_
    obtain ⟨v3, hv3, hf⟩ := bindE hf
    refine rx_cVi hG (c_M_kindOf_0 l E T  hv3) (skM0 T) rfl rfl kw_M_182 ⟨Nat.le_of_ble_eq_true rfl, Nat.le_of_ble_eq_true rfl⟩ rfl (Nat.le_of_ble_eq_true rfl) dX10_readTold_32 ?_
    refine rx_goto hG 42 dX10_readTold_35 rfl ?_
    refine rx_sub hG [0] (lv' := [(0, .ref (adr E 0))]) rfl ?_
    exact Lj_M_readTold_0_42 l E T hG  v3 M hf
set_option maxHeartbeats 4000000 in
set_option maxRecDepth 100000 in
theorem Lj_M_readTold_0_22 (l : Launch) (E : En) (T : List Sk) {a0 b0 kc ks : Nat} {r : Int32} {M' : Mm} {G : Nat → List (Nat × Value) → List Value → Mm → Prop} (hG : RX l (SKM ++ T) E RX10 cX10_readTold 3 (some .int) { frames := 7, cells := a0, slots := b0, locals := 150 } kc ks (some (.int r)) M' G)  : ∀ (x1 : Int32) (M : Mm), j_M_readTold_0_22  x1 M = some (r, M') → G 22 [(0, .ref (adr E 0)), (1, .int x1)] [] M := by
  intro x1 M hf
  unfold j_M_readTold_0_22 at hf
  refine rx_aload_n hG dX10_readTold_22 0 rfl ?_
  refine rx_iconst hG 1 dX10_readTold_23 ic_1 ?_
  obtain ⟨M1, hM1, hf⟩ := bindE hf
  refine rx_cVv hG (c_M_flaw_0 l E T 1 hM1) (skM0 T) rfl rfl kw_M_147 ⟨Nat.le_of_ble_eq_true rfl, Nat.le_of_ble_eq_true rfl⟩ rfl (Nat.le_of_ble_eq_true rfl) dX10_readTold_24 ?_
  exact Lj_M_readTold_0_27 l E T hG  x1 M1 hf
set_option maxHeartbeats 4000000 in
set_option maxRecDepth 100000 in
theorem c_M_readTold_0 (l : Launch) (E : En) (T : List Sk) (p0 : Int32) {M M' : Mm} {r : Int32} (h : f_M_readTold_0 p0 M = some (r, M')) : Ct l (SKM ++ T) E yX10_readTold cX10_readTold 3 (some .int) 7 150 [.ref (adr E 0), .int p0] M (some (.int r)) M' := by
  refine ct_of (by decide) (Nat.le_of_ble_eq_true rfl) ?_
  intro G hG
  show G 0 [(0, .ref (adr E 0)), (1, .int p0)] [] M
  have hf := h
  unfold f_M_readTold_0 at hf
  refine rx_aload_n hG dX10_readTold_0 0 rfl ?_
  refine gfM_M_83_0 l E T hG dX10_readTold_1 ?_
  refine rx_if_ne hG 27 dX10_readTold_4 rfl (fun c1 => ?_) (fun c1 => ?_)
  · have hf := ifF hf c1
    exact Lj_M_readTold_0_27 l E T hG  p0 M hf
  · have hf := ifT hf c1
    refine rx_aload_n hG dX10_readTold_7 0 rfl ?_
    refine gfM_M_102_0 l E T hG dX10_readTold_8 ?_
    refine rx_iconst hG 2 dX10_readTold_11 ic_2 ?_
    refine rx_icmp_ne hG 22 dX10_readTold_12 rfl (fun c2 => ?_) (fun c2 => ?_)
    · have hf := ifF hf c2
      exact Lj_M_readTold_0_22 l E T hG  p0 M hf
    · have hf := ifT hf c2
      refine rx_aload_n hG dX10_readTold_15 0 rfl ?_
      obtain ⟨v3, hv3, hf⟩ := bindE hf
      refine rx_cVi hG (c_M_isOwn_0 l E T  hv3) (skM0 T) rfl rfl kw_M_178 ⟨Nat.le_of_ble_eq_true rfl, Nat.le_of_ble_eq_true rfl⟩ rfl (Nat.le_of_ble_eq_true rfl) dX10_readTold_16 ?_
      refine rx_if_eq hG 27 dX10_readTold_19 rfl (fun c4 => ?_) (fun c4 => ?_)
      · have hf := ifT hf c4
        exact Lj_M_readTold_0_27 l E T hG  p0 M hf
      · have hf := ifF hf c4
        exact Lj_M_readTold_0_22 l E T hG  p0 M hf
set_option maxHeartbeats 4000000 in
set_option maxRecDepth 100000 in
theorem c_M_needs_0 (l : Launch) (E : En) (T : List Sk) (p0 : Nat) {M M' : Mm} (h : f_M_needs_0 p0 M = some M') : Ct l (SKM ++ T) E yX10_needs cX10_needs 2 none 6 129 [.ref (adr E 0), .ref (E.2.2.2.2.1 p0)] M none M' := by
  refine ct_of (by decide) (Nat.le_of_ble_eq_true rfl) ?_
  intro G hG
  show G 0 [(0, .ref (adr E 0)), (1, .ref (E.2.2.2.2.1 p0))] [] M
  have hf := h
  unfold f_M_needs_0 at hf
  refine rx_aload_n hG dX10_needs_0 0 rfl ?_
  refine rx_aload_n hG dX10_needs_1 1 rfl ?_
  obtain ⟨v1, hv1, hf⟩ := bindE hf
  refine rx_cVi hG (c_M_isWord_0 l E T p0 hv1) (skM0 T) rfl rfl kw_M_140 ⟨Nat.le_of_ble_eq_true rfl, Nat.le_of_ble_eq_true rfl⟩ rfl (Nat.le_of_ble_eq_true rfl) dX10_needs_2 ?_
  refine rx_if_ne hG 13 dX10_needs_5 rfl (fun c2 => ?_) (fun c2 => ?_)
  · have hf := ifF hf c2
    refine rx_aload_n hG dX10_needs_13 0 rfl ?_
    obtain ⟨M3, hM3, hf⟩ := bindE hf
    refine rx_cVv hG (c_M_goOn_0 l E T  hM3) (skM0 T) rfl rfl kw_M_144 ⟨Nat.le_of_ble_eq_true rfl, Nat.le_of_ble_eq_true rfl⟩ rfl (Nat.le_of_ble_eq_true rfl) dX10_needs_14 ?_
    cases hf
    exact rx_vret hG dX10_needs_17
  · have hf := ifT hf c2
    refine rx_aload_n hG dX10_needs_8 0 rfl ?_
    refine rx_iconst hG 1 dX10_needs_9 ic_1 ?_
    obtain ⟨M4, hM4, hf⟩ := bindE hf
    refine rx_cVv hG (c_M_flaw_0 l E T 1 hM4) (skM0 T) rfl rfl kw_M_147 ⟨Nat.le_of_ble_eq_true rfl, Nat.le_of_ble_eq_true rfl⟩ rfl (Nat.le_of_ble_eq_true rfl) dX10_needs_10 ?_
    refine rx_aload_n hG dX10_needs_13 0 rfl ?_
    obtain ⟨M5, hM5, hf⟩ := bindE hf
    refine rx_cVv hG (c_M_goOn_0 l E T  hM5) (skM0 T) rfl rfl kw_M_144 ⟨Nat.le_of_ble_eq_true rfl, Nat.le_of_ble_eq_true rfl⟩ rfl (Nat.le_of_ble_eq_true rfl) dX10_needs_14 ?_
    cases hf
    exact rx_vret hG dX10_needs_17
set_option maxHeartbeats 4000000 in
set_option maxRecDepth 100000 in
theorem c_M_readWhole_0 (l : Launch) (E : En) (T : List Sk) (p0 : Int32) (p1 : Int32) {M M' : Mm} {r : Int32} (h : f_M_readWhole_0 p0 p1 M = some (r, M')) : Ct l (SKM ++ T) E yX10_readWhole cX10_readWhole 4 (some .int) 3 63 [.ref (adr E 0), .int p0, .int p1] M (some (.int r)) M' := by
  refine ct_of (by decide) (Nat.le_of_ble_eq_true rfl) ?_
  intro G hG
  show G 0 [(0, .ref (adr E 0)), (1, .int p0), (2, .int p1)] [] M
  have hf := h
  unfold f_M_readWhole_0 at hf
  refine rx_aload_n hG dX10_readWhole_0 0 rfl ?_
  refine gfM_M_102_0 l E T hG dX10_readWhole_1 ?_
  refine rx_iconst hG 3 dX10_readWhole_4 ic_3 ?_
  refine rx_icmp_eq hG 16 dX10_readWhole_5 rfl (fun c1 => ?_) (fun c1 => ?_)
  · have hf := ifT hf c1
    refine rx_aload_n hG dX10_readWhole_16 0 rfl ?_
    refine gfM_M_120_0 l E T hG dX10_readWhole_17 ?_
    refine rx_iload_n hG dX10_readWhole_20 1 rfl ?_
    refine rx_iload_n hG dX10_readWhole_21 2 rfl ?_
    obtain ⟨v2, hv2, hf⟩ := bindE hf
    refine rx_cSi hG (c_M_in l E (SKM ++ T) (M.1 0 12) p0 p1 hv2) kw_M_95 ⟨Nat.le_of_ble_eq_true rfl, Nat.le_of_ble_eq_true rfl⟩ rfl (Nat.le_of_ble_eq_true rfl) dX10_readWhole_22 ?_
    refine rx_if_ne hG 33 dX10_readWhole_25 rfl (fun c3 => ?_) (fun c3 => ?_)
    · have hf := ifF hf c3
      refine rx_aload_n hG dX10_readWhole_33 0 rfl ?_
      refine gfM_M_120_0 l E T hG dX10_readWhole_34 ?_
      refine rx_istore_n (lv2 := [(3, .int (M.1 0 12)), (0, .ref (adr E 0)), (1, .int p0), (2, .int p1)]) hG dX10_readWhole_37 (Nat.le_of_ble_eq_true rfl) rfl ?_
      refine rx_aload_n hG dX10_readWhole_38 1 rfl ?_
      obtain ⟨M4, hM4, hf⟩ := bindE hf
      refine rx_cVv hG (c_M_goOn_0 l E T  hM4) (skM0 T) rfl rfl kw_M_144 ⟨Nat.le_of_ble_eq_true rfl, Nat.le_of_ble_eq_true rfl⟩ rfl (Nat.le_of_ble_eq_true rfl) dX10_readWhole_39 ?_
      refine rx_iload_n hG dX10_readWhole_42 0 rfl ?_
      cases hf
      exact rx_iret hG dX10_readWhole_43
    · have hf := ifT hf c3
      refine rx_aload_n hG dX10_readWhole_28 0 rfl ?_
      refine rx_iconst hG 2 dX10_readWhole_29 ic_2 ?_
      obtain ⟨M5, hM5, hf⟩ := bindE hf
      refine rx_cVv hG (c_M_flaw_0 l E T 2 hM5) (skM0 T) rfl rfl kw_M_147 ⟨Nat.le_of_ble_eq_true rfl, Nat.le_of_ble_eq_true rfl⟩ rfl (Nat.le_of_ble_eq_true rfl) dX10_readWhole_30 ?_
      refine rx_aload_n hG dX10_readWhole_33 0 rfl ?_
      refine gfM_M_120_0 l E T hG dX10_readWhole_34 ?_
      refine rx_istore_n (lv2 := [(3, .int (M5.1 0 12)), (0, .ref (adr E 0)), (1, .int p0), (2, .int p1)]) hG dX10_readWhole_37 (Nat.le_of_ble_eq_true rfl) rfl ?_
      refine rx_aload_n hG dX10_readWhole_38 1 rfl ?_
      obtain ⟨M6, hM6, hf⟩ := bindE hf
      refine rx_cVv hG (c_M_goOn_0 l E T  hM6) (skM0 T) rfl rfl kw_M_144 ⟨Nat.le_of_ble_eq_true rfl, Nat.le_of_ble_eq_true rfl⟩ rfl (Nat.le_of_ble_eq_true rfl) dX10_readWhole_39 ?_
      refine rx_iload_n hG dX10_readWhole_42 0 rfl ?_
      cases hf
      exact rx_iret hG dX10_readWhole_43
  · have hf := ifF hf c1
    refine rx_aload_n hG dX10_readWhole_8 0 rfl ?_
    refine rx_iconst hG 1 dX10_readWhole_9 ic_1 ?_
    obtain ⟨M7, hM7, hf⟩ := bindE hf
    refine rx_cVv hG (c_M_flaw_0 l E T 1 hM7) (skM0 T) rfl rfl kw_M_147 ⟨Nat.le_of_ble_eq_true rfl, Nat.le_of_ble_eq_true rfl⟩ rfl (Nat.le_of_ble_eq_true rfl) dX10_readWhole_10 ?_
    refine rx_goto hG 33 dX10_readWhole_13 rfl ?_
    refine rx_aload_n hG dX10_readWhole_33 0 rfl ?_
    refine gfM_M_120_0 l E T hG dX10_readWhole_34 ?_
    refine rx_istore_n (lv2 := [(3, .int (M7.1 0 12)), (0, .ref (adr E 0)), (1, .int p0), (2, .int p1)]) hG dX10_readWhole_37 (Nat.le_of_ble_eq_true rfl) rfl ?_
    refine rx_aload_n hG dX10_readWhole_38 1 rfl ?_
    obtain ⟨M8, hM8, hf⟩ := bindE hf
    refine rx_cVv hG (c_M_goOn_0 l E T  hM8) (skM0 T) rfl rfl kw_M_144 ⟨Nat.le_of_ble_eq_true rfl, Nat.le_of_ble_eq_true rfl⟩ rfl (Nat.le_of_ble_eq_true rfl) dX10_readWhole_39 ?_
    refine rx_iload_n hG dX10_readWhole_42 0 rfl ?_
    cases hf
    exact rx_iret hG dX10_readWhole_43
set_option maxHeartbeats 4000000 in
set_option maxRecDepth 100000 in
theorem Lj_M_readOrder_0_13 (l : Launch) (E : En) (T : List Sk) {a0 b0 kc ks : Nat} {M' : Mm} {G : Nat → List (Nat × Value) → List Value → Mm → Prop} (hG : RX l (SKM ++ T) E RX10 cX10_readOrder 4 none { frames := 8, cells := a0, slots := b0, locals := 172 } kc ks none M' G)  : ∀  (M : Mm), j_M_readOrder_0_13  M = some M' → G 13 [(0, .ref (adr E 0))] [] M := by
  intro M hf
  unfold j_M_readOrder_0_13 at hf
  refine rx_aload_n hG dX10_readOrder_13 0 rfl ?_
  obtain ⟨M1, hM1, hf⟩ := bindE hf
  refine rx_cVv hG (c_M_goOn_0 l E T  hM1) (skM0 T) rfl rfl kw_M_144 ⟨Nat.le_of_ble_eq_true rfl, Nat.le_of_ble_eq_true rfl⟩ rfl (Nat.le_of_ble_eq_true rfl) dX10_readOrder_14 ?_
  refine rx_aload_n hG dX10_readOrder_17 0 rfl ?_
  refine rx_iconst hG 1 dX10_readOrder_18 ic_1 ?_
  obtain ⟨q2, hq2, hf⟩ := bindE hf
  refine rx_cVi hG (c_M_readTold_0 l E T 1 hq2) (skM0 T) rfl rfl kw_M_206 ⟨Nat.le_of_ble_eq_true rfl, Nat.le_of_ble_eq_true rfl⟩ rfl (Nat.le_of_ble_eq_true rfl) dX10_readOrder_19 ?_
  refine rx_istore_n (lv2 := [(1, .int q2.1), (0, .ref (adr E 0))]) hG dX10_readOrder_22 (Nat.le_of_ble_eq_true rfl) rfl ?_
  refine rx_aload_n hG dX10_readOrder_23 1 rfl ?_
  refine rx_ldcS hG 5 rfl dX10_readOrder_24 ?_
  obtain ⟨M3, hM3, hf⟩ := bindE hf
  refine rx_cVv hG (c_M_needs_0 l E T 5 hM3) (skM0 T) rfl rfl kw_M_202 ⟨Nat.le_of_ble_eq_true rfl, Nat.le_of_ble_eq_true rfl⟩ rfl (Nat.le_of_ble_eq_true rfl) dX10_readOrder_26 ?_
  refine rx_aload_n hG dX10_readOrder_29 1 rfl ?_
  refine rx_iconst hG 1 dX10_readOrder_30 ic_1 ?_
  refine rx_bipush hG 99 dX10_readOrder_31 bp_99 ?_
  obtain ⟨q4, hq4, hf⟩ := bindE hf
  refine rx_cVi hG (c_M_readWhole_0 l E T 1 99 hq4) (skM0 T) rfl rfl kw_M_195 ⟨Nat.le_of_ble_eq_true rfl, Nat.le_of_ble_eq_true rfl⟩ rfl (Nat.le_of_ble_eq_true rfl) dX10_readOrder_33 ?_
  refine rx_istore_n (lv2 := [(2, .int q4.1), (1, .int q2.1), (0, .ref (adr E 0))]) hG dX10_readOrder_36 (Nat.le_of_ble_eq_true rfl) rfl ?_
  refine rx_aload_n hG dX10_readOrder_37 2 rfl ?_
  refine rx_ldcS hG 8 rfl dX10_readOrder_38 ?_
  obtain ⟨M5, hM5, hf⟩ := bindE hf
  refine rx_cVv hG (c_M_needs_0 l E T 8 hM5) (skM0 T) rfl rfl kw_M_202 ⟨Nat.le_of_ble_eq_true rfl, Nat.le_of_ble_eq_true rfl⟩ rfl (Nat.le_of_ble_eq_true rfl) dX10_readOrder_40 ?_
  refine rx_aload_n hG dX10_readOrder_43 2 rfl ?_
  refine rx_iconst hG 0 dX10_readOrder_44 ic_0 ?_
  refine rx_sipush hG 999 dX10_readOrder_45 sp_999 ?_
  obtain ⟨q6, hq6, hf⟩ := bindE hf
  refine rx_cVi hG (c_M_readWhole_0 l E T 0 999 hq6) (skM0 T) rfl rfl kw_M_195 ⟨Nat.le_of_ble_eq_true rfl, Nat.le_of_ble_eq_true rfl⟩ rfl (Nat.le_of_ble_eq_true rfl) dX10_readOrder_48 ?_
  refine rx_istore_n (lv2 := [(3, .int q6.1), (2, .int q4.1), (1, .int q2.1), (0, .ref (adr E 0))]) hG dX10_readOrder_51 (Nat.le_of_ble_eq_true rfl) rfl ?_
  refine rx_aload_n hG dX10_readOrder_52 3 rfl ?_
  refine gfM_M_83_0 l E T hG dX10_readOrder_53 ?_
  refine rx_if_le hG 60 dX10_readOrder_56 rfl (fun c7 => ?_) (fun c7 => ?_)
  · have hf := ifT hf c7
    refine rx_aload_n hG dX10_readOrder_60 3 rfl ?_
    refine gfM_M_33_0 l E T hG dX10_readOrder_61 ?_
    refine rx_iconst hG 4 dX10_readOrder_64 ic_4 ?_
    refine rx_aload_n hG dX10_readOrder_65 3 rfl ?_
    refine gfM_M_210_0 l E T hG dX10_readOrder_66 ?_
    refine rx_iadd hG dX10_readOrder_69 ?_
    refine rx_iload_n hG dX10_readOrder_70 2 rfl ?_
    obtain ⟨M8, hM8, hf⟩ := bindE hf
    refine rx_iast hG (skM7 T) hM8 dX10_readOrder_71 ?_
    refine rx_aload_n hG dX10_readOrder_72 3 rfl ?_
    refine gfM_M_36_0 l E T hG dX10_readOrder_73 ?_
    refine rx_iconst hG 4 dX10_readOrder_76 ic_4 ?_
    refine rx_aload_n hG dX10_readOrder_77 3 rfl ?_
    refine gfM_M_210_0 l E T hG dX10_readOrder_78 ?_
    refine rx_iadd hG dX10_readOrder_81 ?_
    refine rx_iload_n hG dX10_readOrder_82 1 rfl ?_
    obtain ⟨M9, hM9, hf⟩ := bindE hf
    refine rx_iast hG (skM8 T) hM9 dX10_readOrder_83 ?_
    refine rx_aload_n hG dX10_readOrder_84 3 rfl ?_
    refine gfM_M_39_0 l E T hG dX10_readOrder_85 ?_
    refine rx_iconst hG 4 dX10_readOrder_88 ic_4 ?_
    refine rx_aload_n hG dX10_readOrder_89 3 rfl ?_
    refine gfM_M_210_0 l E T hG dX10_readOrder_90 ?_
    refine rx_iadd hG dX10_readOrder_93 ?_
    refine rx_iload_n hG dX10_readOrder_94 0 rfl ?_
    obtain ⟨M10, hM10, hf⟩ := bindE hf
    refine rx_iast hG (skM9 T) hM10 dX10_readOrder_95 ?_
    refine rx_aload_n hG dX10_readOrder_96 3 rfl ?_
    refine rx_dup hG dX10_readOrder_97 rfl ?_
    refine gfM_M_210_0 l E T hG dX10_readOrder_98 ?_
    refine rx_iconst hG 1 dX10_readOrder_101 ic_1 ?_
    refine rx_iadd hG dX10_readOrder_102 ?_
    obtain ⟨M11, hM11, hf⟩ := bindE hf
    refine pfM_M_210_0 l E T hG hM11 dX10_readOrder_103 ?_
    cases hf
    exact rx_vret hG dX10_readOrder_106
  · have hf := ifF hf c7
    cases hf
    exact rx_vret hG dX10_readOrder_59
set_option maxHeartbeats 4000000 in
set_option maxRecDepth 100000 in
theorem c_M_readOrder_0 (l : Launch) (E : En) (T : List Sk)  {M M' : Mm} (h : f_M_readOrder_0 M = some M') : Ct l (SKM ++ T) E yX10_readOrder cX10_readOrder 4 none 8 172 [.ref (adr E 0)] M none M' := by
  refine ct_of (by decide) (Nat.le_of_ble_eq_true rfl) ?_
  intro G hG
  show G 0 [(0, .ref (adr E 0))] [] M
  have hf := h
  unfold f_M_readOrder_0 at hf
  refine rx_aload_n hG dX10_readOrder_0 0 rfl ?_
  refine gfM_M_210_0 l E T hG dX10_readOrder_1 ?_
  refine rx_iconst hG 4 dX10_readOrder_4 ic_4 ?_
  refine rx_icmp_ne hG 13 dX10_readOrder_5 rfl (fun c1 => ?_) (fun c1 => ?_)
  · have hf := ifF hf c1
    exact Lj_M_readOrder_0_13 l E T hG  M hf
  · have hf := ifT hf c1
    refine rx_aload_n hG dX10_readOrder_8 0 rfl ?_
    refine rx_iconst hG 4 dX10_readOrder_9 ic_4 ?_
    obtain ⟨M2, hM2, hf⟩ := bindE hf
    refine rx_cVv hG (c_M_flaw_0 l E T 4 hM2) (skM0 T) rfl rfl kw_M_147 ⟨Nat.le_of_ble_eq_true rfl, Nat.le_of_ble_eq_true rfl⟩ rfl (Nat.le_of_ble_eq_true rfl) dX10_readOrder_10 ?_
    exact Lj_M_readOrder_0_13 l E T hG  M2 hf
set_option maxHeartbeats 4000000 in
set_option maxRecDepth 100000 in
theorem c_M_readCards_0 (l : Launch) (E : En) (T : List Sk)  {M M' : Mm} (h : f_M_readCards_0 M = some M') : Ct l (SKM ++ T) E yX10_readCards cX10_readCards 4 none 8 172 [.ref (adr E 0)] M none M' := by
  refine ct_of (by decide) (Nat.le_of_ble_eq_true rfl) ?_
  intro G hG
  show G 0 [(0, .ref (adr E 0))] [] M
  have hf := h
  unfold f_M_readCards_0 at hf
  refine rx_aload_n hG dX10_readCards_0 0 rfl ?_
  obtain ⟨M1, hM1, hf⟩ := bindE hf
  refine rx_cVv hG (c_M_goOn_0 l E T  hM1) (skM0 T) rfl rfl kw_M_144 ⟨Nat.le_of_ble_eq_true rfl, Nat.le_of_ble_eq_true rfl⟩ rfl (Nat.le_of_ble_eq_true rfl) dX10_readCards_1 ?_
  refine rx_aload_n hG dX10_readCards_4 0 rfl ?_
  refine rx_iconst hG 0 dX10_readCards_5 ic_0 ?_
  obtain ⟨q2, hq2, hf⟩ := bindE hf
  refine rx_cVi hG (c_M_readTold_0 l E T 0 hq2) (skM0 T) rfl rfl kw_M_206 ⟨Nat.le_of_ble_eq_true rfl, Nat.le_of_ble_eq_true rfl⟩ rfl (Nat.le_of_ble_eq_true rfl) dX10_readCards_6 ?_
  refine rx_istore_n (lv2 := [(1, .int q2.1), (0, .ref (adr E 0))]) hG dX10_readCards_9 (Nat.le_of_ble_eq_true rfl) rfl ?_
  refine rx_aload_n hG dX10_readCards_10 1 rfl ?_
  refine rx_iconst hG 1 dX10_readCards_11 ic_1 ?_
  obtain ⟨q3, hq3, hf⟩ := bindE hf
  refine rx_cVi hG (c_M_readTold_0 l E T 1 hq3) (skM0 T) rfl rfl kw_M_206 ⟨Nat.le_of_ble_eq_true rfl, Nat.le_of_ble_eq_true rfl⟩ rfl (Nat.le_of_ble_eq_true rfl) dX10_readCards_12 ?_
  refine rx_istore_n (lv2 := [(2, .int q3.1), (1, .int q2.1), (0, .ref (adr E 0))]) hG dX10_readCards_15 (Nat.le_of_ble_eq_true rfl) rfl ?_
  refine rx_aload_n hG dX10_readCards_16 2 rfl ?_
  refine rx_iconst hG 0 dX10_readCards_17 ic_0 ?_
  refine rx_bipush hG 9 dX10_readCards_18 bp_9 ?_
  obtain ⟨q4, hq4, hf⟩ := bindE hf
  refine rx_cVi hG (c_M_readWhole_0 l E T 0 9 hq4) (skM0 T) rfl rfl kw_M_195 ⟨Nat.le_of_ble_eq_true rfl, Nat.le_of_ble_eq_true rfl⟩ rfl (Nat.le_of_ble_eq_true rfl) dX10_readCards_20 ?_
  refine rx_istore_n (lv2 := [(3, .int q4.1), (2, .int q3.1), (1, .int q2.1), (0, .ref (adr E 0))]) hG dX10_readCards_23 (Nat.le_of_ble_eq_true rfl) rfl ?_
  refine rx_aload_n hG dX10_readCards_24 3 rfl ?_
  refine gfM_M_83_0 l E T hG dX10_readCards_25 ?_
  refine rx_if_ne hG 42 dX10_readCards_28 rfl (fun c5 => ?_) (fun c5 => ?_)
  · have hf := ifF hf c5
    cases hf
    exact rx_vret hG dX10_readCards_42
  · have hf := ifT hf c5
    refine rx_aload_n hG dX10_readCards_31 3 rfl ?_
    refine gfM_M_45_0 l E T hG dX10_readCards_32 ?_
    refine rx_iconst hG 3 dX10_readCards_35 ic_3 ?_
    refine rx_iload_n hG dX10_readCards_36 2 rfl ?_
    refine rx_imul hG dX10_readCards_37 ?_
    refine rx_iload_n hG dX10_readCards_38 1 rfl ?_
    refine rx_iadd hG dX10_readCards_39 ?_
    refine rx_iload_n hG dX10_readCards_40 0 rfl ?_
    obtain ⟨M6, hM6, hf⟩ := bindE hf
    refine rx_iast hG (skM11 T) hM6 dX10_readCards_41 ?_
    cases hf
    exact rx_vret hG dX10_readCards_42
set_option maxHeartbeats 4000000 in
set_option maxRecDepth 100000 in
theorem Lj_M_readNew_0_50 (l : Launch) (E : En) (T : List Sk) {a0 b0 kc ks : Nat} {r : Int64} {M' : Mm} {G : Nat → List (Nat × Value) → List Value → Mm → Prop} (hG : RX l (SKM ++ T) E RX10 cX10_readNew 3 (some .long) { frames := 7, cells := a0, slots := b0, locals := 150 } kc ks (some (.long r)) M' G)  : ∀  (M : Mm), j_M_readNew_0_50  M = some (r, M') → G 50 [(0, .ref (adr E 0))] [] M := by
  intro M hf
  unfold j_M_readNew_0_50 at hf
  refine rx_aload_n hG dX10_readNew_50 0 rfl ?_
  refine rx_iconst hG 3 dX10_readNew_51 ic_3 ?_
  obtain ⟨M1, hM1, hf⟩ := bindE hf
  refine rx_cVv hG (c_M_flaw_0 l E T 3 hM1) (skM0 T) rfl rfl kw_M_147 ⟨Nat.le_of_ble_eq_true rfl, Nat.le_of_ble_eq_true rfl⟩ rfl (Nat.le_of_ble_eq_true rfl) dX10_readNew_52 ?_
  refine rx_aload_n hG dX10_readNew_55 0 rfl ?_
  refine gfM_M_109_0 l E T hG dX10_readNew_56 ?_
  refine rx_lstore_n (lv2 := [(1, .long (M1.2 0 13)), (0, .ref (adr E 0))]) hG dX10_readNew_59 (Nat.le_of_ble_eq_true rfl) rfl ?_
  refine rx_aload_n hG dX10_readNew_60 1 rfl ?_
  obtain ⟨M2, hM2, hf⟩ := bindE hf
  refine rx_cVv hG (c_M_goOn_0 l E T  hM2) (skM0 T) rfl rfl kw_M_144 ⟨Nat.le_of_ble_eq_true rfl, Nat.le_of_ble_eq_true rfl⟩ rfl (Nat.le_of_ble_eq_true rfl) dX10_readNew_61 ?_
  refine rx_lload_n hG dX10_readNew_64 0 rfl ?_
  cases hf
  exact rx_lret hG dX10_readNew_65
set_option maxHeartbeats 4000000 in
set_option maxRecDepth 100000 in
theorem Lj_M_readNew_0_27 (l : Launch) (E : En) (T : List Sk) {a0 b0 kc ks : Nat} {r : Int64} {M' : Mm} {G : Nat → List (Nat × Value) → List Value → Mm → Prop} (hG : RX l (SKM ++ T) E RX10 cX10_readNew 3 (some .long) { frames := 7, cells := a0, slots := b0, locals := 150 } kc ks (some (.long r)) M' G)  : ∀  (M : Mm), j_M_readNew_0_27  M = some (r, M') → G 27 [(0, .ref (adr E 0))] [] M := by
  intro M hf
  unfold j_M_readNew_0_27 at hf
  refine rx_aload_n hG dX10_readNew_27 0 rfl ?_
  refine gfM_M_83_0 l E T hG dX10_readNew_28 ?_
  refine rx_if_ne hG 55 dX10_readNew_31 rfl (fun c1 => ?_) (fun c1 => ?_)
  · have hf := ifF hf c1
    refine rx_aload_n hG dX10_readNew_55 0 rfl ?_
    refine gfM_M_109_0 l E T hG dX10_readNew_56 ?_
    refine rx_lstore_n (lv2 := [(1, .long (M.2 0 13)), (0, .ref (adr E 0))]) hG dX10_readNew_59 (Nat.le_of_ble_eq_true rfl) rfl ?_
    refine rx_aload_n hG dX10_readNew_60 1 rfl ?_
    obtain ⟨M2, hM2, hf⟩ := bindE hf
    refine rx_cVv hG (c_M_goOn_0 l E T  hM2) (skM0 T) rfl rfl kw_M_144 ⟨Nat.le_of_ble_eq_true rfl, Nat.le_of_ble_eq_true rfl⟩ rfl (Nat.le_of_ble_eq_true rfl) dX10_readNew_61 ?_
    refine rx_lload_n hG dX10_readNew_64 0 rfl ?_
    cases hf
    exact rx_lret hG dX10_readNew_65
  · have hf := ifT hf c1
    refine rx_aload_n hG dX10_readNew_34 0 rfl ?_
    obtain ⟨v3, hv3, hf⟩ := bindE hf
    refine rx_cVi hG (c_M_kindOf_0 l E T  hv3) (skM0 T) rfl rfl kw_M_182 ⟨Nat.le_of_ble_eq_true rfl, Nat.le_of_ble_eq_true rfl⟩ rfl (Nat.le_of_ble_eq_true rfl) dX10_readNew_35 ?_
    refine rx_iconst hG (-1) dX10_readNew_38 ic_m1 ?_
    refine rx_icmp_ne hG 50 dX10_readNew_39 rfl (fun c4 => ?_) (fun c4 => ?_)
    · have hf := ifF hf c4
      exact Lj_M_readNew_0_50 l E T hG  M hf
    · have hf := ifT hf c4
      refine rx_aload_n hG dX10_readNew_42 0 rfl ?_
      obtain ⟨v5, hv5, hf⟩ := bindE hf
      refine rx_cVi hG (c_M_benchOf_0 l E T  hv5) (skM0 T) rfl rfl kw_M_185 ⟨Nat.le_of_ble_eq_true rfl, Nat.le_of_ble_eq_true rfl⟩ rfl (Nat.le_of_ble_eq_true rfl) dX10_readNew_43 ?_
      refine rx_iconst hG (-1) dX10_readNew_46 ic_m1 ?_
      refine rx_icmp_eq hG 55 dX10_readNew_47 rfl (fun c6 => ?_) (fun c6 => ?_)
      · have hf := ifT hf c6
        refine rx_aload_n hG dX10_readNew_55 0 rfl ?_
        refine gfM_M_109_0 l E T hG dX10_readNew_56 ?_
        refine rx_lstore_n (lv2 := [(1, .long (M.2 0 13)), (0, .ref (adr E 0))]) hG dX10_readNew_59 (Nat.le_of_ble_eq_true rfl) rfl ?_
        refine rx_aload_n hG dX10_readNew_60 1 rfl ?_
        obtain ⟨M7, hM7, hf⟩ := bindE hf
        refine rx_cVv hG (c_M_goOn_0 l E T  hM7) (skM0 T) rfl rfl kw_M_144 ⟨Nat.le_of_ble_eq_true rfl, Nat.le_of_ble_eq_true rfl⟩ rfl (Nat.le_of_ble_eq_true rfl) dX10_readNew_61 ?_
        refine rx_lload_n hG dX10_readNew_64 0 rfl ?_
        cases hf
        exact rx_lret hG dX10_readNew_65
      · have hf := ifF hf c6
        exact Lj_M_readNew_0_50 l E T hG  M hf
set_option maxHeartbeats 4000000 in
set_option maxRecDepth 100000 in
theorem Lj_M_readNew_0_22 (l : Launch) (E : En) (T : List Sk) {a0 b0 kc ks : Nat} {r : Int64} {M' : Mm} {G : Nat → List (Nat × Value) → List Value → Mm → Prop} (hG : RX l (SKM ++ T) E RX10 cX10_readNew 3 (some .long) { frames := 7, cells := a0, slots := b0, locals := 150 } kc ks (some (.long r)) M' G)  : ∀  (M : Mm), j_M_readNew_0_22  M = some (r, M') → G 22 [(0, .ref (adr E 0))] [] M := by
  intro M hf
  unfold j_M_readNew_0_22 at hf
  refine rx_aload_n hG dX10_readNew_22 0 rfl ?_
  refine rx_iconst hG 1 dX10_readNew_23 ic_1 ?_
  obtain ⟨M1, hM1, hf⟩ := bindE hf
  refine rx_cVv hG (c_M_flaw_0 l E T 1 hM1) (skM0 T) rfl rfl kw_M_147 ⟨Nat.le_of_ble_eq_true rfl, Nat.le_of_ble_eq_true rfl⟩ rfl (Nat.le_of_ble_eq_true rfl) dX10_readNew_24 ?_
  exact Lj_M_readNew_0_27 l E T hG  M1 hf
set_option maxHeartbeats 4000000 in
set_option maxRecDepth 100000 in
theorem c_M_readNew_0 (l : Launch) (E : En) (T : List Sk)  {M M' : Mm} {r : Int64} (h : f_M_readNew_0 M = some (r, M')) : Ct l (SKM ++ T) E yX10_readNew cX10_readNew 3 (some .long) 7 150 [.ref (adr E 0)] M (some (.long r)) M' := by
  refine ct_of (by decide) (Nat.le_of_ble_eq_true rfl) ?_
  intro G hG
  show G 0 [(0, .ref (adr E 0))] [] M
  have hf := h
  unfold f_M_readNew_0 at hf
  refine rx_aload_n hG dX10_readNew_0 0 rfl ?_
  refine gfM_M_83_0 l E T hG dX10_readNew_1 ?_
  refine rx_if_ne hG 27 dX10_readNew_4 rfl (fun c1 => ?_) (fun c1 => ?_)
  · have hf := ifF hf c1
    exact Lj_M_readNew_0_27 l E T hG  M hf
  · have hf := ifT hf c1
    refine rx_aload_n hG dX10_readNew_7 0 rfl ?_
    refine gfM_M_102_0 l E T hG dX10_readNew_8 ?_
    refine rx_iconst hG 2 dX10_readNew_11 ic_2 ?_
    refine rx_icmp_ne hG 22 dX10_readNew_12 rfl (fun c2 => ?_) (fun c2 => ?_)
    · have hf := ifF hf c2
      exact Lj_M_readNew_0_22 l E T hG  M hf
    · have hf := ifT hf c2
      refine rx_aload_n hG dX10_readNew_15 0 rfl ?_
      obtain ⟨v3, hv3, hf⟩ := bindE hf
      refine rx_cVi hG (c_M_isOwn_0 l E T  hv3) (skM0 T) rfl rfl kw_M_178 ⟨Nat.le_of_ble_eq_true rfl, Nat.le_of_ble_eq_true rfl⟩ rfl (Nat.le_of_ble_eq_true rfl) dX10_readNew_16 ?_
      refine rx_if_eq hG 27 dX10_readNew_19 rfl (fun c4 => ?_) (fun c4 => ?_)
      · have hf := ifT hf c4
        exact Lj_M_readNew_0_27 l E T hG  M hf
      · have hf := ifF hf c4
        exact Lj_M_readNew_0_22 l E T hG  M hf
set_option maxHeartbeats 4000000 in
set_option maxRecDepth 100000 in
theorem c_M_passes_0 (l : Launch) (E : En) (T : List Sk) (p0 : Nat) {M M' : Mm} {r : Int32} (h : f_M_passes_0 p0 M = some (r, M')) : Ct l (SKM ++ T) E yX10_passes cX10_passes 2 (some .boolean) 6 129 [.ref (adr E 0), .ref (E.2.2.2.2.1 p0)] M (some (.int r)) M' := by
  refine ct_of (by decide) (Nat.le_of_ble_eq_true rfl) ?_
  intro G hG
  show G 0 [(0, .ref (adr E 0)), (1, .ref (E.2.2.2.2.1 p0))] [] M
  have hf := h
  unfold f_M_passes_0 at hf
  refine rx_aload_n hG dX10_passes_0 0 rfl ?_
  refine rx_aload_n hG dX10_passes_1 1 rfl ?_
  obtain ⟨v1, hv1, hf⟩ := bindE hf
  refine rx_cVi hG (c_M_isWord_0 l E T p0 hv1) (skM0 T) rfl rfl kw_M_140 ⟨Nat.le_of_ble_eq_true rfl, Nat.le_of_ble_eq_true rfl⟩ rfl (Nat.le_of_ble_eq_true rfl) dX10_passes_2 ?_
  refine rx_if_ne hG 10 dX10_passes_5 rfl (fun c2 => ?_) (fun c2 => ?_)
  · have hf := ifF hf c2
    refine rx_aload_n hG dX10_passes_10 0 rfl ?_
    obtain ⟨M3, hM3, hf⟩ := bindE hf
    refine rx_cVv hG (c_M_goOn_0 l E T  hM3) (skM0 T) rfl rfl kw_M_144 ⟨Nat.le_of_ble_eq_true rfl, Nat.le_of_ble_eq_true rfl⟩ rfl (Nat.le_of_ble_eq_true rfl) dX10_passes_11 ?_
    refine rx_iconst hG 1 dX10_passes_14 ic_1 ?_
    cases hf
    exact rx_zret hG zr1 dX10_passes_15
  · have hf := ifT hf c2
    refine rx_iconst hG 0 dX10_passes_8 ic_0 ?_
    cases hf
    exact rx_zret hG zr0 dX10_passes_9
set_option maxHeartbeats 4000000 in
set_option maxRecDepth 100000 in
theorem c_M_isSign_0 (l : Launch) (E : En) (T : List Sk) (p0 : Int32) {M : Mm} {r : Int32} (h : f_M_isSign_0 p0 M = some r) : Ct l (SKM ++ T) E yX10_isSign cX10_isSign 2 (some .boolean) 0 0 [.ref (adr E 0), .int p0] M (some (.int r)) M := by
  refine ct_of (by decide) (Nat.le_of_ble_eq_true rfl) ?_
  intro G hG
  show G 0 [(0, .ref (adr E 0)), (1, .int p0)] [] M
  have hf := h
  unfold f_M_isSign_0 at hf
  refine rx_aload_n hG dX10_isSign_0 0 rfl ?_
  refine gfM_M_83_0 l E T hG dX10_isSign_1 ?_
  refine rx_if_ne hG 27 dX10_isSign_4 rfl (fun c1 => ?_) (fun c1 => ?_)
  · have hf := ifF hf c1
    refine rx_iconst hG 0 dX10_isSign_27 ic_0 ?_
    cases hf
    exact rx_zret hG zr0 dX10_isSign_28
  · have hf := ifT hf c1
    refine rx_aload_n hG dX10_isSign_7 0 rfl ?_
    refine gfM_M_102_0 l E T hG dX10_isSign_8 ?_
    refine rx_iconst hG 4 dX10_isSign_11 ic_4 ?_
    refine rx_icmp_ne hG 27 dX10_isSign_12 rfl (fun c2 => ?_) (fun c2 => ?_)
    · have hf := ifF hf c2
      refine rx_iconst hG 0 dX10_isSign_27 ic_0 ?_
      cases hf
      exact rx_zret hG zr0 dX10_isSign_28
    · have hf := ifT hf c2
      refine rx_aload_n hG dX10_isSign_15 0 rfl ?_
      refine gfM_M_123_0 l E T hG dX10_isSign_16 ?_
      refine rx_iload_n hG dX10_isSign_19 1 rfl ?_
      refine rx_icmp_ne hG 27 dX10_isSign_20 rfl (fun c3 => ?_) (fun c3 => ?_)
      · have hf := ifF hf c3
        refine rx_iconst hG 0 dX10_isSign_27 ic_0 ?_
        cases hf
        exact rx_zret hG zr0 dX10_isSign_28
      · have hf := ifT hf c3
        refine rx_iconst hG 1 dX10_isSign_23 ic_1 ?_
        refine rx_goto hG 28 dX10_isSign_24 rfl ?_
        cases hf
        exact rx_zret hG zr1 dX10_isSign_28
set_option maxHeartbeats 4000000 in
set_option maxRecDepth 100000 in
theorem Lj_M_readBench_0_182 (l : Launch) (E : En) (T : List Sk) {a0 b0 kc ks : Nat} {M' : Mm} {G : Nat → List (Nat × Value) → List Value → Mm → Prop} (hG : RX l (SKM ++ T) E RX10 cX10_readBench 7 none { frames := 8, cells := a0, slots := b0, locals := 172 } kc ks none M' G)  : ∀ (x1 : Int64) (x3 : Int32) (x4 : Int32) (x5 : Int32) (x6 : Int32) (M : Mm), j_M_readBench_0_182  x1 x3 x4 x5 x6 M = some M' → G 182 [(0, .ref (adr E 0)), (1, .long x1), (3, .int x3), (4, .int x4), (5, .int x5), (6, .int x6)] [] M := by
  intro x1 x3 x4 x5 x6 M hf
  unfold j_M_readBench_0_182 at hf
  refine rx_aload_n hG dX10_readBench_182 0 rfl ?_
  refine gfM_M_83_0 l E T hG dX10_readBench_183 ?_
  refine rx_if_le hG 190 dX10_readBench_186 rfl (fun c1 => ?_) (fun c1 => ?_)
  · have hf := ifT hf c1
    refine rx_aload_n hG dX10_readBench_190 0 rfl ?_
    refine gfM_M_21_0 l E T hG dX10_readBench_191 ?_
    refine rx_bipush hG 6 dX10_readBench_194 bp_6 ?_
    refine rx_iload_n hG dX10_readBench_196 2 rfl ?_
    refine rx_iadd hG dX10_readBench_197 ?_
    refine rx_lload_n hG dX10_readBench_198 1 rfl ?_
    obtain ⟨M2, hM2, hf⟩ := bindE hf
    refine rx_last hG (skM3 T) hM2 dX10_readBench_199 ?_
    refine rx_aload_n hG dX10_readBench_200 0 rfl ?_
    refine gfM_M_24_0 l E T hG dX10_readBench_201 ?_
    refine rx_bipush hG 6 dX10_readBench_204 bp_6 ?_
    refine rx_iload_n hG dX10_readBench_206 2 rfl ?_
    refine rx_iadd hG dX10_readBench_207 ?_
    refine rx_iload hG dX10_readBench_208 3 rfl ?_
    obtain ⟨M3, hM3, hf⟩ := bindE hf
    refine rx_iast hG (skM4 T) hM3 dX10_readBench_210 ?_
    refine rx_aload_n hG dX10_readBench_211 0 rfl ?_
    refine gfM_M_27_0 l E T hG dX10_readBench_212 ?_
    refine rx_bipush hG 6 dX10_readBench_215 bp_6 ?_
    refine rx_iload_n hG dX10_readBench_217 2 rfl ?_
    refine rx_iadd hG dX10_readBench_218 ?_
    refine rx_iload hG dX10_readBench_219 4 rfl ?_
    obtain ⟨M4, hM4, hf⟩ := bindE hf
    refine rx_iast hG (skM5 T) hM4 dX10_readBench_221 ?_
    refine rx_aload_n hG dX10_readBench_222 0 rfl ?_
    refine gfM_M_30_0 l E T hG dX10_readBench_223 ?_
    refine rx_bipush hG 6 dX10_readBench_226 bp_6 ?_
    refine rx_iload_n hG dX10_readBench_228 2 rfl ?_
    refine rx_iadd hG dX10_readBench_229 ?_
    refine rx_iload hG dX10_readBench_230 5 rfl ?_
    obtain ⟨M5, hM5, hf⟩ := bindE hf
    refine rx_iast hG (skM6 T) hM5 dX10_readBench_232 ?_
    refine rx_aload_n hG dX10_readBench_233 0 rfl ?_
    refine rx_dup hG dX10_readBench_234 rfl ?_
    refine gfM_M_175_0 l E T hG dX10_readBench_235 ?_
    refine rx_iconst hG 1 dX10_readBench_238 ic_1 ?_
    refine rx_iadd hG dX10_readBench_239 ?_
    obtain ⟨M6, hM6, hf⟩ := bindE hf
    refine pfM_M_175_0 l E T hG hM6 dX10_readBench_240 ?_
    cases hf
    exact rx_vret hG dX10_readBench_243
  · have hf := ifF hf c1
    cases hf
    exact rx_vret hG dX10_readBench_189
set_option maxHeartbeats 4000000 in
set_option maxRecDepth 100000 in
theorem Lj_M_readBench_0_141 (l : Launch) (E : En) (T : List Sk) {a0 b0 kc ks : Nat} {M' : Mm} {G : Nat → List (Nat × Value) → List Value → Mm → Prop} (hG : RX l (SKM ++ T) E RX10 cX10_readBench 7 none { frames := 8, cells := a0, slots := b0, locals := 172 } kc ks none M' G)  : ∀ (x1 : Int64) (x3 : Int32) (t0 : Int32) (M : Mm), j_M_readBench_0_141  x1 x3 t0 M = some M' → G 141 [(0, .ref (adr E 0)), (1, .long x1), (3, .int x3)] [.int t0] M := by
  intro x1 x3 t0 M hf
  unfold j_M_readBench_0_141 at hf
  refine rx_istore (lv2 := [(4, .int t0), (0, .ref (adr E 0)), (1, .long x1), (3, .int x3)]) hG dX10_readBench_141 (Nat.le_of_ble_eq_true rfl) rfl ?_
  refine rx_iconst hG 0 dX10_readBench_143 ic_0 ?_
  refine rx_istore (lv2 := [(5, .int 0), (4, .int t0), (0, .ref (adr E 0)), (1, .long x1), (3, .int x3)]) hG dX10_readBench_144 (Nat.le_of_ble_eq_true rfl) rfl ?_
  refine rx_iconst hG 0 dX10_readBench_146 ic_0 ?_
  refine rx_istore (lv2 := [(6, .int 0), (5, .int 0), (4, .int t0), (0, .ref (adr E 0)), (1, .long x1), (3, .int x3)]) hG dX10_readBench_147 (Nat.le_of_ble_eq_true rfl) rfl ?_
  refine rx_aload_n hG dX10_readBench_149 3 rfl ?_
  refine rx_ldcS hG 4 rfl dX10_readBench_150 ?_
  obtain ⟨q1, hq1, hf⟩ := bindE hf
  refine rx_cVi hG (c_M_passes_0 l E T 4 hq1) (skM0 T) rfl rfl kw_M_199 ⟨Nat.le_of_ble_eq_true rfl, Nat.le_of_ble_eq_true rfl⟩ rfl (Nat.le_of_ble_eq_true rfl) dX10_readBench_152 ?_
  refine rx_if_eq hG 182 dX10_readBench_155 rfl (fun c2 => ?_) (fun c2 => ?_)
  · have hf := ifT hf c2
    refine rx_sub hG [3, 4, 5, 2, 1, 0] (lv' := [(0, .ref (adr E 0)), (1, .long x1), (3, .int x3), (4, .int t0), (5, .int 0), (6, .int 0)]) rfl ?_
    exact Lj_M_readBench_0_182 l E T hG  x1 x3 t0 0 0 q1.2 hf
  · have hf := ifF hf c2
    refine rx_aload_n hG dX10_readBench_158 3 rfl ?_
    refine rx_iconst hG 1 dX10_readBench_159 ic_1 ?_
    refine rx_bipush hG 60 dX10_readBench_160 bp_60 ?_
    obtain ⟨q3, hq3, hf⟩ := bindE hf
    refine rx_cVi hG (c_M_readWhole_0 l E T 1 60 hq3) (skM0 T) rfl rfl kw_M_195 ⟨Nat.le_of_ble_eq_true rfl, Nat.le_of_ble_eq_true rfl⟩ rfl (Nat.le_of_ble_eq_true rfl) dX10_readBench_162 ?_
    refine rx_istore (lv2 := [(5, .int q3.1), (6, .int 0), (4, .int t0), (0, .ref (adr E 0)), (1, .long x1), (3, .int x3)]) hG dX10_readBench_165 (Nat.le_of_ble_eq_true rfl) rfl ?_
    refine rx_aload_n hG dX10_readBench_167 3 rfl ?_
    refine rx_ldcS hG 5 rfl dX10_readBench_168 ?_
    obtain ⟨M4, hM4, hf⟩ := bindE hf
    refine rx_cVv hG (c_M_needs_0 l E T 5 hM4) (skM0 T) rfl rfl kw_M_202 ⟨Nat.le_of_ble_eq_true rfl, Nat.le_of_ble_eq_true rfl⟩ rfl (Nat.le_of_ble_eq_true rfl) dX10_readBench_170 ?_
    refine rx_aload_n hG dX10_readBench_173 3 rfl ?_
    refine rx_iconst hG 1 dX10_readBench_174 ic_1 ?_
    refine rx_bipush hG 99 dX10_readBench_175 bp_99 ?_
    obtain ⟨q5, hq5, hf⟩ := bindE hf
    refine rx_cVi hG (c_M_readWhole_0 l E T 1 99 hq5) (skM0 T) rfl rfl kw_M_195 ⟨Nat.le_of_ble_eq_true rfl, Nat.le_of_ble_eq_true rfl⟩ rfl (Nat.le_of_ble_eq_true rfl) dX10_readBench_177 ?_
    refine rx_istore (lv2 := [(6, .int q5.1), (5, .int q3.1), (4, .int t0), (0, .ref (adr E 0)), (1, .long x1), (3, .int x3)]) hG dX10_readBench_180 (Nat.le_of_ble_eq_true rfl) rfl ?_
    refine rx_sub hG [3, 4, 5, 2, 1, 0] (lv' := [(0, .ref (adr E 0)), (1, .long x1), (3, .int x3), (4, .int t0), (5, .int q3.1), (6, .int q5.1)]) rfl ?_
    exact Lj_M_readBench_0_182 l E T hG  x1 x3 t0 q3.1 q5.1 q5.2 hf
set_option maxHeartbeats 4000000 in
set_option maxRecDepth 100000 in
theorem Lj_M_readBench_0_121 (l : Launch) (E : En) (T : List Sk) {a0 b0 kc ks : Nat} {M' : Mm} {G : Nat → List (Nat × Value) → List Value → Mm → Prop} (hG : RX l (SKM ++ T) E RX10 cX10_readBench 7 none { frames := 8, cells := a0, slots := b0, locals := 172 } kc ks none M' G)  : ∀ (x1 : Int64) (x3 : Int32) (M : Mm), j_M_readBench_0_121  x1 x3 M = some M' → G 121 [(0, .ref (adr E 0)), (1, .long x1), (3, .int x3)] [] M := by
  intro x1 x3 M hf
  unfold j_M_readBench_0_121 at hf
  refine rx_aload_n hG dX10_readBench_121 0 rfl ?_
  refine rx_ldcS hG 3 rfl dX10_readBench_122 ?_
  obtain ⟨q1, hq1, hf⟩ := bindE hf
  refine rx_cVi hG (c_M_passes_0 l E T 3 hq1) (skM0 T) rfl rfl kw_M_199 ⟨Nat.le_of_ble_eq_true rfl, Nat.le_of_ble_eq_true rfl⟩ rfl (Nat.le_of_ble_eq_true rfl) dX10_readBench_124 ?_
  refine rx_if_eq hG 140 dX10_readBench_127 rfl (fun c2 => ?_) (fun c2 => ?_)
  · have hf := ifT hf c2
    refine rx_iconst hG 0 dX10_readBench_140 ic_0 ?_
    exact Lj_M_readBench_0_141 l E T hG  x1 x3 0 q1.2 hf
  · have hf := ifF hf c2
    refine rx_aload_n hG dX10_readBench_130 0 rfl ?_
    refine rx_iconst hG 0 dX10_readBench_131 ic_0 ?_
    refine rx_bipush hG 60 dX10_readBench_132 bp_60 ?_
    obtain ⟨q3, hq3, hf⟩ := bindE hf
    refine rx_cVi hG (c_M_readWhole_0 l E T 0 60 hq3) (skM0 T) rfl rfl kw_M_195 ⟨Nat.le_of_ble_eq_true rfl, Nat.le_of_ble_eq_true rfl⟩ rfl (Nat.le_of_ble_eq_true rfl) dX10_readBench_134 ?_
    refine rx_goto hG 141 dX10_readBench_137 rfl ?_
    exact Lj_M_readBench_0_141 l E T hG  x1 x3 q3.1 q3.2 hf
set_option maxHeartbeats 4000000 in
set_option maxRecDepth 100000 in
theorem Lj_M_readBench_0_82 (l : Launch) (E : En) (T : List Sk) {a0 b0 kc ks : Nat} {M' : Mm} {G : Nat → List (Nat × Value) → List Value → Mm → Prop} (hG : RX l (SKM ++ T) E RX10 cX10_readBench 7 none { frames := 8, cells := a0, slots := b0, locals := 172 } kc ks none M' G) (rc43 : Int64 → Int32 → Int32 → Mm → Option Mm) (hrc43 : ∀ (x1 : Int64) (x3 : Int32) (x4 : Int32) (M : Mm), rc43 x1 x3 x4 M = some M' → G 43 [(0, .ref (adr E 0)), (1, .long x1), (3, .int x3), (4, .int x4)] [] M) : ∀ (x1 : Int64) (x3 : Int32) (x4 : Int32) (M : Mm), j_M_readBench_0_82 rc43 x1 x3 x4 M = some M' → G 82 [(0, .ref (adr E 0)), (1, .long x1), (3, .int x3), (4, .int x4)] [] M := by
  intro x1 x3 x4 M hf
  unfold j_M_readBench_0_82 at hf
  refine rx_aload_n hG dX10_readBench_82 0 rfl ?_
  refine gfM_M_45_0 l E T hG dX10_readBench_83 ?_
  refine rx_bipush hG 18 dX10_readBench_86 bp_18 ?_
  refine rx_iconst hG 3 dX10_readBench_88 ic_3 ?_
  refine rx_iload_n hG dX10_readBench_89 2 rfl ?_
  refine rx_imul hG dX10_readBench_90 ?_
  refine rx_iadd hG dX10_readBench_91 ?_
  refine rx_iload hG dX10_readBench_92 3 rfl ?_
  refine rx_iadd hG dX10_readBench_94 ?_
  refine rx_aload_n hG dX10_readBench_95 0 rfl ?_
  refine rx_iconst hG 1 dX10_readBench_96 ic_1 ?_
  refine rx_bipush hG 60 dX10_readBench_97 bp_60 ?_
  obtain ⟨q1, hq1, hf⟩ := bindE hf
  refine rx_cVi hG (c_M_readWhole_0 l E T 1 60 hq1) (skM0 T) rfl rfl kw_M_195 ⟨Nat.le_of_ble_eq_true rfl, Nat.le_of_ble_eq_true rfl⟩ rfl (Nat.le_of_ble_eq_true rfl) dX10_readBench_99 ?_
  obtain ⟨M2, hM2, hf⟩ := bindE hf
  refine rx_iast hG (skM11 T) hM2 dX10_readBench_102 ?_
  refine rx_aload_n hG dX10_readBench_103 0 rfl ?_
  refine gfM_M_45_0 l E T hG dX10_readBench_104 ?_
  refine rx_iconst hG 3 dX10_readBench_107 ic_3 ?_
  refine rx_iload_n hG dX10_readBench_108 2 rfl ?_
  refine rx_imul hG dX10_readBench_109 ?_
  refine rx_iload hG dX10_readBench_110 3 rfl ?_
  refine rx_iadd hG dX10_readBench_112 ?_
  refine rx_iconst hG 1 dX10_readBench_113 ic_1 ?_
  obtain ⟨M3, hM3, hf⟩ := bindE hf
  refine rx_iast hG (skM11 T) hM3 dX10_readBench_114 ?_
  refine rx_iinc (lv2 := [(4, .int (x4 + 1)), (0, .ref (adr E 0)), (1, .long x1), (3, .int x3)]) hG 1 dX10_readBench_115 ic_1 3 rfl (Nat.le_of_ble_eq_true rfl) rfl ?_
  refine rx_goto hG 43 dX10_readBench_118 rfl ?_
  refine rx_sub hG [1, 2, 3, 0] (lv' := [(0, .ref (adr E 0)), (1, .long x1), (3, .int x3), (4, .int (x4 + 1))]) rfl ?_
  exact hrc43 x1 x3 (x4 + 1) M3 hf
set_option maxHeartbeats 4000000 in
set_option maxRecDepth 100000 in
theorem Lj_M_readBench_0_78 (l : Launch) (E : En) (T : List Sk) {a0 b0 kc ks : Nat} {M' : Mm} {G : Nat → List (Nat × Value) → List Value → Mm → Prop} (hG : RX l (SKM ++ T) E RX10 cX10_readBench 7 none { frames := 8, cells := a0, slots := b0, locals := 172 } kc ks none M' G) (rc43 : Int64 → Int32 → Int32 → Mm → Option Mm) (hrc43 : ∀ (x1 : Int64) (x3 : Int32) (x4 : Int32) (M : Mm), rc43 x1 x3 x4 M = some M' → G 43 [(0, .ref (adr E 0)), (1, .long x1), (3, .int x3), (4, .int x4)] [] M) : ∀ (x1 : Int64) (x3 : Int32) (x4 : Int32) (M : Mm), j_M_readBench_0_78 rc43 x1 x3 x4 M = some M' → G 78 [(0, .ref (adr E 0)), (1, .long x1), (3, .int x3), (4, .int x4)] [] M := by
  intro x1 x3 x4 M hf
  unfold j_M_readBench_0_78 at hf
  refine rx_aload_n hG dX10_readBench_78 0 rfl ?_
  obtain ⟨M1, hM1, hf⟩ := bindE hf
  refine rx_cVv hG (c_M_goOn_0 l E T  hM1) (skM0 T) rfl rfl kw_M_144 ⟨Nat.le_of_ble_eq_true rfl, Nat.le_of_ble_eq_true rfl⟩ rfl (Nat.le_of_ble_eq_true rfl) dX10_readBench_79 ?_
  exact Lj_M_readBench_0_82 l E T hG rc43 hrc43 x1 x3 x4 M1 hf
set_option maxHeartbeats 4000000 in
set_option maxRecDepth 100000 in
theorem Lblp_M_readBench_0_43 (l : Launch) (E : En) (T : List Sk) {a0 b0 kc ks : Nat} {M' : Mm} {G : Nat → List (Nat × Value) → List Value → Mm → Prop} (hG : RX l (SKM ++ T) E RX10 cX10_readBench 7 none { frames := 8, cells := a0, slots := b0, locals := 172 } kc ks none M' G) (rc43 : Int64 → Int32 → Int32 → Mm → Option Mm) (hrc43 : ∀ (x1 : Int64) (x3 : Int32) (x4 : Int32) (M : Mm), rc43 x1 x3 x4 M = some M' → G 43 [(0, .ref (adr E 0)), (1, .long x1), (3, .int x3), (4, .int x4)] [] M) : ∀ (x1 : Int64) (x3 : Int32) (x4 : Int32) (M : Mm), blp_M_readBench_0_43 rc43 x1 x3 x4 M = some M' → G 43 [(0, .ref (adr E 0)), (1, .long x1), (3, .int x3), (4, .int x4)] [] M := by
  intro x1 x3 x4 M hf
  unfold blp_M_readBench_0_43 at hf
  refine rx_iload hG dX10_readBench_43 3 rfl ?_
  refine rx_aload_n hG dX10_readBench_45 0 rfl ?_
  refine gfM_M_172_0 l E T hG dX10_readBench_46 ?_
  refine rx_icmp_ge hG 121 dX10_readBench_49 rfl (fun c1 => ?_) (fun c1 => ?_)
  · have hf := ifT hf c1
    refine rx_sub hG [0, 1, 2] (lv' := [(0, .ref (adr E 0)), (1, .long x1), (3, .int x3)]) rfl ?_
    exact Lj_M_readBench_0_121 l E T hG  x1 x3 M hf
  · have hf := ifF hf c1
    refine rx_aload_n hG dX10_readBench_52 0 rfl ?_
    refine gfM_M_83_0 l E T hG dX10_readBench_53 ?_
    refine rx_if_ne hG 121 dX10_readBench_56 rfl (fun c2 => ?_) (fun c2 => ?_)
    · have hf := ifF hf c2
      refine rx_sub hG [0, 1, 2] (lv' := [(0, .ref (adr E 0)), (1, .long x1), (3, .int x3)]) rfl ?_
      exact Lj_M_readBench_0_121 l E T hG  x1 x3 M hf
    · have hf := ifT hf c2
      refine rx_iload hG dX10_readBench_59 3 rfl ?_
      refine rx_if_le hG 82 dX10_readBench_61 rfl (fun c3 => ?_) (fun c3 => ?_)
      · have hf := ifT hf c3
        exact Lj_M_readBench_0_82 l E T hG rc43 hrc43 x1 x3 x4 M hf
      · have hf := ifF hf c3
        refine rx_aload_n hG dX10_readBench_64 0 rfl ?_
        refine rx_bipush hG 44 dX10_readBench_65 bp_44 ?_
        obtain ⟨v4, hv4, hf⟩ := bindE hf
        refine rx_cVi hG (c_M_isSign_0 l E T 44 hv4) (skM0 T) rfl rfl kw_M_192 ⟨Nat.le_of_ble_eq_true rfl, Nat.le_of_ble_eq_true rfl⟩ rfl (Nat.le_of_ble_eq_true rfl) dX10_readBench_67 ?_
        refine rx_if_ne hG 78 dX10_readBench_70 rfl (fun c5 => ?_) (fun c5 => ?_)
        · have hf := ifF hf c5
          exact Lj_M_readBench_0_78 l E T hG rc43 hrc43 x1 x3 x4 M hf
        · have hf := ifT hf c5
          refine rx_aload_n hG dX10_readBench_73 0 rfl ?_
          refine rx_iconst hG 1 dX10_readBench_74 ic_1 ?_
          obtain ⟨M6, hM6, hf⟩ := bindE hf
          refine rx_cVv hG (c_M_flaw_0 l E T 1 hM6) (skM0 T) rfl rfl kw_M_147 ⟨Nat.le_of_ble_eq_true rfl, Nat.le_of_ble_eq_true rfl⟩ rfl (Nat.le_of_ble_eq_true rfl) dX10_readBench_75 ?_
          exact Lj_M_readBench_0_78 l E T hG rc43 hrc43 x1 x3 x4 M6 hf
theorem Llp_M_readBench_0_43 (l : Launch) (E : En) (T : List Sk) {a0 b0 kc ks : Nat} {M' : Mm} {G : Nat → List (Nat × Value) → List Value → Mm → Prop} (hG : RX l (SKM ++ T) E RX10 cX10_readBench 7 none { frames := 8, cells := a0, slots := b0, locals := 172 } kc ks none M' G)  : ∀ (n : Nat) (x1 : Int64) (x3 : Int32) (x4 : Int32) (M : Mm), lp_M_readBench_0_43  n x1 x3 x4 M = some M' → G 43 [(0, .ref (adr E 0)), (1, .long x1), (3, .int x3), (4, .int x4)] [] M := by
  intro n
  induction n with
  | zero => intro x1 x3 x4 M hf; cases hf
  | succ n ih => intro x1 x3 x4 M hf; exact Lblp_M_readBench_0_43 l E T hG  (lp_M_readBench_0_43  n) ih x1 x3 x4 M hf
set_option maxHeartbeats 4000000 in
set_option maxRecDepth 100000 in
theorem Lj_M_readBench_0_40 (l : Launch) (E : En) (T : List Sk) {a0 b0 kc ks : Nat} {M' : Mm} {G : Nat → List (Nat × Value) → List Value → Mm → Prop} (hG : RX l (SKM ++ T) E RX10 cX10_readBench 7 none { frames := 8, cells := a0, slots := b0, locals := 172 } kc ks none M' G)  : ∀ (x1 : Int64) (x3 : Int32) (M : Mm), j_M_readBench_0_40  x1 x3 M = some M' → G 40 [(0, .ref (adr E 0)), (1, .long x1), (3, .int x3)] [] M := by
  intro x1 x3 M hf
  unfold j_M_readBench_0_40 at hf
  refine rx_iconst hG 0 dX10_readBench_40 ic_0 ?_
  refine rx_istore (lv2 := [(4, .int 0), (0, .ref (adr E 0)), (1, .long x1), (3, .int x3)]) hG dX10_readBench_41 (Nat.le_of_ble_eq_true rfl) rfl ?_
  refine rx_sub hG [1, 2, 3, 0] (lv' := [(0, .ref (adr E 0)), (1, .long x1), (3, .int x3), (4, .int 0)]) rfl ?_
  exact Llp_M_readBench_0_43 l E T hG  FW x1 x3 0 M hf
set_option maxHeartbeats 4000000 in
set_option maxRecDepth 100000 in
theorem Lj_M_readBench_0_14 (l : Launch) (E : En) (T : List Sk) {a0 b0 kc ks : Nat} {M' : Mm} {G : Nat → List (Nat × Value) → List Value → Mm → Prop} (hG : RX l (SKM ++ T) E RX10 cX10_readBench 7 none { frames := 8, cells := a0, slots := b0, locals := 172 } kc ks none M' G)  : ∀  (M : Mm), j_M_readBench_0_14  M = some M' → G 14 [(0, .ref (adr E 0))] [] M := by
  intro M hf
  unfold j_M_readBench_0_14 at hf
  refine rx_aload_n hG dX10_readBench_14 0 rfl ?_
  obtain ⟨M1, hM1, hf⟩ := bindE hf
  refine rx_cVv hG (c_M_goOn_0 l E T  hM1) (skM0 T) rfl rfl kw_M_144 ⟨Nat.le_of_ble_eq_true rfl, Nat.le_of_ble_eq_true rfl⟩ rfl (Nat.le_of_ble_eq_true rfl) dX10_readBench_15 ?_
  refine rx_aload_n hG dX10_readBench_18 0 rfl ?_
  obtain ⟨q2, hq2, hf⟩ := bindE hf
  refine rx_cVl hG (c_M_readNew_0 l E T  hq2) (skM0 T) rfl rfl kw_M_188 ⟨Nat.le_of_ble_eq_true rfl, Nat.le_of_ble_eq_true rfl⟩ rfl (Nat.le_of_ble_eq_true rfl) dX10_readBench_19 ?_
  refine rx_lstore_n (lv2 := [(1, .long q2.1), (0, .ref (adr E 0))]) hG dX10_readBench_22 (Nat.le_of_ble_eq_true rfl) rfl ?_
  refine rx_aload_n hG dX10_readBench_23 1 rfl ?_
  refine gfM_M_175_0 l E T hG dX10_readBench_24 ?_
  refine rx_istore_n (lv2 := [(3, .int (q2.2.1 0 26)), (1, .long q2.1), (0, .ref (adr E 0))]) hG dX10_readBench_27 (Nat.le_of_ble_eq_true rfl) rfl ?_
  refine rx_aload_n hG dX10_readBench_28 2 rfl ?_
  refine gfM_M_172_0 l E T hG dX10_readBench_29 ?_
  refine rx_if_ne hG 40 dX10_readBench_32 rfl (fun c3 => ?_) (fun c3 => ?_)
  · have hf := ifF hf c3
    refine rx_sub hG [2, 1, 0] (lv' := [(0, .ref (adr E 0)), (1, .long q2.1), (3, .int (q2.2.1 0 26))]) rfl ?_
    exact Lj_M_readBench_0_40 l E T hG  q2.1 (q2.2.1 0 26) q2.2 hf
  · have hf := ifT hf c3
    refine rx_aload_n hG dX10_readBench_35 2 rfl ?_
    refine rx_iconst hG 1 dX10_readBench_36 ic_1 ?_
    obtain ⟨M4, hM4, hf⟩ := bindE hf
    refine rx_cVv hG (c_M_flaw_0 l E T 1 hM4) (skM0 T) rfl rfl kw_M_147 ⟨Nat.le_of_ble_eq_true rfl, Nat.le_of_ble_eq_true rfl⟩ rfl (Nat.le_of_ble_eq_true rfl) dX10_readBench_37 ?_
    refine rx_sub hG [2, 1, 0] (lv' := [(0, .ref (adr E 0)), (1, .long q2.1), (3, .int (q2.2.1 0 26))]) rfl ?_
    exact Lj_M_readBench_0_40 l E T hG  q2.1 (q2.2.1 0 26) M4 hf
set_option maxHeartbeats 4000000 in
set_option maxRecDepth 100000 in
theorem c_M_readBench_0 (l : Launch) (E : En) (T : List Sk)  {M M' : Mm} (h : f_M_readBench_0 M = some M') : Ct l (SKM ++ T) E yX10_readBench cX10_readBench 7 none 8 172 [.ref (adr E 0)] M none M' := by
  refine ct_of (by decide) (Nat.le_of_ble_eq_true rfl) ?_
  intro G hG
  show G 0 [(0, .ref (adr E 0))] [] M
  have hf := h
  unfold f_M_readBench_0 at hf
  refine rx_aload_n hG dX10_readBench_0 0 rfl ?_
  refine gfM_M_175_0 l E T hG dX10_readBench_1 ?_
  refine rx_bipush hG 6 dX10_readBench_4 bp_6 ?_
  refine rx_icmp_ne hG 14 dX10_readBench_6 rfl (fun c1 => ?_) (fun c1 => ?_)
  · have hf := ifF hf c1
    exact Lj_M_readBench_0_14 l E T hG  M hf
  · have hf := ifT hf c1
    refine rx_aload_n hG dX10_readBench_9 0 rfl ?_
    refine rx_iconst hG 4 dX10_readBench_10 ic_4 ?_
    obtain ⟨M2, hM2, hf⟩ := bindE hf
    refine rx_cVv hG (c_M_flaw_0 l E T 4 hM2) (skM0 T) rfl rfl kw_M_147 ⟨Nat.le_of_ble_eq_true rfl, Nat.le_of_ble_eq_true rfl⟩ rfl (Nat.le_of_ble_eq_true rfl) dX10_readBench_11 ?_
    exact Lj_M_readBench_0_14 l E T hG  M2 hf
set_option maxHeartbeats 4000000 in
set_option maxRecDepth 100000 in
theorem Lj_M_readWare_0_20 (l : Launch) (E : En) (T : List Sk) {a0 b0 kc ks : Nat} {M' : Mm} {G : Nat → List (Nat × Value) → List Value → Mm → Prop} (hG : RX l (SKM ++ T) E RX10 cX10_readWare 3 none { frames := 8, cells := a0, slots := b0, locals := 172 } kc ks none M' G)  : ∀  (M : Mm), j_M_readWare_0_20  M = some M' → G 20 [(0, .ref (adr E 0))] [] M := by
  intro M hf
  unfold j_M_readWare_0_20 at hf
  refine rx_aload_n hG dX10_readWare_20 0 rfl ?_
  obtain ⟨M1, hM1, hf⟩ := bindE hf
  refine rx_cVv hG (c_M_goOn_0 l E T  hM1) (skM0 T) rfl rfl kw_M_144 ⟨Nat.le_of_ble_eq_true rfl, Nat.le_of_ble_eq_true rfl⟩ rfl (Nat.le_of_ble_eq_true rfl) dX10_readWare_21 ?_
  refine rx_aload_n hG dX10_readWare_24 0 rfl ?_
  obtain ⟨q2, hq2, hf⟩ := bindE hf
  refine rx_cVl hG (c_M_readNew_0 l E T  hq2) (skM0 T) rfl rfl kw_M_188 ⟨Nat.le_of_ble_eq_true rfl, Nat.le_of_ble_eq_true rfl⟩ rfl (Nat.le_of_ble_eq_true rfl) dX10_readWare_25 ?_
  refine rx_lstore_n (lv2 := [(1, .long q2.1), (0, .ref (adr E 0))]) hG dX10_readWare_28 (Nat.le_of_ble_eq_true rfl) rfl ?_
  refine rx_aload_n hG dX10_readWare_29 1 rfl ?_
  refine gfM_M_83_0 l E T hG dX10_readWare_30 ?_
  refine rx_if_le hG 37 dX10_readWare_33 rfl (fun c3 => ?_) (fun c3 => ?_)
  · have hf := ifT hf c3
    refine rx_aload_n hG dX10_readWare_37 1 rfl ?_
    refine gfM_M_17_0 l E T hG dX10_readWare_38 ?_
    refine rx_iconst hG 3 dX10_readWare_41 ic_3 ?_
    refine rx_aload_n hG dX10_readWare_42 1 rfl ?_
    refine gfM_M_172_0 l E T hG dX10_readWare_43 ?_
    refine rx_iadd hG dX10_readWare_46 ?_
    refine rx_lload_n hG dX10_readWare_47 0 rfl ?_
    obtain ⟨M4, hM4, hf⟩ := bindE hf
    refine rx_last hG (skM2 T) hM4 dX10_readWare_48 ?_
    refine rx_aload_n hG dX10_readWare_49 1 rfl ?_
    refine rx_dup hG dX10_readWare_50 rfl ?_
    refine gfM_M_172_0 l E T hG dX10_readWare_51 ?_
    refine rx_iconst hG 1 dX10_readWare_54 ic_1 ?_
    refine rx_iadd hG dX10_readWare_55 ?_
    obtain ⟨M5, hM5, hf⟩ := bindE hf
    refine pfM_M_172_0 l E T hG hM5 dX10_readWare_56 ?_
    cases hf
    exact rx_vret hG dX10_readWare_59
  · have hf := ifF hf c3
    cases hf
    exact rx_vret hG dX10_readWare_36
set_option maxHeartbeats 4000000 in
set_option maxRecDepth 100000 in
theorem Lj_M_readWare_0_15 (l : Launch) (E : En) (T : List Sk) {a0 b0 kc ks : Nat} {M' : Mm} {G : Nat → List (Nat × Value) → List Value → Mm → Prop} (hG : RX l (SKM ++ T) E RX10 cX10_readWare 3 none { frames := 8, cells := a0, slots := b0, locals := 172 } kc ks none M' G)  : ∀  (M : Mm), j_M_readWare_0_15  M = some M' → G 15 [(0, .ref (adr E 0))] [] M := by
  intro M hf
  unfold j_M_readWare_0_15 at hf
  refine rx_aload_n hG dX10_readWare_15 0 rfl ?_
  refine rx_iconst hG 4 dX10_readWare_16 ic_4 ?_
  obtain ⟨M1, hM1, hf⟩ := bindE hf
  refine rx_cVv hG (c_M_flaw_0 l E T 4 hM1) (skM0 T) rfl rfl kw_M_147 ⟨Nat.le_of_ble_eq_true rfl, Nat.le_of_ble_eq_true rfl⟩ rfl (Nat.le_of_ble_eq_true rfl) dX10_readWare_17 ?_
  exact Lj_M_readWare_0_20 l E T hG  M1 hf
set_option maxHeartbeats 4000000 in
set_option maxRecDepth 100000 in
theorem c_M_readWare_0 (l : Launch) (E : En) (T : List Sk)  {M M' : Mm} (h : f_M_readWare_0 M = some M') : Ct l (SKM ++ T) E yX10_readWare cX10_readWare 3 none 8 172 [.ref (adr E 0)] M none M' := by
  refine ct_of (by decide) (Nat.le_of_ble_eq_true rfl) ?_
  intro G hG
  show G 0 [(0, .ref (adr E 0))] [] M
  have hf := h
  unfold f_M_readWare_0 at hf
  refine rx_aload_n hG dX10_readWare_0 0 rfl ?_
  refine gfM_M_175_0 l E T hG dX10_readWare_1 ?_
  refine rx_if_gt hG 15 dX10_readWare_4 rfl (fun c1 => ?_) (fun c1 => ?_)
  · have hf := ifT hf c1
    exact Lj_M_readWare_0_15 l E T hG  M hf
  · have hf := ifF hf c1
    refine rx_aload_n hG dX10_readWare_7 0 rfl ?_
    refine gfM_M_172_0 l E T hG dX10_readWare_8 ?_
    refine rx_iconst hG 3 dX10_readWare_11 ic_3 ?_
    refine rx_icmp_ne hG 20 dX10_readWare_12 rfl (fun c2 => ?_) (fun c2 => ?_)
    · have hf := ifF hf c2
      exact Lj_M_readWare_0_20 l E T hG  M hf
    · have hf := ifT hf c2
      exact Lj_M_readWare_0_15 l E T hG  M hf
set_option maxHeartbeats 4000000 in
set_option maxRecDepth 100000 in
theorem c_M_readLine_0 (l : Launch) (E : En) (T : List Sk)  {M M' : Mm} (h : f_M_readLine_0 M = some M') : Ct l (SKM ++ T) E yX10_readLine cX10_readLine 1 none 9 198 [.ref (adr E 0)] M none M' := by
  refine ct_of (by decide) (Nat.le_of_ble_eq_true rfl) ?_
  intro G hG
  show G 0 [(0, .ref (adr E 0))] [] M
  have hf := h
  unfold f_M_readLine_0 at hf
  refine rx_aload_n hG dX10_readLine_0 0 rfl ?_
  refine rx_ldcS hG 1 rfl dX10_readLine_1 ?_
  obtain ⟨v1, hv1, hf⟩ := bindE hf
  refine rx_cVi hG (c_M_isWord_0 l E T 1 hv1) (skM0 T) rfl rfl kw_M_140 ⟨Nat.le_of_ble_eq_true rfl, Nat.le_of_ble_eq_true rfl⟩ rfl (Nat.le_of_ble_eq_true rfl) dX10_readLine_3 ?_
  refine rx_if_eq hG 16 dX10_readLine_6 rfl (fun c2 => ?_) (fun c2 => ?_)
  · have hf := ifT hf c2
    refine rx_aload_n hG dX10_readLine_16 0 rfl ?_
    refine rx_ldcS hG 2 rfl dX10_readLine_17 ?_
    obtain ⟨v3, hv3, hf⟩ := bindE hf
    refine rx_cVi hG (c_M_isWord_0 l E T 2 hv3) (skM0 T) rfl rfl kw_M_140 ⟨Nat.le_of_ble_eq_true rfl, Nat.le_of_ble_eq_true rfl⟩ rfl (Nat.le_of_ble_eq_true rfl) dX10_readLine_19 ?_
    refine rx_if_eq hG 32 dX10_readLine_22 rfl (fun c4 => ?_) (fun c4 => ?_)
    · have hf := ifT hf c4
      refine rx_aload_n hG dX10_readLine_32 0 rfl ?_
      refine rx_ldcS hG 6 rfl dX10_readLine_33 ?_
      obtain ⟨v5, hv5, hf⟩ := bindE hf
      refine rx_cVi hG (c_M_isWord_0 l E T 6 hv5) (skM0 T) rfl rfl kw_M_140 ⟨Nat.le_of_ble_eq_true rfl, Nat.le_of_ble_eq_true rfl⟩ rfl (Nat.le_of_ble_eq_true rfl) dX10_readLine_35 ?_
      refine rx_if_eq hG 48 dX10_readLine_38 rfl (fun c6 => ?_) (fun c6 => ?_)
      · have hf := ifT hf c6
        refine rx_aload_n hG dX10_readLine_48 0 rfl ?_
        refine rx_ldcS hG 7 rfl dX10_readLine_49 ?_
        obtain ⟨v7, hv7, hf⟩ := bindE hf
        refine rx_cVi hG (c_M_isWord_0 l E T 7 hv7) (skM0 T) rfl rfl kw_M_140 ⟨Nat.le_of_ble_eq_true rfl, Nat.le_of_ble_eq_true rfl⟩ rfl (Nat.le_of_ble_eq_true rfl) dX10_readLine_51 ?_
        refine rx_if_eq hG 64 dX10_readLine_54 rfl (fun c8 => ?_) (fun c8 => ?_)
        · have hf := ifT hf c8
          refine rx_aload_n hG dX10_readLine_64 0 rfl ?_
          refine rx_ldcS hG 9 rfl dX10_readLine_65 ?_
          obtain ⟨v9, hv9, hf⟩ := bindE hf
          refine rx_cVi hG (c_M_isWord_0 l E T 9 hv9) (skM0 T) rfl rfl kw_M_140 ⟨Nat.le_of_ble_eq_true rfl, Nat.le_of_ble_eq_true rfl⟩ rfl (Nat.le_of_ble_eq_true rfl) dX10_readLine_67 ?_
          refine rx_if_eq hG 80 dX10_readLine_70 rfl (fun c10 => ?_) (fun c10 => ?_)
          · have hf := ifT hf c10
            refine rx_aload_n hG dX10_readLine_80 0 rfl ?_
            refine rx_iconst hG 1 dX10_readLine_81 ic_1 ?_
            obtain ⟨M11, hM11, hf⟩ := bindE hf
            refine rx_cVv hG (c_M_flaw_0 l E T 1 hM11) (skM0 T) rfl rfl kw_M_147 ⟨Nat.le_of_ble_eq_true rfl, Nat.le_of_ble_eq_true rfl⟩ rfl (Nat.le_of_ble_eq_true rfl) dX10_readLine_82 ?_
            cases hf
            exact rx_vret hG dX10_readLine_85
          · have hf := ifF hf c10
            refine rx_aload_n hG dX10_readLine_73 0 rfl ?_
            obtain ⟨M12, hM12, hf⟩ := bindE hf
            refine rx_cVv hG (c_M_readRule_0 l E T  hM12) (skM0 T) rfl rfl kw_M_229 ⟨Nat.le_of_ble_eq_true rfl, Nat.le_of_ble_eq_true rfl⟩ rfl (Nat.le_of_ble_eq_true rfl) dX10_readLine_74 ?_
            refine rx_goto hG 85 dX10_readLine_77 rfl ?_
            cases hf
            exact rx_vret hG dX10_readLine_85
        · have hf := ifF hf c8
          refine rx_aload_n hG dX10_readLine_57 0 rfl ?_
          obtain ⟨M13, hM13, hf⟩ := bindE hf
          refine rx_cVv hG (c_M_readOrder_0 l E T  hM13) (skM0 T) rfl rfl kw_M_226 ⟨Nat.le_of_ble_eq_true rfl, Nat.le_of_ble_eq_true rfl⟩ rfl (Nat.le_of_ble_eq_true rfl) dX10_readLine_58 ?_
          refine rx_goto hG 85 dX10_readLine_61 rfl ?_
          cases hf
          exact rx_vret hG dX10_readLine_85
      · have hf := ifF hf c6
        refine rx_aload_n hG dX10_readLine_41 0 rfl ?_
        obtain ⟨M14, hM14, hf⟩ := bindE hf
        refine rx_cVv hG (c_M_readCards_0 l E T  hM14) (skM0 T) rfl rfl kw_M_223 ⟨Nat.le_of_ble_eq_true rfl, Nat.le_of_ble_eq_true rfl⟩ rfl (Nat.le_of_ble_eq_true rfl) dX10_readLine_42 ?_
        refine rx_goto hG 85 dX10_readLine_45 rfl ?_
        cases hf
        exact rx_vret hG dX10_readLine_85
    · have hf := ifF hf c4
      refine rx_aload_n hG dX10_readLine_25 0 rfl ?_
      obtain ⟨M15, hM15, hf⟩ := bindE hf
      refine rx_cVv hG (c_M_readBench_0 l E T  hM15) (skM0 T) rfl rfl kw_M_220 ⟨Nat.le_of_ble_eq_true rfl, Nat.le_of_ble_eq_true rfl⟩ rfl (Nat.le_of_ble_eq_true rfl) dX10_readLine_26 ?_
      refine rx_goto hG 85 dX10_readLine_29 rfl ?_
      cases hf
      exact rx_vret hG dX10_readLine_85
  · have hf := ifF hf c2
    refine rx_aload_n hG dX10_readLine_9 0 rfl ?_
    obtain ⟨M16, hM16, hf⟩ := bindE hf
    refine rx_cVv hG (c_M_readWare_0 l E T  hM16) (skM0 T) rfl rfl kw_M_217 ⟨Nat.le_of_ble_eq_true rfl, Nat.le_of_ble_eq_true rfl⟩ rfl (Nat.le_of_ble_eq_true rfl) dX10_readLine_10 ?_
    refine rx_goto hG 85 dX10_readLine_13 rfl ?_
    cases hf
    exact rx_vret hG dX10_readLine_85
set_option maxHeartbeats 4000000 in
set_option maxRecDepth 100000 in
theorem c_M_of (l : Launch) (E : En) (T : List Sk) (p0 : Int32) (p1 : Int32) {M : Mm} {r : Int32} (h : f_M_of p0 p1 = some r) : Ct l T E yX10_of cX10_of 2 (some .int) 0 0 [.int p0, .int p1] M (some (.int r)) M := by
  refine ct_of (by decide) (Nat.le_of_ble_eq_true rfl) ?_
  intro G hG
  show G 0 [(0, .int p0), (1, .int p1)] [] M
  have hf := h
  unfold f_M_of at hf
  refine rx_iconst hG 3 dX10_of_0 ic_3 ?_
  refine rx_bipush hG 9 dX10_of_1 bp_9 ?_
  refine rx_iload_n hG dX10_of_3 0 rfl ?_
  refine rx_imul hG dX10_of_4 ?_
  refine rx_iadd hG dX10_of_5 ?_
  refine rx_iload_n hG dX10_of_6 1 rfl ?_
  refine rx_iadd hG dX10_of_7 ?_
  cases hf
  exact rx_iret hG dX10_of_8
set_option maxHeartbeats 4000000 in
set_option maxRecDepth 100000 in
theorem Lblp_M_begins_0_15_45 (l : Launch) (E : En) (T : List Sk) {a0 b0 kc ks : Nat} {M' : Mm} {G : Nat → List (Nat × Value) → List Value → Mm → Prop} (hG : RX l (SKM ++ T) E RX10 cX10_begins 3 none { frames := 1, cells := a0, slots := b0, locals := 21 } kc ks none M' G) (rc45 : Int32 → Mm → Option Mm) (hrc45 : ∀ (x2 : Int32) (M : Mm), rc45 x2 M = some M' → G 45 [(1, .ref (adr E 15)), (2, .int x2)] [] M) : ∀ (x2 : Int32) (M : Mm), blp_M_begins_0_15_45 rc45 x2 M = some M' → G 45 [(1, .ref (adr E 15)), (2, .int x2)] [] M := by
  intro x2 M hf
  unfold blp_M_begins_0_15_45 at hf
  refine rx_iload_n hG dX10_begins_45 1 rfl ?_
  refine rx_bipush hG 6 dX10_begins_46 bp_6 ?_
  refine rx_icmp_ge hG 75 dX10_begins_48 rfl (fun c1 => ?_) (fun c1 => ?_)
  · have hf := ifT hf c1
    cases hf
    exact rx_vret hG dX10_begins_75
  · have hf := ifF hf c1
    refine rx_aload_n hG dX10_begins_51 0 rfl ?_
    refine rx_iload_n hG dX10_begins_52 1 rfl ?_
    refine rx_iconst hG 1 dX10_begins_53 ic_1 ?_
    obtain ⟨v2, hv2, hf⟩ := bindE hf
    refine rx_cSi hG (c_M_of l E (SKM ++ T) x2 1 hv2) kw_M_264 ⟨Nat.le_of_ble_eq_true rfl, Nat.le_of_ble_eq_true rfl⟩ rfl (Nat.le_of_ble_eq_true rfl) dX10_begins_54 ?_
    refine rx_bipush hG (-2) dX10_begins_57 bp_m2 ?_
    obtain ⟨M3, hM3, hf⟩ := bindE hf
    refine rx_iast hG (skM15 T) hM3 dX10_begins_59 ?_
    refine rx_aload_n hG dX10_begins_60 0 rfl ?_
    refine rx_iload_n hG dX10_begins_61 1 rfl ?_
    refine rx_iconst hG 3 dX10_begins_62 ic_3 ?_
    obtain ⟨v4, hv4, hf⟩ := bindE hf
    refine rx_cSi hG (c_M_of l E (SKM ++ T) x2 3 hv4) kw_M_264 ⟨Nat.le_of_ble_eq_true rfl, Nat.le_of_ble_eq_true rfl⟩ rfl (Nat.le_of_ble_eq_true rfl) dX10_begins_63 ?_
    refine rx_bipush hG (-2) dX10_begins_66 bp_m2 ?_
    obtain ⟨M5, hM5, hf⟩ := bindE hf
    refine rx_iast hG (skM15 T) hM5 dX10_begins_68 ?_
    refine rx_iinc (lv2 := [(2, .int (x2 + 1)), (1, .ref (adr E 15))]) hG 1 dX10_begins_69 ic_1 1 rfl (Nat.le_of_ble_eq_true rfl) rfl ?_
    refine rx_goto hG 45 dX10_begins_72 rfl ?_
    refine rx_sub hG [1, 0] (lv' := [(1, .ref (adr E 15)), (2, .int (x2 + 1))]) rfl ?_
    exact hrc45 (x2 + 1) M5 hf
theorem Llp_M_begins_0_15_45 (l : Launch) (E : En) (T : List Sk) {a0 b0 kc ks : Nat} {M' : Mm} {G : Nat → List (Nat × Value) → List Value → Mm → Prop} (hG : RX l (SKM ++ T) E RX10 cX10_begins 3 none { frames := 1, cells := a0, slots := b0, locals := 21 } kc ks none M' G)  : ∀ (n : Nat) (x2 : Int32) (M : Mm), lp_M_begins_0_15_45  n x2 M = some M' → G 45 [(1, .ref (adr E 15)), (2, .int x2)] [] M := by
  intro n
  induction n with
  | zero => intro x2 M hf; cases hf
  | succ n ih => intro x2 M hf; exact Lblp_M_begins_0_15_45 l E T hG  (lp_M_begins_0_15_45  n) ih x2 M hf
set_option maxHeartbeats 4000000 in
set_option maxRecDepth 100000 in
theorem Lj_M_begins_0_15_43 (l : Launch) (E : En) (T : List Sk) {a0 b0 kc ks : Nat} {M' : Mm} {G : Nat → List (Nat × Value) → List Value → Mm → Prop} (hG : RX l (SKM ++ T) E RX10 cX10_begins 3 none { frames := 1, cells := a0, slots := b0, locals := 21 } kc ks none M' G)  : ∀  (M : Mm), j_M_begins_0_15_43  M = some M' → G 43 [(1, .ref (adr E 15))] [] M := by
  intro M hf
  unfold j_M_begins_0_15_43 at hf
  refine rx_iconst hG 0 dX10_begins_43 ic_0 ?_
  refine rx_istore_n (lv2 := [(2, .int 0), (1, .ref (adr E 15))]) hG dX10_begins_44 (Nat.le_of_ble_eq_true rfl) rfl ?_
  refine rx_sub hG [1, 0] (lv' := [(1, .ref (adr E 15)), (2, .int 0)]) rfl ?_
  exact Llp_M_begins_0_15_45 l E T hG  FW 0 M hf
set_option maxHeartbeats 4000000 in
set_option maxRecDepth 100000 in
theorem Lblp_M_begins_0_15_24 (l : Launch) (E : En) (T : List Sk) {a0 b0 kc ks : Nat} {M' : Mm} {G : Nat → List (Nat × Value) → List Value → Mm → Prop} (hG : RX l (SKM ++ T) E RX10 cX10_begins 3 none { frames := 1, cells := a0, slots := b0, locals := 21 } kc ks none M' G) (rc24 : Int32 → Mm → Option Mm) (hrc24 : ∀ (x2 : Int32) (M : Mm), rc24 x2 M = some M' → G 24 [(1, .ref (adr E 15)), (2, .int x2)] [] M) : ∀ (x2 : Int32) (M : Mm), blp_M_begins_0_15_24 rc24 x2 M = some M' → G 24 [(1, .ref (adr E 15)), (2, .int x2)] [] M := by
  intro x2 M hf
  unfold blp_M_begins_0_15_24 at hf
  refine rx_iload_n hG dX10_begins_24 1 rfl ?_
  refine rx_iconst hG 3 dX10_begins_25 ic_3 ?_
  refine rx_icmp_ge hG 43 dX10_begins_26 rfl (fun c1 => ?_) (fun c1 => ?_)
  · have hf := ifT hf c1
    refine rx_sub hG [0] (lv' := [(1, .ref (adr E 15))]) rfl ?_
    exact Lj_M_begins_0_15_43 l E T hG  M hf
  · have hf := ifF hf c1
    refine rx_aload_n hG dX10_begins_29 0 rfl ?_
    refine rx_bipush hG 96 dX10_begins_30 bp_96 ?_
    refine rx_iload_n hG dX10_begins_32 1 rfl ?_
    refine rx_iadd hG dX10_begins_33 ?_
    refine rx_bipush hG (-2) dX10_begins_34 bp_m2 ?_
    obtain ⟨M2, hM2, hf⟩ := bindE hf
    refine rx_iast hG (skM15 T) hM2 dX10_begins_36 ?_
    refine rx_iinc (lv2 := [(2, .int (x2 + 1)), (1, .ref (adr E 15))]) hG 1 dX10_begins_37 ic_1 1 rfl (Nat.le_of_ble_eq_true rfl) rfl ?_
    refine rx_goto hG 24 dX10_begins_40 rfl ?_
    refine rx_sub hG [1, 0] (lv' := [(1, .ref (adr E 15)), (2, .int (x2 + 1))]) rfl ?_
    exact hrc24 (x2 + 1) M2 hf
theorem Llp_M_begins_0_15_24 (l : Launch) (E : En) (T : List Sk) {a0 b0 kc ks : Nat} {M' : Mm} {G : Nat → List (Nat × Value) → List Value → Mm → Prop} (hG : RX l (SKM ++ T) E RX10 cX10_begins 3 none { frames := 1, cells := a0, slots := b0, locals := 21 } kc ks none M' G)  : ∀ (n : Nat) (x2 : Int32) (M : Mm), lp_M_begins_0_15_24  n x2 M = some M' → G 24 [(1, .ref (adr E 15)), (2, .int x2)] [] M := by
  intro n
  induction n with
  | zero => intro x2 M hf; cases hf
  | succ n ih => intro x2 M hf; exact Lblp_M_begins_0_15_24 l E T hG  (lp_M_begins_0_15_24  n) ih x2 M hf
set_option maxHeartbeats 4000000 in
set_option maxRecDepth 100000 in
theorem Lj_M_begins_0_15_18 (l : Launch) (E : En) (T : List Sk) {a0 b0 kc ks : Nat} {M' : Mm} {G : Nat → List (Nat × Value) → List Value → Mm → Prop} (hG : RX l (SKM ++ T) E RX10 cX10_begins 3 none { frames := 1, cells := a0, slots := b0, locals := 21 } kc ks none M' G)  : ∀  (M : Mm), j_M_begins_0_15_18  M = some M' → G 18 [(1, .ref (adr E 15))] [] M := by
  intro M hf
  unfold j_M_begins_0_15_18 at hf
  refine rx_aload_n hG dX10_begins_18 0 rfl ?_
  refine rx_iconst hG 1 dX10_begins_19 ic_1 ?_
  refine rx_iconst hG (-1) dX10_begins_20 ic_m1 ?_
  obtain ⟨M1, hM1, hf⟩ := bindE hf
  refine rx_iast hG (skM15 T) hM1 dX10_begins_21 ?_
  refine rx_iconst hG 0 dX10_begins_22 ic_0 ?_
  refine rx_istore_n (lv2 := [(2, .int 0), (1, .ref (adr E 15))]) hG dX10_begins_23 (Nat.le_of_ble_eq_true rfl) rfl ?_
  refine rx_sub hG [1, 0] (lv' := [(1, .ref (adr E 15)), (2, .int 0)]) rfl ?_
  exact Llp_M_begins_0_15_24 l E T hG  FW 0 M1 hf
set_option maxHeartbeats 4000000 in
set_option maxRecDepth 100000 in
theorem Lblp_M_begins_0_15_2 (l : Launch) (E : En) (T : List Sk) {a0 b0 kc ks : Nat} {M' : Mm} {G : Nat → List (Nat × Value) → List Value → Mm → Prop} (hG : RX l (SKM ++ T) E RX10 cX10_begins 3 none { frames := 1, cells := a0, slots := b0, locals := 21 } kc ks none M' G) (rc2 : Int32 → Mm → Option Mm) (hrc2 : ∀ (x2 : Int32) (M : Mm), rc2 x2 M = some M' → G 2 [(1, .ref (adr E 15)), (2, .int x2)] [] M) : ∀ (x2 : Int32) (M : Mm), blp_M_begins_0_15_2 rc2 x2 M = some M' → G 2 [(1, .ref (adr E 15)), (2, .int x2)] [] M := by
  intro x2 M hf
  unfold blp_M_begins_0_15_2 at hf
  refine rx_iload_n hG dX10_begins_2 1 rfl ?_
  refine rx_bipush hG 99 dX10_begins_3 bp_99 ?_
  refine rx_icmp_ge hG 18 dX10_begins_5 rfl (fun c1 => ?_) (fun c1 => ?_)
  · have hf := ifT hf c1
    refine rx_sub hG [0] (lv' := [(1, .ref (adr E 15))]) rfl ?_
    exact Lj_M_begins_0_15_18 l E T hG  M hf
  · have hf := ifF hf c1
    refine rx_aload_n hG dX10_begins_8 0 rfl ?_
    refine rx_iload_n hG dX10_begins_9 1 rfl ?_
    refine rx_iconst hG 0 dX10_begins_10 ic_0 ?_
    obtain ⟨M2, hM2, hf⟩ := bindE hf
    refine rx_iast hG (skM15 T) hM2 dX10_begins_11 ?_
    refine rx_iinc (lv2 := [(2, .int (x2 + 1)), (1, .ref (adr E 15))]) hG 1 dX10_begins_12 ic_1 1 rfl (Nat.le_of_ble_eq_true rfl) rfl ?_
    refine rx_goto hG 2 dX10_begins_15 rfl ?_
    refine rx_sub hG [1, 0] (lv' := [(1, .ref (adr E 15)), (2, .int (x2 + 1))]) rfl ?_
    exact hrc2 (x2 + 1) M2 hf
theorem Llp_M_begins_0_15_2 (l : Launch) (E : En) (T : List Sk) {a0 b0 kc ks : Nat} {M' : Mm} {G : Nat → List (Nat × Value) → List Value → Mm → Prop} (hG : RX l (SKM ++ T) E RX10 cX10_begins 3 none { frames := 1, cells := a0, slots := b0, locals := 21 } kc ks none M' G)  : ∀ (n : Nat) (x2 : Int32) (M : Mm), lp_M_begins_0_15_2  n x2 M = some M' → G 2 [(1, .ref (adr E 15)), (2, .int x2)] [] M := by
  intro n
  induction n with
  | zero => intro x2 M hf; cases hf
  | succ n ih => intro x2 M hf; exact Lblp_M_begins_0_15_2 l E T hG  (lp_M_begins_0_15_2  n) ih x2 M hf
set_option maxHeartbeats 4000000 in
set_option maxRecDepth 100000 in
theorem c_M_begins_0_15 (l : Launch) (E : En) (T : List Sk)  {M M' : Mm} (h : f_M_begins_0_15 M = some M') : Ct l (SKM ++ T) E yX10_begins cX10_begins 3 none 1 21 [.ref (adr E 0), .ref (adr E 15)] M none M' := by
  refine ct_of (by decide) (Nat.le_of_ble_eq_true rfl) ?_
  intro G hG
  show G 0 [(0, .ref (adr E 0)), (1, .ref (adr E 15))] [] M
  have hf := h
  unfold f_M_begins_0_15 at hf
  refine rx_iconst hG 0 dX10_begins_0 ic_0 ?_
  refine rx_istore_n (lv2 := [(2, .int 0), (0, .ref (adr E 0)), (1, .ref (adr E 15))]) hG dX10_begins_1 (Nat.le_of_ble_eq_true rfl) rfl ?_
  refine rx_sub hG [2, 0] (lv' := [(1, .ref (adr E 15)), (2, .int 0)]) rfl ?_
  exact Llp_M_begins_0_15_2 l E T hG  FW 0 M hf
set_option maxHeartbeats 4000000 in
set_option maxRecDepth 100000 in
theorem Lj_M_becomes_0_206 (l : Launch) (E : En) (T : List Sk) {a0 b0 kc ks : Nat} {M' : Mm} {G : Nat → List (Nat × Value) → List Value → Mm → Prop} (hG : RX l (SKM ++ T) E RX10 cX10_becomes 2 none { frames := 2, cells := a0, slots := b0, locals := 43 } kc ks none M' G)  : ∀  (M : Mm), j_M_becomes_0_206  M = some M' → G 206 [(0, .ref (adr E 0))] [] M := by
  intro M hf
  unfold j_M_becomes_0_206 at hf
  refine rx_aload_n hG dX10_becomes_206 0 rfl ?_
  refine rx_iconst hG 0 dX10_becomes_207 ic_0 ?_
  obtain ⟨M1, hM1, hf⟩ := bindE hf
  refine pfM_M_254_0 l E T hG hM1 dX10_becomes_208 ?_
  refine rx_aload_n hG dX10_becomes_211 0 rfl ?_
  refine gfM_M_66_0 l E T hG dX10_becomes_212 ?_
  refine rx_iconst hG 0 dX10_becomes_215 ic_0 ?_
  refine rx_iconst hG 0 dX10_becomes_216 ic_0 ?_
  obtain ⟨M2, hM2, hf⟩ := bindE hf
  refine rx_zast hG (skM18 T) hM2 dX10_becomes_217 ?_
  refine rx_aload_n hG dX10_becomes_218 0 rfl ?_
  refine gfM_M_66_0 l E T hG dX10_becomes_219 ?_
  refine rx_iconst hG 1 dX10_becomes_222 ic_1 ?_
  refine rx_iconst hG 0 dX10_becomes_223 ic_0 ?_
  obtain ⟨M3, hM3, hf⟩ := bindE hf
  refine rx_zast hG (skM18 T) hM3 dX10_becomes_224 ?_
  refine rx_aload_n hG dX10_becomes_225 0 rfl ?_
  refine rx_iconst hG 1 dX10_becomes_226 ic_1 ?_
  obtain ⟨M4, hM4, hf⟩ := bindE hf
  refine pfM_M_257_0 l E T hG hM4 (Or.inr rfl) dX10_becomes_227 ?_
  refine rx_aload_n hG dX10_becomes_230 0 rfl ?_
  refine rx_aload_n hG dX10_becomes_231 0 rfl ?_
  refine gfM_M_57_0 l E T hG dX10_becomes_232 ?_
  obtain ⟨M5, hM5, hf⟩ := bindE hf
  refine rx_cVv hG (c_M_begins_0_15 l E T  hM5) (skM0 T) rfl rfl kw_M_260 ⟨Nat.le_of_ble_eq_true rfl, Nat.le_of_ble_eq_true rfl⟩ rfl (Nat.le_of_ble_eq_true rfl) dX10_becomes_235 ?_
  cases hf
  exact rx_vret hG dX10_becomes_238
set_option maxHeartbeats 4000000 in
set_option maxRecDepth 100000 in
theorem Lblp_M_becomes_0_182 (l : Launch) (E : En) (T : List Sk) {a0 b0 kc ks : Nat} {M' : Mm} {G : Nat → List (Nat × Value) → List Value → Mm → Prop} (hG : RX l (SKM ++ T) E RX10 cX10_becomes 2 none { frames := 2, cells := a0, slots := b0, locals := 43 } kc ks none M' G) (rc182 : Int32 → Mm → Option Mm) (hrc182 : ∀ (x1 : Int32) (M : Mm), rc182 x1 M = some M' → G 182 [(0, .ref (adr E 0)), (1, .int x1)] [] M) : ∀ (x1 : Int32) (M : Mm), blp_M_becomes_0_182 rc182 x1 M = some M' → G 182 [(0, .ref (adr E 0)), (1, .int x1)] [] M := by
  intro x1 M hf
  unfold blp_M_becomes_0_182 at hf
  refine rx_iload_n hG dX10_becomes_182 1 rfl ?_
  refine rx_bipush hG 37 dX10_becomes_183 bp_37 ?_
  refine rx_icmp_ge hG 206 dX10_becomes_185 rfl (fun c1 => ?_) (fun c1 => ?_)
  · have hf := ifT hf c1
    refine rx_sub hG [0] (lv' := [(0, .ref (adr E 0))]) rfl ?_
    exact Lj_M_becomes_0_206 l E T hG  M hf
  · have hf := ifF hf c1
    refine rx_aload_n hG dX10_becomes_188 0 rfl ?_
    refine gfM_M_42_0 l E T hG dX10_becomes_189 ?_
    refine rx_iload_n hG dX10_becomes_192 1 rfl ?_
    refine rx_aload_n hG dX10_becomes_193 0 rfl ?_
    refine gfM_M_45_0 l E T hG dX10_becomes_194 ?_
    refine rx_iload_n hG dX10_becomes_197 1 rfl ?_
    obtain ⟨v2, hv2, hf⟩ := bindE hf
    refine rx_iald hG (skM11 T) hv2 dX10_becomes_198 ?_
    obtain ⟨M3, hM3, hf⟩ := bindE hf
    refine rx_iast hG (skM10 T) hM3 dX10_becomes_199 ?_
    refine rx_iinc (lv2 := [(1, .int (x1 + 1)), (0, .ref (adr E 0))]) hG 1 dX10_becomes_200 ic_1 1 rfl (Nat.le_of_ble_eq_true rfl) rfl ?_
    refine rx_goto hG 182 dX10_becomes_203 rfl ?_
    refine rx_sub hG [1, 0] (lv' := [(0, .ref (adr E 0)), (1, .int (x1 + 1))]) rfl ?_
    exact hrc182 (x1 + 1) M3 hf
theorem Llp_M_becomes_0_182 (l : Launch) (E : En) (T : List Sk) {a0 b0 kc ks : Nat} {M' : Mm} {G : Nat → List (Nat × Value) → List Value → Mm → Prop} (hG : RX l (SKM ++ T) E RX10 cX10_becomes 2 none { frames := 2, cells := a0, slots := b0, locals := 43 } kc ks none M' G)  : ∀ (n : Nat) (x1 : Int32) (M : Mm), lp_M_becomes_0_182  n x1 M = some M' → G 182 [(0, .ref (adr E 0)), (1, .int x1)] [] M := by
  intro n
  induction n with
  | zero => intro x1 M hf; cases hf
  | succ n ih => intro x1 M hf; exact Lblp_M_becomes_0_182 l E T hG  (lp_M_becomes_0_182  n) ih x1 M hf
set_option maxHeartbeats 4000000 in
set_option maxRecDepth 100000 in
theorem Lj_M_becomes_0_180 (l : Launch) (E : En) (T : List Sk) {a0 b0 kc ks : Nat} {M' : Mm} {G : Nat → List (Nat × Value) → List Value → Mm → Prop} (hG : RX l (SKM ++ T) E RX10 cX10_becomes 2 none { frames := 2, cells := a0, slots := b0, locals := 43 } kc ks none M' G)  : ∀  (M : Mm), j_M_becomes_0_180  M = some M' → G 180 [(0, .ref (adr E 0))] [] M := by
  intro M hf
  unfold j_M_becomes_0_180 at hf
  refine rx_iconst hG 0 dX10_becomes_180 ic_0 ?_
  refine rx_istore_n (lv2 := [(1, .int 0), (0, .ref (adr E 0))]) hG dX10_becomes_181 (Nat.le_of_ble_eq_true rfl) rfl ?_
  refine rx_sub hG [1, 0] (lv' := [(0, .ref (adr E 0)), (1, .int 0)]) rfl ?_
  exact Llp_M_becomes_0_182 l E T hG  FW 0 M hf
set_option maxHeartbeats 4000000 in
set_option maxRecDepth 100000 in
theorem Lblp_M_becomes_0_127 (l : Launch) (E : En) (T : List Sk) {a0 b0 kc ks : Nat} {M' : Mm} {G : Nat → List (Nat × Value) → List Value → Mm → Prop} (hG : RX l (SKM ++ T) E RX10 cX10_becomes 2 none { frames := 2, cells := a0, slots := b0, locals := 43 } kc ks none M' G) (rc127 : Int32 → Mm → Option Mm) (hrc127 : ∀ (x1 : Int32) (M : Mm), rc127 x1 M = some M' → G 127 [(0, .ref (adr E 0)), (1, .int x1)] [] M) : ∀ (x1 : Int32) (M : Mm), blp_M_becomes_0_127 rc127 x1 M = some M' → G 127 [(0, .ref (adr E 0)), (1, .int x1)] [] M := by
  intro x1 M hf
  unfold blp_M_becomes_0_127 at hf
  refine rx_iload_n hG dX10_becomes_127 1 rfl ?_
  refine rx_iconst hG 4 dX10_becomes_128 ic_4 ?_
  refine rx_icmp_ge hG 180 dX10_becomes_129 rfl (fun c1 => ?_) (fun c1 => ?_)
  · have hf := ifT hf c1
    refine rx_sub hG [0] (lv' := [(0, .ref (adr E 0))]) rfl ?_
    exact Lj_M_becomes_0_180 l E T hG  M hf
  · have hf := ifF hf c1
    refine rx_aload_n hG dX10_becomes_132 0 rfl ?_
    refine gfM_M_33_0 l E T hG dX10_becomes_133 ?_
    refine rx_iload_n hG dX10_becomes_136 1 rfl ?_
    refine rx_aload_n hG dX10_becomes_137 0 rfl ?_
    refine gfM_M_33_0 l E T hG dX10_becomes_138 ?_
    refine rx_iconst hG 4 dX10_becomes_141 ic_4 ?_
    refine rx_iload_n hG dX10_becomes_142 1 rfl ?_
    refine rx_iadd hG dX10_becomes_143 ?_
    obtain ⟨v2, hv2, hf⟩ := bindE hf
    refine rx_iald hG (skM7 T) hv2 dX10_becomes_144 ?_
    obtain ⟨M3, hM3, hf⟩ := bindE hf
    refine rx_iast hG (skM7 T) hM3 dX10_becomes_145 ?_
    refine rx_aload_n hG dX10_becomes_146 0 rfl ?_
    refine gfM_M_36_0 l E T hG dX10_becomes_147 ?_
    refine rx_iload_n hG dX10_becomes_150 1 rfl ?_
    refine rx_aload_n hG dX10_becomes_151 0 rfl ?_
    refine gfM_M_36_0 l E T hG dX10_becomes_152 ?_
    refine rx_iconst hG 4 dX10_becomes_155 ic_4 ?_
    refine rx_iload_n hG dX10_becomes_156 1 rfl ?_
    refine rx_iadd hG dX10_becomes_157 ?_
    obtain ⟨v4, hv4, hf⟩ := bindE hf
    refine rx_iald hG (skM8 T) hv4 dX10_becomes_158 ?_
    obtain ⟨M5, hM5, hf⟩ := bindE hf
    refine rx_iast hG (skM8 T) hM5 dX10_becomes_159 ?_
    refine rx_aload_n hG dX10_becomes_160 0 rfl ?_
    refine gfM_M_39_0 l E T hG dX10_becomes_161 ?_
    refine rx_iload_n hG dX10_becomes_164 1 rfl ?_
    refine rx_aload_n hG dX10_becomes_165 0 rfl ?_
    refine gfM_M_39_0 l E T hG dX10_becomes_166 ?_
    refine rx_iconst hG 4 dX10_becomes_169 ic_4 ?_
    refine rx_iload_n hG dX10_becomes_170 1 rfl ?_
    refine rx_iadd hG dX10_becomes_171 ?_
    obtain ⟨v6, hv6, hf⟩ := bindE hf
    refine rx_iald hG (skM9 T) hv6 dX10_becomes_172 ?_
    obtain ⟨M7, hM7, hf⟩ := bindE hf
    refine rx_iast hG (skM9 T) hM7 dX10_becomes_173 ?_
    refine rx_iinc (lv2 := [(1, .int (x1 + 1)), (0, .ref (adr E 0))]) hG 1 dX10_becomes_174 ic_1 1 rfl (Nat.le_of_ble_eq_true rfl) rfl ?_
    refine rx_goto hG 127 dX10_becomes_177 rfl ?_
    refine rx_sub hG [1, 0] (lv' := [(0, .ref (adr E 0)), (1, .int (x1 + 1))]) rfl ?_
    exact hrc127 (x1 + 1) M7 hf
theorem Llp_M_becomes_0_127 (l : Launch) (E : En) (T : List Sk) {a0 b0 kc ks : Nat} {M' : Mm} {G : Nat → List (Nat × Value) → List Value → Mm → Prop} (hG : RX l (SKM ++ T) E RX10 cX10_becomes 2 none { frames := 2, cells := a0, slots := b0, locals := 43 } kc ks none M' G)  : ∀ (n : Nat) (x1 : Int32) (M : Mm), lp_M_becomes_0_127  n x1 M = some M' → G 127 [(0, .ref (adr E 0)), (1, .int x1)] [] M := by
  intro n
  induction n with
  | zero => intro x1 M hf; cases hf
  | succ n ih => intro x1 M hf; exact Lblp_M_becomes_0_127 l E T hG  (lp_M_becomes_0_127  n) ih x1 M hf
set_option maxHeartbeats 4000000 in
set_option maxRecDepth 100000 in
theorem Lj_M_becomes_0_125 (l : Launch) (E : En) (T : List Sk) {a0 b0 kc ks : Nat} {M' : Mm} {G : Nat → List (Nat × Value) → List Value → Mm → Prop} (hG : RX l (SKM ++ T) E RX10 cX10_becomes 2 none { frames := 2, cells := a0, slots := b0, locals := 43 } kc ks none M' G)  : ∀  (M : Mm), j_M_becomes_0_125  M = some M' → G 125 [(0, .ref (adr E 0))] [] M := by
  intro M hf
  unfold j_M_becomes_0_125 at hf
  refine rx_iconst hG 0 dX10_becomes_125 ic_0 ?_
  refine rx_istore_n (lv2 := [(1, .int 0), (0, .ref (adr E 0))]) hG dX10_becomes_126 (Nat.le_of_ble_eq_true rfl) rfl ?_
  refine rx_sub hG [1, 0] (lv' := [(0, .ref (adr E 0)), (1, .int 0)]) rfl ?_
  exact Llp_M_becomes_0_127 l E T hG  FW 0 M hf
set_option maxHeartbeats 4000000 in
set_option maxRecDepth 100000 in
theorem Lblp_M_becomes_0_53 (l : Launch) (E : En) (T : List Sk) {a0 b0 kc ks : Nat} {M' : Mm} {G : Nat → List (Nat × Value) → List Value → Mm → Prop} (hG : RX l (SKM ++ T) E RX10 cX10_becomes 2 none { frames := 2, cells := a0, slots := b0, locals := 43 } kc ks none M' G) (rc53 : Int32 → Mm → Option Mm) (hrc53 : ∀ (x1 : Int32) (M : Mm), rc53 x1 M = some M' → G 53 [(0, .ref (adr E 0)), (1, .int x1)] [] M) : ∀ (x1 : Int32) (M : Mm), blp_M_becomes_0_53 rc53 x1 M = some M' → G 53 [(0, .ref (adr E 0)), (1, .int x1)] [] M := by
  intro x1 M hf
  unfold blp_M_becomes_0_53 at hf
  refine rx_iload_n hG dX10_becomes_53 1 rfl ?_
  refine rx_bipush hG 6 dX10_becomes_54 bp_6 ?_
  refine rx_icmp_ge hG 125 dX10_becomes_56 rfl (fun c1 => ?_) (fun c1 => ?_)
  · have hf := ifT hf c1
    refine rx_sub hG [0] (lv' := [(0, .ref (adr E 0))]) rfl ?_
    exact Lj_M_becomes_0_125 l E T hG  M hf
  · have hf := ifF hf c1
    refine rx_aload_n hG dX10_becomes_59 0 rfl ?_
    refine gfM_M_21_0 l E T hG dX10_becomes_60 ?_
    refine rx_iload_n hG dX10_becomes_63 1 rfl ?_
    refine rx_aload_n hG dX10_becomes_64 0 rfl ?_
    refine gfM_M_21_0 l E T hG dX10_becomes_65 ?_
    refine rx_bipush hG 6 dX10_becomes_68 bp_6 ?_
    refine rx_iload_n hG dX10_becomes_70 1 rfl ?_
    refine rx_iadd hG dX10_becomes_71 ?_
    obtain ⟨w2, hw2, hf⟩ := bindE hf
    refine rx_lald hG (skM3 T) hw2 dX10_becomes_72 ?_
    obtain ⟨M3, hM3, hf⟩ := bindE hf
    refine rx_last hG (skM3 T) hM3 dX10_becomes_73 ?_
    refine rx_aload_n hG dX10_becomes_74 0 rfl ?_
    refine gfM_M_24_0 l E T hG dX10_becomes_75 ?_
    refine rx_iload_n hG dX10_becomes_78 1 rfl ?_
    refine rx_aload_n hG dX10_becomes_79 0 rfl ?_
    refine gfM_M_24_0 l E T hG dX10_becomes_80 ?_
    refine rx_bipush hG 6 dX10_becomes_83 bp_6 ?_
    refine rx_iload_n hG dX10_becomes_85 1 rfl ?_
    refine rx_iadd hG dX10_becomes_86 ?_
    obtain ⟨v4, hv4, hf⟩ := bindE hf
    refine rx_iald hG (skM4 T) hv4 dX10_becomes_87 ?_
    obtain ⟨M5, hM5, hf⟩ := bindE hf
    refine rx_iast hG (skM4 T) hM5 dX10_becomes_88 ?_
    refine rx_aload_n hG dX10_becomes_89 0 rfl ?_
    refine gfM_M_27_0 l E T hG dX10_becomes_90 ?_
    refine rx_iload_n hG dX10_becomes_93 1 rfl ?_
    refine rx_aload_n hG dX10_becomes_94 0 rfl ?_
    refine gfM_M_27_0 l E T hG dX10_becomes_95 ?_
    refine rx_bipush hG 6 dX10_becomes_98 bp_6 ?_
    refine rx_iload_n hG dX10_becomes_100 1 rfl ?_
    refine rx_iadd hG dX10_becomes_101 ?_
    obtain ⟨v6, hv6, hf⟩ := bindE hf
    refine rx_iald hG (skM5 T) hv6 dX10_becomes_102 ?_
    obtain ⟨M7, hM7, hf⟩ := bindE hf
    refine rx_iast hG (skM5 T) hM7 dX10_becomes_103 ?_
    refine rx_aload_n hG dX10_becomes_104 0 rfl ?_
    refine gfM_M_30_0 l E T hG dX10_becomes_105 ?_
    refine rx_iload_n hG dX10_becomes_108 1 rfl ?_
    refine rx_aload_n hG dX10_becomes_109 0 rfl ?_
    refine gfM_M_30_0 l E T hG dX10_becomes_110 ?_
    refine rx_bipush hG 6 dX10_becomes_113 bp_6 ?_
    refine rx_iload_n hG dX10_becomes_115 1 rfl ?_
    refine rx_iadd hG dX10_becomes_116 ?_
    obtain ⟨v8, hv8, hf⟩ := bindE hf
    refine rx_iald hG (skM6 T) hv8 dX10_becomes_117 ?_
    obtain ⟨M9, hM9, hf⟩ := bindE hf
    refine rx_iast hG (skM6 T) hM9 dX10_becomes_118 ?_
    refine rx_iinc (lv2 := [(1, .int (x1 + 1)), (0, .ref (adr E 0))]) hG 1 dX10_becomes_119 ic_1 1 rfl (Nat.le_of_ble_eq_true rfl) rfl ?_
    refine rx_goto hG 53 dX10_becomes_122 rfl ?_
    refine rx_sub hG [1, 0] (lv' := [(0, .ref (adr E 0)), (1, .int (x1 + 1))]) rfl ?_
    exact hrc53 (x1 + 1) M9 hf
theorem Llp_M_becomes_0_53 (l : Launch) (E : En) (T : List Sk) {a0 b0 kc ks : Nat} {M' : Mm} {G : Nat → List (Nat × Value) → List Value → Mm → Prop} (hG : RX l (SKM ++ T) E RX10 cX10_becomes 2 none { frames := 2, cells := a0, slots := b0, locals := 43 } kc ks none M' G)  : ∀ (n : Nat) (x1 : Int32) (M : Mm), lp_M_becomes_0_53  n x1 M = some M' → G 53 [(0, .ref (adr E 0)), (1, .int x1)] [] M := by
  intro n
  induction n with
  | zero => intro x1 M hf; cases hf
  | succ n ih => intro x1 M hf; exact Lblp_M_becomes_0_53 l E T hG  (lp_M_becomes_0_53  n) ih x1 M hf
set_option maxHeartbeats 4000000 in
set_option maxRecDepth 100000 in
theorem Lj_M_becomes_0_51 (l : Launch) (E : En) (T : List Sk) {a0 b0 kc ks : Nat} {M' : Mm} {G : Nat → List (Nat × Value) → List Value → Mm → Prop} (hG : RX l (SKM ++ T) E RX10 cX10_becomes 2 none { frames := 2, cells := a0, slots := b0, locals := 43 } kc ks none M' G)  : ∀  (M : Mm), j_M_becomes_0_51  M = some M' → G 51 [(0, .ref (adr E 0))] [] M := by
  intro M hf
  unfold j_M_becomes_0_51 at hf
  refine rx_iconst hG 0 dX10_becomes_51 ic_0 ?_
  refine rx_istore_n (lv2 := [(1, .int 0), (0, .ref (adr E 0))]) hG dX10_becomes_52 (Nat.le_of_ble_eq_true rfl) rfl ?_
  refine rx_sub hG [1, 0] (lv' := [(0, .ref (adr E 0)), (1, .int 0)]) rfl ?_
  exact Llp_M_becomes_0_53 l E T hG  FW 0 M hf
set_option maxHeartbeats 4000000 in
set_option maxRecDepth 100000 in
theorem Lblp_M_becomes_0_26 (l : Launch) (E : En) (T : List Sk) {a0 b0 kc ks : Nat} {M' : Mm} {G : Nat → List (Nat × Value) → List Value → Mm → Prop} (hG : RX l (SKM ++ T) E RX10 cX10_becomes 2 none { frames := 2, cells := a0, slots := b0, locals := 43 } kc ks none M' G) (rc26 : Int32 → Mm → Option Mm) (hrc26 : ∀ (x1 : Int32) (M : Mm), rc26 x1 M = some M' → G 26 [(0, .ref (adr E 0)), (1, .int x1)] [] M) : ∀ (x1 : Int32) (M : Mm), blp_M_becomes_0_26 rc26 x1 M = some M' → G 26 [(0, .ref (adr E 0)), (1, .int x1)] [] M := by
  intro x1 M hf
  unfold blp_M_becomes_0_26 at hf
  refine rx_iload_n hG dX10_becomes_26 1 rfl ?_
  refine rx_iconst hG 3 dX10_becomes_27 ic_3 ?_
  refine rx_icmp_ge hG 51 dX10_becomes_28 rfl (fun c1 => ?_) (fun c1 => ?_)
  · have hf := ifT hf c1
    refine rx_sub hG [0] (lv' := [(0, .ref (adr E 0))]) rfl ?_
    exact Lj_M_becomes_0_51 l E T hG  M hf
  · have hf := ifF hf c1
    refine rx_aload_n hG dX10_becomes_31 0 rfl ?_
    refine gfM_M_17_0 l E T hG dX10_becomes_32 ?_
    refine rx_iload_n hG dX10_becomes_35 1 rfl ?_
    refine rx_aload_n hG dX10_becomes_36 0 rfl ?_
    refine gfM_M_17_0 l E T hG dX10_becomes_37 ?_
    refine rx_iconst hG 3 dX10_becomes_40 ic_3 ?_
    refine rx_iload_n hG dX10_becomes_41 1 rfl ?_
    refine rx_iadd hG dX10_becomes_42 ?_
    obtain ⟨w2, hw2, hf⟩ := bindE hf
    refine rx_lald hG (skM2 T) hw2 dX10_becomes_43 ?_
    obtain ⟨M3, hM3, hf⟩ := bindE hf
    refine rx_last hG (skM2 T) hM3 dX10_becomes_44 ?_
    refine rx_iinc (lv2 := [(1, .int (x1 + 1)), (0, .ref (adr E 0))]) hG 1 dX10_becomes_45 ic_1 1 rfl (Nat.le_of_ble_eq_true rfl) rfl ?_
    refine rx_goto hG 26 dX10_becomes_48 rfl ?_
    refine rx_sub hG [1, 0] (lv' := [(0, .ref (adr E 0)), (1, .int (x1 + 1))]) rfl ?_
    exact hrc26 (x1 + 1) M3 hf
theorem Llp_M_becomes_0_26 (l : Launch) (E : En) (T : List Sk) {a0 b0 kc ks : Nat} {M' : Mm} {G : Nat → List (Nat × Value) → List Value → Mm → Prop} (hG : RX l (SKM ++ T) E RX10 cX10_becomes 2 none { frames := 2, cells := a0, slots := b0, locals := 43 } kc ks none M' G)  : ∀ (n : Nat) (x1 : Int32) (M : Mm), lp_M_becomes_0_26  n x1 M = some M' → G 26 [(0, .ref (adr E 0)), (1, .int x1)] [] M := by
  intro n
  induction n with
  | zero => intro x1 M hf; cases hf
  | succ n ih => intro x1 M hf; exact Lblp_M_becomes_0_26 l E T hG  (lp_M_becomes_0_26  n) ih x1 M hf
set_option maxHeartbeats 4000000 in
set_option maxRecDepth 100000 in
theorem c_M_becomes_0 (l : Launch) (E : En) (T : List Sk)  {M M' : Mm} (h : f_M_becomes_0 M = some M') : Ct l (SKM ++ T) E yX10_becomes cX10_becomes 2 none 2 43 [.ref (adr E 0)] M none M' := by
  refine ct_of (by decide) (Nat.le_of_ble_eq_true rfl) ?_
  intro G hG
  show G 0 [(0, .ref (adr E 0))] [] M
  have hf := h
  unfold f_M_becomes_0 at hf
  refine rx_aload_n hG dX10_becomes_0 0 rfl ?_
  refine rx_aload_n hG dX10_becomes_1 0 rfl ?_
  refine gfM_M_172_0 l E T hG dX10_becomes_2 ?_
  obtain ⟨M1, hM1, hf⟩ := bindE hf
  refine pfM_M_248_0 l E T hG hM1 dX10_becomes_5 ?_
  refine rx_aload_n hG dX10_becomes_8 0 rfl ?_
  refine rx_aload_n hG dX10_becomes_9 0 rfl ?_
  refine gfM_M_175_0 l E T hG dX10_becomes_10 ?_
  obtain ⟨M2, hM2, hf⟩ := bindE hf
  refine pfM_M_242_0 l E T hG hM2 dX10_becomes_13 ?_
  refine rx_aload_n hG dX10_becomes_16 0 rfl ?_
  refine rx_aload_n hG dX10_becomes_17 0 rfl ?_
  refine gfM_M_210_0 l E T hG dX10_becomes_18 ?_
  obtain ⟨M3, hM3, hf⟩ := bindE hf
  refine pfM_M_251_0 l E T hG hM3 dX10_becomes_21 ?_
  refine rx_iconst hG 0 dX10_becomes_24 ic_0 ?_
  refine rx_istore_n (lv2 := [(1, .int 0), (0, .ref (adr E 0))]) hG dX10_becomes_25 (Nat.le_of_ble_eq_true rfl) rfl ?_
  refine rx_sub hG [1, 0] (lv' := [(0, .ref (adr E 0)), (1, .int 0)]) rfl ?_
  exact Llp_M_becomes_0_26 l E T hG  FW 0 M3 hf
set_option maxHeartbeats 4000000 in
set_option maxRecDepth 100000 in
theorem c_M_good_0 (l : Launch) (E : En) (T : List Sk) (p0 : Int32) {M M' : Mm} {r : Int32} (h : f_M_good_0 p0 M = some (r, M')) : Ct l (SKM ++ T) E yX10_good cX10_good 2 (some .int) 0 0 [.ref (adr E 0), .int p0] M (some (.int r)) M' := by
  refine ct_of (by decide) (Nat.le_of_ble_eq_true rfl) ?_
  intro G hG
  show G 0 [(0, .ref (adr E 0)), (1, .int p0)] [] M
  have hf := h
  unfold f_M_good_0 at hf
  refine rx_aload_n hG dX10_good_0 0 rfl ?_
  refine rx_iconst hG 0 dX10_good_1 ic_0 ?_
  obtain ⟨M1, hM1, hf⟩ := bindE hf
  refine pfM_M_77_0 l E T hG hM1 dX10_good_2 ?_
  refine rx_aload_n hG dX10_good_5 0 rfl ?_
  refine rx_iconst hG (-1) dX10_good_6 ic_m1 ?_
  obtain ⟨M2, hM2, hf⟩ := bindE hf
  refine pfM_M_9_0 l E T hG hM2 dX10_good_7 ?_
  refine rx_iload_n hG dX10_good_10 1 rfl ?_
  cases hf
  exact rx_iret hG dX10_good_11
set_option maxHeartbeats 4000000 in
set_option maxRecDepth 100000 in
theorem c_M_refused_0 (l : Launch) (E : En) (T : List Sk) (p0 : Int32) {M M' : Mm} {r : Int32} (h : f_M_refused_0 p0 M = some (r, M')) : Ct l (SKM ++ T) E yX10_refused cX10_refused 2 (some .int) 0 0 [.ref (adr E 0), .int p0] M (some (.int r)) M' := by
  refine ct_of (by decide) (Nat.le_of_ble_eq_true rfl) ?_
  intro G hG
  show G 0 [(0, .ref (adr E 0)), (1, .int p0)] [] M
  have hf := h
  unfold f_M_refused_0 at hf
  refine rx_aload_n hG dX10_refused_0 0 rfl ?_
  refine rx_iload_n hG dX10_refused_1 1 rfl ?_
  obtain ⟨M1, hM1, hf⟩ := bindE hf
  refine pfM_M_77_0 l E T hG hM1 dX10_refused_2 ?_
  refine rx_aload_n hG dX10_refused_5 0 rfl ?_
  refine rx_iconst hG (-1) dX10_refused_6 ic_m1 ?_
  obtain ⟨M2, hM2, hf⟩ := bindE hf
  refine pfM_M_9_0 l E T hG hM2 dX10_refused_7 ?_
  refine rx_iconst hG (-1) dX10_refused_10 ic_m1 ?_
  cases hf
  exact rx_iret hG dX10_refused_11
set_option maxHeartbeats 4000000 in
set_option maxRecDepth 100000 in
theorem Lj_M_text_0_158 (l : Launch) (E : En) (T : List Sk) {a0 b0 kc ks : Nat} {r : Int32} {M' : Mm} {G : Nat → List (Nat × Value) → List Value → Mm → Prop} (hG : RX l (SKM ++ T) E RX10 cX10_text 3 (some .int) { frames := 10, cells := a0, slots := b0, locals := 218 } kc ks (some (.int r)) M' G)  : ∀  (M : Mm), j_M_text_0_158  M = some (r, M') → G 158 [(0, .ref (adr E 0))] [] M := by
  intro M hf
  unfold j_M_text_0_158 at hf
  refine rx_aload_n hG dX10_text_158 0 rfl ?_
  refine gfM_M_83_0 l E T hG dX10_text_159 ?_
  refine rx_if_le hG 180 dX10_text_162 rfl (fun c1 => ?_) (fun c1 => ?_)
  · have hf := ifT hf c1
    refine rx_aload_n hG dX10_text_180 0 rfl ?_
    obtain ⟨M2, hM2, hf⟩ := bindE hf
    refine rx_cVv hG (c_M_becomes_0 l E T  hM2) (skM0 T) rfl rfl kw_M_239 ⟨Nat.le_of_ble_eq_true rfl, Nat.le_of_ble_eq_true rfl⟩ rfl (Nat.le_of_ble_eq_true rfl) dX10_text_181 ?_
    refine rx_aload_n hG dX10_text_184 0 rfl ?_
    refine rx_aload_n hG dX10_text_185 0 rfl ?_
    refine gfM_M_242_0 l E T hG dX10_text_186 ?_
    obtain ⟨q3, hq3, hf⟩ := bindE hf
    refine rx_cVi hG (c_M_good_0 l E T (M2.1 0 23) hq3) (skM0 T) rfl rfl kw_M_245 ⟨Nat.le_of_ble_eq_true rfl, Nat.le_of_ble_eq_true rfl⟩ rfl (Nat.le_of_ble_eq_true rfl) dX10_text_189 ?_
    cases hf
    exact rx_iret hG dX10_text_192
  · have hf := ifF hf c1
    refine rx_aload_n hG dX10_text_165 0 rfl ?_
    refine rx_iconst hG 4 dX10_text_166 ic_4 ?_
    obtain ⟨M4, hM4, hf⟩ := bindE hf
    refine pfM_M_77_0 l E T hG hM4 dX10_text_167 ?_
    refine rx_aload_n hG dX10_text_170 0 rfl ?_
    refine rx_aload_n hG dX10_text_171 0 rfl ?_
    refine gfM_M_89_0 l E T hG dX10_text_172 ?_
    obtain ⟨M5, hM5, hf⟩ := bindE hf
    refine pfM_M_9_0 l E T hG hM5 dX10_text_175 ?_
    refine rx_iconst hG (-1) dX10_text_178 ic_m1 ?_
    cases hf
    exact rx_iret hG dX10_text_179
set_option maxHeartbeats 4000000 in
set_option maxRecDepth 100000 in
theorem Lj_M_text_0_153 (l : Launch) (E : En) (T : List Sk) {a0 b0 kc ks : Nat} {r : Int32} {M' : Mm} {G : Nat → List (Nat × Value) → List Value → Mm → Prop} (hG : RX l (SKM ++ T) E RX10 cX10_text 3 (some .int) { frames := 10, cells := a0, slots := b0, locals := 218 } kc ks (some (.int r)) M' G)  : ∀  (M : Mm), j_M_text_0_153  M = some (r, M') → G 153 [(0, .ref (adr E 0))] [] M := by
  intro M hf
  unfold j_M_text_0_153 at hf
  refine rx_aload_n hG dX10_text_153 0 rfl ?_
  refine rx_iconst hG 5 dX10_text_154 ic_5 ?_
  obtain ⟨M1, hM1, hf⟩ := bindE hf
  refine rx_cVv hG (c_M_flaw_0 l E T 5 hM1) (skM0 T) rfl rfl kw_M_147 ⟨Nat.le_of_ble_eq_true rfl, Nat.le_of_ble_eq_true rfl⟩ rfl (Nat.le_of_ble_eq_true rfl) dX10_text_155 ?_
  exact Lj_M_text_0_158 l E T hG  M1 hf
set_option maxHeartbeats 4000000 in
set_option maxRecDepth 100000 in
theorem Lj_M_text_0_132 (l : Launch) (E : En) (T : List Sk) {a0 b0 kc ks : Nat} {r : Int32} {M' : Mm} {G : Nat → List (Nat × Value) → List Value → Mm → Prop} (hG : RX l (SKM ++ T) E RX10 cX10_text 3 (some .int) { frames := 10, cells := a0, slots := b0, locals := 218 } kc ks (some (.int r)) M' G)  : ∀  (M : Mm), j_M_text_0_132  M = some (r, M') → G 132 [(0, .ref (adr E 0))] [] M := by
  intro M hf
  unfold j_M_text_0_132 at hf
  refine rx_aload_n hG dX10_text_132 0 rfl ?_
  refine gfM_M_83_0 l E T hG dX10_text_133 ?_
  refine rx_if_ne hG 158 dX10_text_136 rfl (fun c1 => ?_) (fun c1 => ?_)
  · have hf := ifF hf c1
    exact Lj_M_text_0_158 l E T hG  M hf
  · have hf := ifT hf c1
    refine rx_aload_n hG dX10_text_139 0 rfl ?_
    refine gfM_M_172_0 l E T hG dX10_text_140 ?_
    refine rx_if_eq hG 153 dX10_text_143 rfl (fun c2 => ?_) (fun c2 => ?_)
    · have hf := ifT hf c2
      exact Lj_M_text_0_153 l E T hG  M hf
    · have hf := ifF hf c2
      refine rx_aload_n hG dX10_text_146 0 rfl ?_
      refine gfM_M_175_0 l E T hG dX10_text_147 ?_
      refine rx_if_ne hG 158 dX10_text_150 rfl (fun c3 => ?_) (fun c3 => ?_)
      · have hf := ifF hf c3
        exact Lj_M_text_0_158 l E T hG  M hf
      · have hf := ifT hf c3
        exact Lj_M_text_0_153 l E T hG  M hf
set_option maxHeartbeats 4000000 in
set_option maxRecDepth 100000 in
theorem Lj_M_text_0_112 (l : Launch) (E : En) (T : List Sk) {a0 b0 kc ks : Nat} {r : Int32} {M' : Mm} {G : Nat → List (Nat × Value) → List Value → Mm → Prop} (hG : RX l (SKM ++ T) E RX10 cX10_text 3 (some .int) { frames := 10, cells := a0, slots := b0, locals := 218 } kc ks (some (.int r)) M' G)  : ∀  (M : Mm), j_M_text_0_112  M = some (r, M') → G 112 [(0, .ref (adr E 0))] [] M := by
  intro M hf
  unfold j_M_text_0_112 at hf
  refine rx_aload_n hG dX10_text_112 0 rfl ?_
  refine gfM_M_83_0 l E T hG dX10_text_113 ?_
  refine rx_if_ne hG 132 dX10_text_116 rfl (fun c1 => ?_) (fun c1 => ?_)
  · have hf := ifF hf c1
    exact Lj_M_text_0_132 l E T hG  M hf
  · have hf := ifT hf c1
    refine rx_aload_n hG dX10_text_119 0 rfl ?_
    refine gfM_M_102_0 l E T hG dX10_text_120 ?_
    refine rx_iconst hG 1 dX10_text_123 ic_1 ?_
    refine rx_icmp_eq hG 132 dX10_text_124 rfl (fun c2 => ?_) (fun c2 => ?_)
    · have hf := ifT hf c2
      exact Lj_M_text_0_132 l E T hG  M hf
    · have hf := ifF hf c2
      refine rx_aload_n hG dX10_text_127 0 rfl ?_
      refine rx_iconst hG 1 dX10_text_128 ic_1 ?_
      obtain ⟨M3, hM3, hf⟩ := bindE hf
      refine rx_cVv hG (c_M_flaw_0 l E T 1 hM3) (skM0 T) rfl rfl kw_M_147 ⟨Nat.le_of_ble_eq_true rfl, Nat.le_of_ble_eq_true rfl⟩ rfl (Nat.le_of_ble_eq_true rfl) dX10_text_129 ?_
      exact Lj_M_text_0_132 l E T hG  M3 hf
set_option maxHeartbeats 4000000 in
set_option maxRecDepth 100000 in
theorem Lblp_M_text_0_92 (l : Launch) (E : En) (T : List Sk) {a0 b0 kc ks : Nat} {r : Int32} {M' : Mm} {G : Nat → List (Nat × Value) → List Value → Mm → Prop} (hG : RX l (SKM ++ T) E RX10 cX10_text 3 (some .int) { frames := 10, cells := a0, slots := b0, locals := 218 } kc ks (some (.int r)) M' G) (rc92 : Mm → Option (Int32 × Mm)) (hrc92 : ∀  (M : Mm), rc92 M = some (r, M') → G 92 [(0, .ref (adr E 0))] [] M) : ∀  (M : Mm), blp_M_text_0_92 rc92 M = some (r, M') → G 92 [(0, .ref (adr E 0))] [] M := by
  intro M hf
  unfold blp_M_text_0_92 at hf
  refine rx_aload_n hG dX10_text_92 0 rfl ?_
  refine rx_bipush hG 59 dX10_text_93 bp_59 ?_
  obtain ⟨v1, hv1, hf⟩ := bindE hf
  refine rx_cVi hG (c_M_isSign_0 l E T 59 hv1) (skM0 T) rfl rfl kw_M_192 ⟨Nat.le_of_ble_eq_true rfl, Nat.le_of_ble_eq_true rfl⟩ rfl (Nat.le_of_ble_eq_true rfl) dX10_text_95 ?_
  refine rx_if_eq hG 112 dX10_text_98 rfl (fun c2 => ?_) (fun c2 => ?_)
  · have hf := ifT hf c2
    exact Lj_M_text_0_112 l E T hG  M hf
  · have hf := ifF hf c2
    refine rx_aload_n hG dX10_text_101 0 rfl ?_
    obtain ⟨M3, hM3, hf⟩ := bindE hf
    refine rx_cVv hG (c_M_goOn_0 l E T  hM3) (skM0 T) rfl rfl kw_M_144 ⟨Nat.le_of_ble_eq_true rfl, Nat.le_of_ble_eq_true rfl⟩ rfl (Nat.le_of_ble_eq_true rfl) dX10_text_102 ?_
    refine rx_aload_n hG dX10_text_105 0 rfl ?_
    obtain ⟨M4, hM4, hf⟩ := bindE hf
    refine rx_cVv hG (c_M_readLine_0 l E T  hM4) (skM0 T) rfl rfl kw_M_236 ⟨Nat.le_of_ble_eq_true rfl, Nat.le_of_ble_eq_true rfl⟩ rfl (Nat.le_of_ble_eq_true rfl) dX10_text_106 ?_
    refine rx_goto hG 92 dX10_text_109 rfl ?_
    exact hrc92 M4 hf
theorem Llp_M_text_0_92 (l : Launch) (E : En) (T : List Sk) {a0 b0 kc ks : Nat} {r : Int32} {M' : Mm} {G : Nat → List (Nat × Value) → List Value → Mm → Prop} (hG : RX l (SKM ++ T) E RX10 cX10_text 3 (some .int) { frames := 10, cells := a0, slots := b0, locals := 218 } kc ks (some (.int r)) M' G)  : ∀ (n : Nat)  (M : Mm), lp_M_text_0_92  n M = some (r, M') → G 92 [(0, .ref (adr E 0))] [] M := by
  intro n
  induction n with
  | zero => intro M hf; cases hf
  | succ n ih => intro M hf; exact Lblp_M_text_0_92 l E T hG  (lp_M_text_0_92  n) ih M hf
set_option maxHeartbeats 4000000 in
set_option maxRecDepth 100000 in
theorem Lj_M_text_0_84 (l : Launch) (E : En) (T : List Sk) {a0 b0 kc ks : Nat} {r : Int32} {M' : Mm} {G : Nat → List (Nat × Value) → List Value → Mm → Prop} (hG : RX l (SKM ++ T) E RX10 cX10_text 3 (some .int) { frames := 10, cells := a0, slots := b0, locals := 218 } kc ks (some (.int r)) M' G)  : ∀  (M : Mm), j_M_text_0_84  M = some (r, M') → G 84 [(0, .ref (adr E 0))] [] M := by
  intro M hf
  unfold j_M_text_0_84 at hf
  refine rx_aload_n hG dX10_text_84 0 rfl ?_
  obtain ⟨M1, hM1, hf⟩ := bindE hf
  refine rx_cVv hG (c_M_goOn_0 l E T  hM1) (skM0 T) rfl rfl kw_M_144 ⟨Nat.le_of_ble_eq_true rfl, Nat.le_of_ble_eq_true rfl⟩ rfl (Nat.le_of_ble_eq_true rfl) dX10_text_85 ?_
  refine rx_aload_n hG dX10_text_88 0 rfl ?_
  obtain ⟨M2, hM2, hf⟩ := bindE hf
  refine rx_cVv hG (c_M_readLine_0 l E T  hM2) (skM0 T) rfl rfl kw_M_236 ⟨Nat.le_of_ble_eq_true rfl, Nat.le_of_ble_eq_true rfl⟩ rfl (Nat.le_of_ble_eq_true rfl) dX10_text_89 ?_
  exact Llp_M_text_0_92 l E T hG  FW M2 hf
set_option maxHeartbeats 4000000 in
set_option maxRecDepth 100000 in
theorem Lblp_M_text_0_65 (l : Launch) (E : En) (T : List Sk) {a0 b0 kc ks : Nat} {r : Int32} {M' : Mm} {G : Nat → List (Nat × Value) → List Value → Mm → Prop} (hG : RX l (SKM ++ T) E RX10 cX10_text 3 (some .int) { frames := 10, cells := a0, slots := b0, locals := 218 } kc ks (some (.int r)) M' G) (rc65 : Int32 → Mm → Option (Int32 × Mm)) (hrc65 : ∀ (x2 : Int32) (M : Mm), rc65 x2 M = some (r, M') → G 65 [(0, .ref (adr E 0)), (2, .int x2)] [] M) : ∀ (x2 : Int32) (M : Mm), blp_M_text_0_65 rc65 x2 M = some (r, M') → G 65 [(0, .ref (adr E 0)), (2, .int x2)] [] M := by
  intro x2 M hf
  unfold blp_M_text_0_65 at hf
  refine rx_iload_n hG dX10_text_65 1 rfl ?_
  refine rx_bipush hG 37 dX10_text_66 bp_37 ?_
  refine rx_icmp_ge hG 84 dX10_text_68 rfl (fun c1 => ?_) (fun c1 => ?_)
  · have hf := ifT hf c1
    refine rx_sub hG [0] (lv' := [(0, .ref (adr E 0))]) rfl ?_
    exact Lj_M_text_0_84 l E T hG  M hf
  · have hf := ifF hf c1
    refine rx_aload_n hG dX10_text_71 0 rfl ?_
    refine gfM_M_45_0 l E T hG dX10_text_72 ?_
    refine rx_iload_n hG dX10_text_75 1 rfl ?_
    refine rx_iconst hG 0 dX10_text_76 ic_0 ?_
    obtain ⟨M2, hM2, hf⟩ := bindE hf
    refine rx_iast hG (skM11 T) hM2 dX10_text_77 ?_
    refine rx_iinc (lv2 := [(2, .int (x2 + 1)), (0, .ref (adr E 0))]) hG 1 dX10_text_78 ic_1 1 rfl (Nat.le_of_ble_eq_true rfl) rfl ?_
    refine rx_goto hG 65 dX10_text_81 rfl ?_
    refine rx_sub hG [1, 0] (lv' := [(0, .ref (adr E 0)), (2, .int (x2 + 1))]) rfl ?_
    exact hrc65 (x2 + 1) M2 hf
theorem Llp_M_text_0_65 (l : Launch) (E : En) (T : List Sk) {a0 b0 kc ks : Nat} {r : Int32} {M' : Mm} {G : Nat → List (Nat × Value) → List Value → Mm → Prop} (hG : RX l (SKM ++ T) E RX10 cX10_text 3 (some .int) { frames := 10, cells := a0, slots := b0, locals := 218 } kc ks (some (.int r)) M' G)  : ∀ (n : Nat) (x2 : Int32) (M : Mm), lp_M_text_0_65  n x2 M = some (r, M') → G 65 [(0, .ref (adr E 0)), (2, .int x2)] [] M := by
  intro n
  induction n with
  | zero => intro x2 M hf; cases hf
  | succ n ih => intro x2 M hf; exact Lblp_M_text_0_65 l E T hG  (lp_M_text_0_65  n) ih x2 M hf
set_option maxHeartbeats 4000000 in
set_option maxRecDepth 100000 in
theorem c_M_text_0 (l : Launch) (E : En) (T : List Sk) (p0 : Int32) {M M' : Mm} {r : Int32} (h : f_M_text_0 p0 M = some (r, M')) : Ct l (SKM ++ T) E yX10_text cX10_text 3 (some .int) 10 218 [.ref (adr E 0), .int p0] M (some (.int r)) M' := by
  refine ct_of (by decide) (Nat.le_of_ble_eq_true rfl) ?_
  intro G hG
  show G 0 [(0, .ref (adr E 0)), (1, .int p0)] [] M
  have hf := h
  unfold f_M_text_0 at hf
  refine rx_aload_n hG dX10_text_0 0 rfl ?_
  refine rx_iconst hG 0 dX10_text_1 ic_0 ?_
  obtain ⟨M1, hM1, hf⟩ := bindE hf
  refine pfM_M_74_0 l E T hG hM1 dX10_text_2 ?_
  refine rx_iload_n hG dX10_text_5 1 rfl ?_
  refine rx_iconst hG 0 dX10_text_6 ic_0 ?_
  refine rx_aload_n hG dX10_text_7 0 rfl ?_
  refine gfM_M_80_0 l E T hG dX10_text_8 ?_
  obtain ⟨v2, hv2, hf⟩ := bindE hf
  refine rx_cSi hG (c_M_in l E (SKM ++ T) p0 0 (M1.1 0 4) hv2) kw_M_95 ⟨Nat.le_of_ble_eq_true rfl, Nat.le_of_ble_eq_true rfl⟩ rfl (Nat.le_of_ble_eq_true rfl) dX10_text_11 ?_
  refine rx_if_ne hG 23 dX10_text_14 rfl (fun c3 => ?_) (fun c3 => ?_)
  · have hf := ifF hf c3
    refine rx_aload_n hG dX10_text_23 0 rfl ?_
    refine rx_iload_n hG dX10_text_24 1 rfl ?_
    obtain ⟨M4, hM4, hf⟩ := bindE hf
    refine pfM_M_92_0 l E T hG hM4 dX10_text_25 ?_
    refine rx_aload_n hG dX10_text_28 0 rfl ?_
    refine rx_iconst hG 0 dX10_text_29 ic_0 ?_
    obtain ⟨M5, hM5, hf⟩ := bindE hf
    refine pfM_M_80_0 l E T hG hM5 dX10_text_30 ?_
    refine rx_aload_n hG dX10_text_33 0 rfl ?_
    refine rx_iconst hG 0 dX10_text_34 ic_0 ?_
    obtain ⟨M6, hM6, hf⟩ := bindE hf
    refine pfM_M_99_0 l E T hG hM6 dX10_text_35 ?_
    refine rx_aload_n hG dX10_text_38 0 rfl ?_
    refine rx_iconst hG 0 dX10_text_39 ic_0 ?_
    obtain ⟨M7, hM7, hf⟩ := bindE hf
    refine pfM_M_83_0 l E T hG hM7 dX10_text_40 ?_
    refine rx_aload_n hG dX10_text_43 0 rfl ?_
    refine rx_iconst hG 0 dX10_text_44 ic_0 ?_
    obtain ⟨M8, hM8, hf⟩ := bindE hf
    refine pfM_M_172_0 l E T hG hM8 dX10_text_45 ?_
    refine rx_aload_n hG dX10_text_48 0 rfl ?_
    refine rx_iconst hG 0 dX10_text_49 ic_0 ?_
    obtain ⟨M9, hM9, hf⟩ := bindE hf
    refine pfM_M_175_0 l E T hG hM9 dX10_text_50 ?_
    refine rx_aload_n hG dX10_text_53 0 rfl ?_
    refine rx_iconst hG 0 dX10_text_54 ic_0 ?_
    obtain ⟨M10, hM10, hf⟩ := bindE hf
    refine pfM_M_210_0 l E T hG hM10 dX10_text_55 ?_
    refine rx_aload_n hG dX10_text_58 0 rfl ?_
    refine rx_iconst hG 0 dX10_text_59 ic_0 ?_
    obtain ⟨M11, hM11, hf⟩ := bindE hf
    refine pfM_M_213_0 l E T hG hM11 (Or.inl rfl) dX10_text_60 ?_
    refine rx_iconst hG 0 dX10_text_63 ic_0 ?_
    refine rx_istore_n (lv2 := [(2, .int 0), (0, .ref (adr E 0)), (1, .int p0)]) hG dX10_text_64 (Nat.le_of_ble_eq_true rfl) rfl ?_
    refine rx_sub hG [1, 0] (lv' := [(0, .ref (adr E 0)), (2, .int 0)]) rfl ?_
    exact Llp_M_text_0_65 l E T hG  FW 0 M11 hf
  · have hf := ifT hf c3
    refine rx_aload_n hG dX10_text_17 0 rfl ?_
    refine rx_iconst hG 2 dX10_text_18 ic_2 ?_
    obtain ⟨q12, hq12, hf⟩ := bindE hf
    refine rx_cVi hG (c_M_refused_0 l E T 2 hq12) (skM0 T) rfl rfl kw_M_232 ⟨Nat.le_of_ble_eq_true rfl, Nat.le_of_ble_eq_true rfl⟩ rfl (Nat.le_of_ble_eq_true rfl) dX10_text_19 ?_
    cases hf
    exact rx_iret hG dX10_text_22
set_option maxHeartbeats 4000000 in
set_option maxRecDepth 100000 in
theorem Lj_M_toldCards_0_41 (l : Launch) (E : En) (T : List Sk) {a0 b0 kc ks : Nat} {r : Int32} {M : Mm} {G : Nat → List (Nat × Value) → List Value → Mm → Prop} (hG : RX l (SKM ++ T) E RX10 cX10_toldCards 4 (some .int) { frames := 0, cells := a0, slots := b0, locals := 0 } kc ks (some (.int r)) M G) (rc4 : Int32 → Int32 → Mm → Option Int32) (hrc4 : ∀ (x1 : Int32) (x2 : Int32), rc4 x1 x2 M = some r → G 4 [(0, .ref (adr E 0)), (1, .int x1), (2, .int x2)] [] M) : ∀ (x1 : Int32) (x2 : Int32), j_M_toldCards_0_41 rc4 x1 x2 M = some r → G 41 [(0, .ref (adr E 0)), (1, .int x1), (2, .int x2)] [] M := by
  intro x1 x2 hf
  unfold j_M_toldCards_0_41 at hf
  refine rx_iinc (lv2 := [(2, .int (x2 + 1)), (0, .ref (adr E 0)), (1, .int x1)]) hG 1 dX10_toldCards_41 ic_1 2 rfl (Nat.le_of_ble_eq_true rfl) rfl ?_
  refine rx_goto hG 4 dX10_toldCards_44 rfl ?_
  refine rx_sub hG [1, 2, 0] (lv' := [(0, .ref (adr E 0)), (1, .int x1), (2, .int (x2 + 1))]) rfl ?_
  exact hrc4 x1 (x2 + 1) hf
set_option maxHeartbeats 4000000 in
set_option maxRecDepth 100000 in
theorem Lblp_M_toldCards_0_14 (l : Launch) (E : En) (T : List Sk) {a0 b0 kc ks : Nat} {r : Int32} {M : Mm} {G : Nat → List (Nat × Value) → List Value → Mm → Prop} (hG : RX l (SKM ++ T) E RX10 cX10_toldCards 4 (some .int) { frames := 0, cells := a0, slots := b0, locals := 0 } kc ks (some (.int r)) M G) (rc4 : Int32 → Int32 → Mm → Option Int32) (hrc4 : ∀ (x1 : Int32) (x2 : Int32), rc4 x1 x2 M = some r → G 4 [(0, .ref (adr E 0)), (1, .int x1), (2, .int x2)] [] M) (rc14 : Int32 → Int32 → Int32 → Mm → Option Int32) (hrc14 : ∀ (x1 : Int32) (x2 : Int32) (x3 : Int32), rc14 x1 x2 x3 M = some r → G 14 [(0, .ref (adr E 0)), (1, .int x1), (2, .int x2), (3, .int x3)] [] M) : ∀ (x1 : Int32) (x2 : Int32) (x3 : Int32), blp_M_toldCards_0_14 rc4 rc14 x1 x2 x3 M = some r → G 14 [(0, .ref (adr E 0)), (1, .int x1), (2, .int x2), (3, .int x3)] [] M := by
  intro x1 x2 x3 hf
  unfold blp_M_toldCards_0_14 at hf
  refine rx_iload_n hG dX10_toldCards_14 3 rfl ?_
  refine rx_aload_n hG dX10_toldCards_15 0 rfl ?_
  refine gfM_M_248_0 l E T hG dX10_toldCards_16 ?_
  refine rx_icmp_ge hG 41 dX10_toldCards_19 rfl (fun c1 => ?_) (fun c1 => ?_)
  · have hf := ifT hf c1
    refine rx_sub hG [0, 1, 2] (lv' := [(0, .ref (adr E 0)), (1, .int x1), (2, .int x2)]) rfl ?_
    exact Lj_M_toldCards_0_41 l E T hG rc4 hrc4 x1 x2 hf
  · have hf := ifF hf c1
    refine rx_iload_n hG dX10_toldCards_22 1 rfl ?_
    refine rx_aload_n hG dX10_toldCards_23 0 rfl ?_
    refine gfM_M_42_0 l E T hG dX10_toldCards_24 ?_
    refine rx_iconst hG 3 dX10_toldCards_27 ic_3 ?_
    refine rx_iload_n hG dX10_toldCards_28 2 rfl ?_
    refine rx_imul hG dX10_toldCards_29 ?_
    refine rx_iload_n hG dX10_toldCards_30 3 rfl ?_
    refine rx_iadd hG dX10_toldCards_31 ?_
    obtain ⟨v2, hv2, hf⟩ := bindE hf
    refine rx_iald hG (skM10 T) hv2 dX10_toldCards_32 ?_
    refine rx_iadd hG dX10_toldCards_33 ?_
    refine rx_istore_n (lv2 := [(1, .int (x1 + v2)), (0, .ref (adr E 0)), (2, .int x2), (3, .int x3)]) hG dX10_toldCards_34 (Nat.le_of_ble_eq_true rfl) rfl ?_
    refine rx_iinc (lv2 := [(3, .int (x3 + 1)), (1, .int (x1 + v2)), (0, .ref (adr E 0)), (2, .int x2)]) hG 1 dX10_toldCards_35 ic_1 3 rfl (Nat.le_of_ble_eq_true rfl) rfl ?_
    refine rx_goto hG 14 dX10_toldCards_38 rfl ?_
    refine rx_sub hG [2, 1, 3, 0] (lv' := [(0, .ref (adr E 0)), (1, .int (x1 + v2)), (2, .int x2), (3, .int (x3 + 1))]) rfl ?_
    exact hrc14 (x1 + v2) x2 (x3 + 1) hf
theorem Llp_M_toldCards_0_14 (l : Launch) (E : En) (T : List Sk) {a0 b0 kc ks : Nat} {r : Int32} {M : Mm} {G : Nat → List (Nat × Value) → List Value → Mm → Prop} (hG : RX l (SKM ++ T) E RX10 cX10_toldCards 4 (some .int) { frames := 0, cells := a0, slots := b0, locals := 0 } kc ks (some (.int r)) M G) (rc4 : Int32 → Int32 → Mm → Option Int32) (hrc4 : ∀ (x1 : Int32) (x2 : Int32), rc4 x1 x2 M = some r → G 4 [(0, .ref (adr E 0)), (1, .int x1), (2, .int x2)] [] M) : ∀ (n : Nat) (x1 : Int32) (x2 : Int32) (x3 : Int32), lp_M_toldCards_0_14 rc4 n x1 x2 x3 M = some r → G 14 [(0, .ref (adr E 0)), (1, .int x1), (2, .int x2), (3, .int x3)] [] M := by
  intro n
  induction n with
  | zero => intro x1 x2 x3 hf; cases hf
  | succ n ih => intro x1 x2 x3 hf; exact Lblp_M_toldCards_0_14 l E T hG rc4 hrc4 (lp_M_toldCards_0_14 rc4 n) ih x1 x2 x3 hf
set_option maxHeartbeats 4000000 in
set_option maxRecDepth 100000 in
theorem Lblp_M_toldCards_0_4 (l : Launch) (E : En) (T : List Sk) {a0 b0 kc ks : Nat} {r : Int32} {M : Mm} {G : Nat → List (Nat × Value) → List Value → Mm → Prop} (hG : RX l (SKM ++ T) E RX10 cX10_toldCards 4 (some .int) { frames := 0, cells := a0, slots := b0, locals := 0 } kc ks (some (.int r)) M G) (rc4 : Int32 → Int32 → Mm → Option Int32) (hrc4 : ∀ (x1 : Int32) (x2 : Int32), rc4 x1 x2 M = some r → G 4 [(0, .ref (adr E 0)), (1, .int x1), (2, .int x2)] [] M) : ∀ (x1 : Int32) (x2 : Int32), blp_M_toldCards_0_4 rc4 x1 x2 M = some r → G 4 [(0, .ref (adr E 0)), (1, .int x1), (2, .int x2)] [] M := by
  intro x1 x2 hf
  unfold blp_M_toldCards_0_4 at hf
  refine rx_iload_n hG dX10_toldCards_4 2 rfl ?_
  refine rx_aload_n hG dX10_toldCards_5 0 rfl ?_
  refine gfM_M_242_0 l E T hG dX10_toldCards_6 ?_
  refine rx_icmp_ge hG 47 dX10_toldCards_9 rfl (fun c1 => ?_) (fun c1 => ?_)
  · have hf := ifT hf c1
    refine rx_iload_n hG dX10_toldCards_47 1 rfl ?_
    cases hf
    exact rx_iret hG dX10_toldCards_48
  · have hf := ifF hf c1
    refine rx_iconst hG 0 dX10_toldCards_12 ic_0 ?_
    refine rx_istore_n (lv2 := [(3, .int 0), (0, .ref (adr E 0)), (1, .int x1), (2, .int x2)]) hG dX10_toldCards_13 (Nat.le_of_ble_eq_true rfl) rfl ?_
    refine rx_sub hG [1, 2, 3, 0] (lv' := [(0, .ref (adr E 0)), (1, .int x1), (2, .int x2), (3, .int 0)]) rfl ?_
    exact Llp_M_toldCards_0_14 l E T hG rc4 hrc4 FW x1 x2 0 hf
theorem Llp_M_toldCards_0_4 (l : Launch) (E : En) (T : List Sk) {a0 b0 kc ks : Nat} {r : Int32} {M : Mm} {G : Nat → List (Nat × Value) → List Value → Mm → Prop} (hG : RX l (SKM ++ T) E RX10 cX10_toldCards 4 (some .int) { frames := 0, cells := a0, slots := b0, locals := 0 } kc ks (some (.int r)) M G)  : ∀ (n : Nat) (x1 : Int32) (x2 : Int32), lp_M_toldCards_0_4  n x1 x2 M = some r → G 4 [(0, .ref (adr E 0)), (1, .int x1), (2, .int x2)] [] M := by
  intro n
  induction n with
  | zero => intro x1 x2 hf; cases hf
  | succ n ih => intro x1 x2 hf; exact Lblp_M_toldCards_0_4 l E T hG  (lp_M_toldCards_0_4  n) ih x1 x2 hf
set_option maxHeartbeats 4000000 in
set_option maxRecDepth 100000 in
theorem c_M_toldCards_0 (l : Launch) (E : En) (T : List Sk)  {M : Mm} {r : Int32} (h : f_M_toldCards_0 M = some r) : Ct l (SKM ++ T) E yX10_toldCards cX10_toldCards 4 (some .int) 0 0 [.ref (adr E 0)] M (some (.int r)) M := by
  refine ct_of (by decide) (Nat.le_of_ble_eq_true rfl) ?_
  intro G hG
  show G 0 [(0, .ref (adr E 0))] [] M
  have hf := h
  unfold f_M_toldCards_0 at hf
  refine rx_iconst hG 0 dX10_toldCards_0 ic_0 ?_
  refine rx_istore_n (lv2 := [(1, .int 0), (0, .ref (adr E 0))]) hG dX10_toldCards_1 (Nat.le_of_ble_eq_true rfl) rfl ?_
  refine rx_iconst hG 0 dX10_toldCards_2 ic_0 ?_
  refine rx_istore_n (lv2 := [(2, .int 0), (1, .int 0), (0, .ref (adr E 0))]) hG dX10_toldCards_3 (Nat.le_of_ble_eq_true rfl) rfl ?_
  refine rx_sub hG [2, 1, 0] (lv' := [(0, .ref (adr E 0)), (1, .int 0), (2, .int 0)]) rfl ?_
  exact Llp_M_toldCards_0_4 l E T hG  FW 0 0 hf
set_option maxHeartbeats 4000000 in
set_option maxRecDepth 100000 in
theorem c_M_store (l : Launch) (E : En) (T : List Sk) (p0 : Int32) (p1 : Int32) {M : Mm} {r : Int32} (h : f_M_store p0 p1 = some r) : Ct l T E yX10_store cX10_store 2 (some .int) 0 0 [.int p0, .int p1] M (some (.int r)) M := by
  refine ct_of (by decide) (Nat.le_of_ble_eq_true rfl) ?_
  intro G hG
  show G 0 [(0, .int p0), (1, .int p1)] [] M
  have hf := h
  unfold f_M_store at hf
  refine rx_bipush hG 57 dX10_store_0 bp_57 ?_
  refine rx_iconst hG 3 dX10_store_2 ic_3 ?_
  refine rx_iload_n hG dX10_store_3 0 rfl ?_
  refine rx_imul hG dX10_store_4 ?_
  refine rx_iadd hG dX10_store_5 ?_
  refine rx_iload_n hG dX10_store_6 1 rfl ?_
  refine rx_iadd hG dX10_store_7 ?_
  cases hf
  exact rx_iret hG dX10_store_8
set_option maxHeartbeats 4000000 in
set_option maxRecDepth 100000 in
theorem c_M_atWork_0_15 (l : Launch) (E : En) (T : List Sk) (p0 : Int32) (p1 : Int32) {M : Mm} {r : Int32} (h : f_M_atWork_0_15 p0 p1 M = some r) : Ct l (SKM ++ T) E yX10_atWork cX10_atWork 4 (some .int) 1 21 [.ref (adr E 0), .ref (adr E 15), .int p0, .int p1] M (some (.int r)) M := by
  refine ct_of (by decide) (Nat.le_of_ble_eq_true rfl) ?_
  intro G hG
  show G 0 [(0, .ref (adr E 0)), (1, .ref (adr E 15)), (2, .int p0), (3, .int p1)] [] M
  have hf := h
  unfold f_M_atWork_0_15 at hf
  refine rx_aload_n hG dX10_atWork_0 1 rfl ?_
  refine rx_iload_n hG dX10_atWork_1 2 rfl ?_
  refine rx_iconst hG 0 dX10_atWork_2 ic_0 ?_
  obtain ⟨v1, hv1, hf⟩ := bindE hf
  refine rx_cSi hG (c_M_of l E (SKM ++ T) p0 0 hv1) kw_M_264 ⟨Nat.le_of_ble_eq_true rfl, Nat.le_of_ble_eq_true rfl⟩ rfl (Nat.le_of_ble_eq_true rfl) dX10_atWork_3 ?_
  obtain ⟨v2, hv2, hf⟩ := bindE hf
  refine rx_iald hG (skM15 T) hv2 dX10_atWork_6 ?_
  refine rx_iconst hG 1 dX10_atWork_7 ic_1 ?_
  refine rx_icmp_ne hG 26 dX10_atWork_8 rfl (fun c3 => ?_) (fun c3 => ?_)
  · have hf := ifF hf c3
    refine rx_iconst hG 0 dX10_atWork_26 ic_0 ?_
    cases hf
    exact rx_iret hG dX10_atWork_27
  · have hf := ifT hf c3
    refine rx_aload_n hG dX10_atWork_11 1 rfl ?_
    refine rx_iload_n hG dX10_atWork_12 2 rfl ?_
    refine rx_iconst hG 1 dX10_atWork_13 ic_1 ?_
    obtain ⟨v4, hv4, hf⟩ := bindE hf
    refine rx_cSi hG (c_M_of l E (SKM ++ T) p0 1 hv4) kw_M_264 ⟨Nat.le_of_ble_eq_true rfl, Nat.le_of_ble_eq_true rfl⟩ rfl (Nat.le_of_ble_eq_true rfl) dX10_atWork_14 ?_
    obtain ⟨v5, hv5, hf⟩ := bindE hf
    refine rx_iald hG (skM15 T) hv5 dX10_atWork_17 ?_
    refine rx_iload_n hG dX10_atWork_18 3 rfl ?_
    refine rx_icmp_ne hG 26 dX10_atWork_19 rfl (fun c6 => ?_) (fun c6 => ?_)
    · have hf := ifF hf c6
      refine rx_iconst hG 0 dX10_atWork_26 ic_0 ?_
      cases hf
      exact rx_iret hG dX10_atWork_27
    · have hf := ifT hf c6
      refine rx_iconst hG 1 dX10_atWork_22 ic_1 ?_
      refine rx_goto hG 27 dX10_atWork_23 rfl ?_
      cases hf
      exact rx_iret hG dX10_atWork_27
set_option maxHeartbeats 4000000 in
set_option maxRecDepth 100000 in
theorem Lj_M_heldCards_0_52 (l : Launch) (E : En) (T : List Sk) {a0 b0 kc ks : Nat} {r : Int32} {M : Mm} {G : Nat → List (Nat × Value) → List Value → Mm → Prop} (hG : RX l (SKM ++ T) E RX10 cX10_heldCards 4 (some .int) { frames := 2, cells := a0, slots := b0, locals := 44 } kc ks (some (.int r)) M G) (rc4 : Int32 → Int32 → Mm → Option Int32) (hrc4 : ∀ (x1 : Int32) (x2 : Int32), rc4 x1 x2 M = some r → G 4 [(0, .ref (adr E 0)), (1, .int x1), (2, .int x2)] [] M) : ∀ (x1 : Int32) (x2 : Int32), j_M_heldCards_0_52 rc4 x1 x2 M = some r → G 52 [(0, .ref (adr E 0)), (1, .int x1), (2, .int x2)] [] M := by
  intro x1 x2 hf
  unfold j_M_heldCards_0_52 at hf
  refine rx_iinc (lv2 := [(2, .int (x2 + 1)), (0, .ref (adr E 0)), (1, .int x1)]) hG 1 dX10_heldCards_52 ic_1 2 rfl (Nat.le_of_ble_eq_true rfl) rfl ?_
  refine rx_goto hG 4 dX10_heldCards_55 rfl ?_
  refine rx_sub hG [1, 2, 0] (lv' := [(0, .ref (adr E 0)), (1, .int x1), (2, .int (x2 + 1))]) rfl ?_
  exact hrc4 x1 (x2 + 1) hf
set_option maxHeartbeats 4000000 in
set_option maxRecDepth 100000 in
theorem Lblp_M_heldCards_0_14 (l : Launch) (E : En) (T : List Sk) {a0 b0 kc ks : Nat} {r : Int32} {M : Mm} {G : Nat → List (Nat × Value) → List Value → Mm → Prop} (hG : RX l (SKM ++ T) E RX10 cX10_heldCards 4 (some .int) { frames := 2, cells := a0, slots := b0, locals := 44 } kc ks (some (.int r)) M G) (rc4 : Int32 → Int32 → Mm → Option Int32) (hrc4 : ∀ (x1 : Int32) (x2 : Int32), rc4 x1 x2 M = some r → G 4 [(0, .ref (adr E 0)), (1, .int x1), (2, .int x2)] [] M) (rc14 : Int32 → Int32 → Int32 → Mm → Option Int32) (hrc14 : ∀ (x1 : Int32) (x2 : Int32) (x3 : Int32), rc14 x1 x2 x3 M = some r → G 14 [(0, .ref (adr E 0)), (1, .int x1), (2, .int x2), (3, .int x3)] [] M) : ∀ (x1 : Int32) (x2 : Int32) (x3 : Int32), blp_M_heldCards_0_14 rc4 rc14 x1 x2 x3 M = some r → G 14 [(0, .ref (adr E 0)), (1, .int x1), (2, .int x2), (3, .int x3)] [] M := by
  intro x1 x2 x3 hf
  unfold blp_M_heldCards_0_14 at hf
  refine rx_iload_n hG dX10_heldCards_14 3 rfl ?_
  refine rx_aload_n hG dX10_heldCards_15 0 rfl ?_
  refine gfM_M_248_0 l E T hG dX10_heldCards_16 ?_
  refine rx_icmp_ge hG 52 dX10_heldCards_19 rfl (fun c1 => ?_) (fun c1 => ?_)
  · have hf := ifT hf c1
    refine rx_sub hG [0, 1, 2] (lv' := [(0, .ref (adr E 0)), (1, .int x1), (2, .int x2)]) rfl ?_
    exact Lj_M_heldCards_0_52 l E T hG rc4 hrc4 x1 x2 hf
  · have hf := ifF hf c1
    refine rx_iload_n hG dX10_heldCards_22 1 rfl ?_
    refine rx_aload_n hG dX10_heldCards_23 0 rfl ?_
    refine gfM_M_57_0 l E T hG dX10_heldCards_24 ?_
    refine rx_iload_n hG dX10_heldCards_27 2 rfl ?_
    refine rx_iload_n hG dX10_heldCards_28 3 rfl ?_
    obtain ⟨v2, hv2, hf⟩ := bindE hf
    refine rx_cSi hG (c_M_store l E (SKM ++ T) x2 x3 hv2) kw_M_267 ⟨Nat.le_of_ble_eq_true rfl, Nat.le_of_ble_eq_true rfl⟩ rfl (Nat.le_of_ble_eq_true rfl) dX10_heldCards_29 ?_
    obtain ⟨v3, hv3, hf⟩ := bindE hf
    refine rx_iald hG (skM15 T) hv3 dX10_heldCards_32 ?_
    refine rx_aload_n hG dX10_heldCards_33 0 rfl ?_
    refine rx_aload_n hG dX10_heldCards_34 0 rfl ?_
    refine gfM_M_57_0 l E T hG dX10_heldCards_35 ?_
    refine rx_iload_n hG dX10_heldCards_38 2 rfl ?_
    refine rx_iload_n hG dX10_heldCards_39 3 rfl ?_
    obtain ⟨v4, hv4, hf⟩ := bindE hf
    refine rx_cVi hG (c_M_atWork_0_15 l E T x2 x3 hv4) (skM0 T) rfl rfl kw_M_270 ⟨Nat.le_of_ble_eq_true rfl, Nat.le_of_ble_eq_true rfl⟩ rfl (Nat.le_of_ble_eq_true rfl) dX10_heldCards_40 ?_
    refine rx_iadd hG dX10_heldCards_43 ?_
    refine rx_iadd hG dX10_heldCards_44 ?_
    refine rx_istore_n (lv2 := [(1, .int (x1 + (v3 + v4))), (0, .ref (adr E 0)), (2, .int x2), (3, .int x3)]) hG dX10_heldCards_45 (Nat.le_of_ble_eq_true rfl) rfl ?_
    refine rx_iinc (lv2 := [(3, .int (x3 + 1)), (1, .int (x1 + (v3 + v4))), (0, .ref (adr E 0)), (2, .int x2)]) hG 1 dX10_heldCards_46 ic_1 3 rfl (Nat.le_of_ble_eq_true rfl) rfl ?_
    refine rx_goto hG 14 dX10_heldCards_49 rfl ?_
    refine rx_sub hG [2, 1, 3, 0] (lv' := [(0, .ref (adr E 0)), (1, .int (x1 + (v3 + v4))), (2, .int x2), (3, .int (x3 + 1))]) rfl ?_
    exact hrc14 (x1 + (v3 + v4)) x2 (x3 + 1) hf
theorem Llp_M_heldCards_0_14 (l : Launch) (E : En) (T : List Sk) {a0 b0 kc ks : Nat} {r : Int32} {M : Mm} {G : Nat → List (Nat × Value) → List Value → Mm → Prop} (hG : RX l (SKM ++ T) E RX10 cX10_heldCards 4 (some .int) { frames := 2, cells := a0, slots := b0, locals := 44 } kc ks (some (.int r)) M G) (rc4 : Int32 → Int32 → Mm → Option Int32) (hrc4 : ∀ (x1 : Int32) (x2 : Int32), rc4 x1 x2 M = some r → G 4 [(0, .ref (adr E 0)), (1, .int x1), (2, .int x2)] [] M) : ∀ (n : Nat) (x1 : Int32) (x2 : Int32) (x3 : Int32), lp_M_heldCards_0_14 rc4 n x1 x2 x3 M = some r → G 14 [(0, .ref (adr E 0)), (1, .int x1), (2, .int x2), (3, .int x3)] [] M := by
  intro n
  induction n with
  | zero => intro x1 x2 x3 hf; cases hf
  | succ n ih => intro x1 x2 x3 hf; exact Lblp_M_heldCards_0_14 l E T hG rc4 hrc4 (lp_M_heldCards_0_14 rc4 n) ih x1 x2 x3 hf
set_option maxHeartbeats 4000000 in
set_option maxRecDepth 100000 in
theorem Lblp_M_heldCards_0_4 (l : Launch) (E : En) (T : List Sk) {a0 b0 kc ks : Nat} {r : Int32} {M : Mm} {G : Nat → List (Nat × Value) → List Value → Mm → Prop} (hG : RX l (SKM ++ T) E RX10 cX10_heldCards 4 (some .int) { frames := 2, cells := a0, slots := b0, locals := 44 } kc ks (some (.int r)) M G) (rc4 : Int32 → Int32 → Mm → Option Int32) (hrc4 : ∀ (x1 : Int32) (x2 : Int32), rc4 x1 x2 M = some r → G 4 [(0, .ref (adr E 0)), (1, .int x1), (2, .int x2)] [] M) : ∀ (x1 : Int32) (x2 : Int32), blp_M_heldCards_0_4 rc4 x1 x2 M = some r → G 4 [(0, .ref (adr E 0)), (1, .int x1), (2, .int x2)] [] M := by
  intro x1 x2 hf
  unfold blp_M_heldCards_0_4 at hf
  refine rx_iload_n hG dX10_heldCards_4 2 rfl ?_
  refine rx_aload_n hG dX10_heldCards_5 0 rfl ?_
  refine gfM_M_242_0 l E T hG dX10_heldCards_6 ?_
  refine rx_icmp_ge hG 58 dX10_heldCards_9 rfl (fun c1 => ?_) (fun c1 => ?_)
  · have hf := ifT hf c1
    refine rx_iload_n hG dX10_heldCards_58 1 rfl ?_
    cases hf
    exact rx_iret hG dX10_heldCards_59
  · have hf := ifF hf c1
    refine rx_iconst hG 0 dX10_heldCards_12 ic_0 ?_
    refine rx_istore_n (lv2 := [(3, .int 0), (0, .ref (adr E 0)), (1, .int x1), (2, .int x2)]) hG dX10_heldCards_13 (Nat.le_of_ble_eq_true rfl) rfl ?_
    refine rx_sub hG [1, 2, 3, 0] (lv' := [(0, .ref (adr E 0)), (1, .int x1), (2, .int x2), (3, .int 0)]) rfl ?_
    exact Llp_M_heldCards_0_14 l E T hG rc4 hrc4 FW x1 x2 0 hf
theorem Llp_M_heldCards_0_4 (l : Launch) (E : En) (T : List Sk) {a0 b0 kc ks : Nat} {r : Int32} {M : Mm} {G : Nat → List (Nat × Value) → List Value → Mm → Prop} (hG : RX l (SKM ++ T) E RX10 cX10_heldCards 4 (some .int) { frames := 2, cells := a0, slots := b0, locals := 44 } kc ks (some (.int r)) M G)  : ∀ (n : Nat) (x1 : Int32) (x2 : Int32), lp_M_heldCards_0_4  n x1 x2 M = some r → G 4 [(0, .ref (adr E 0)), (1, .int x1), (2, .int x2)] [] M := by
  intro n
  induction n with
  | zero => intro x1 x2 hf; cases hf
  | succ n ih => intro x1 x2 hf; exact Lblp_M_heldCards_0_4 l E T hG  (lp_M_heldCards_0_4  n) ih x1 x2 hf
set_option maxHeartbeats 4000000 in
set_option maxRecDepth 100000 in
theorem c_M_heldCards_0 (l : Launch) (E : En) (T : List Sk)  {M : Mm} {r : Int32} (h : f_M_heldCards_0 M = some r) : Ct l (SKM ++ T) E yX10_heldCards cX10_heldCards 4 (some .int) 2 44 [.ref (adr E 0)] M (some (.int r)) M := by
  refine ct_of (by decide) (Nat.le_of_ble_eq_true rfl) ?_
  intro G hG
  show G 0 [(0, .ref (adr E 0))] [] M
  have hf := h
  unfold f_M_heldCards_0 at hf
  refine rx_iconst hG 0 dX10_heldCards_0 ic_0 ?_
  refine rx_istore_n (lv2 := [(1, .int 0), (0, .ref (adr E 0))]) hG dX10_heldCards_1 (Nat.le_of_ble_eq_true rfl) rfl ?_
  refine rx_iconst hG 0 dX10_heldCards_2 ic_0 ?_
  refine rx_istore_n (lv2 := [(2, .int 0), (1, .int 0), (0, .ref (adr E 0))]) hG dX10_heldCards_3 (Nat.le_of_ble_eq_true rfl) rfl ?_
  refine rx_sub hG [2, 1, 0] (lv' := [(0, .ref (adr E 0)), (1, .int 0), (2, .int 0)]) rfl ?_
  exact Llp_M_heldCards_0_4 l E T hG  FW 0 0 hf

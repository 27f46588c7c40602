theorem FM.b14 {M : Mm} (h : FM M) : j_M_readBench_0_14 M = some M := by
  unfold j_M_readBench_0_14
  rw [h.goOn, Option.bind_some, h.new, Option.bind_some]
  dsimp only
  split
  · rw [h.flaw, Option.bind_some]; exact h.b40 _ _
  · exact h.b40 _ _
theorem Ln_bench {T : Nat → Int} {n c i : Nat} {P : SS} {u : Nat → Int} {rl : Int} {X M : Mm} (h : Tk T n c i X M) (hp : PlR P u rl X M) (ok : PlOk P u) : LnR T n c i X M (f_R_readBench_14 X) (f_M_readBench_0 M) := by
  obtain ⟨⟨k0, k3⟩, ⟨b0, b6, bk⟩, -⟩ := id ok
  obtain ⟨⟨a1, a2, a3⟩, ⟨m1, m2, m3⟩, -⟩ := id hp
  have cB : (iI (P 0 1) < 6) ↔ P 0 1 < 6 := by rw [l6]; exact iI_lt (by omega) (by omega) (by omega) (by omega)
  have cB2 : (iI (P 0 1) = 6) ↔ P 0 1 = 6 := by rw [l6]; exact iI_eq (by omega) (by omega) (by omega) (by omega)
  unfold f_R_readBench_14 f_M_readBench_0
  rw [a2, m2]
  by_cases e : P 0 1 = 6
  · right
    obtain ⟨Y, N, y1, y2, y3, y4, y5⟩ := h.blame 4 (by omega) (by omega)
    rw [← l4] at y1 y2
    rw [if_neg (fun q => by have := cB.mp q; omega), if_pos (cB2.mpr e), y1, y2, Option.bind_some, Option.bind_some, zr_0, Option.bind_some, y3.m.b14]
    exact ⟨Y, N, rfl, rfl, y3, y4.w, y5.w⟩
  · obtain ⟨b, hb⟩ : ∃ b : Nat, P 0 1 = b := ⟨(P 0 1).toNat, by omega⟩
    obtain ⟨K, hK⟩ : ∃ K : Nat, P 0 0 = K := ⟨(P 0 0).toNat, by omega⟩
    obtain ⟨j, X1, M1, s1, s2, s3, s4, s5, s6, -⟩ := h.step
    have hp1 := hp.s s4 s5
    unfold j_M_readBench_0_14
    rw [if_pos (cB.mpr (by omega)), if_neg (fun q => e (cB2.mp q)), s1, s2, Option.bind_some, Option.bind_some, show (3 : Int32) + iI (P 0 1) = iI ((3 + b : Nat) : Int) by rw [hb, l3, iI_add]; rfl]
    rcases s3.new (s := 3 + b) (by omega) (hp1.cn ok) hp1.1.1 hp1.1.2.1 hp1.2.2.2.2.2.2.2.2.2 with ⟨j2, X2, M2, w, t1, t2, t3, t4, t5, t6, t7, t8, t9⟩ | ⟨Y, N, w, t1, t2, t3, t4, t5⟩
    · obtain ⟨⟨p1, p2, p3⟩, ⟨p4, p5, p6⟩, ⟨p7, p8, p9⟩, pa, pb, pc, pd, pe, pf, pg⟩ := hp1
      rw [hb] at p2 p5 pb pg
      rw [hK] at p1 p4 pg
      have v15 : X2.1 15 = X1.1 15 := t5 15 (by decide) (by decide) (by decide)
      have n25 : M2.1 0 25 = iI (K : Int) := by rw [t8.2.1 25 (by omega)]; exact p4
      have n26 : M2.1 0 26 = iI (b : Int) := by rw [t8.2.1 26 (by omega)]; exact p5
      rw [t1, t2, Option.bind_some, Option.bind_some]
      dsimp only
      rw [if_neg n10, Option.bind_some, v15, p2, show iI (b : Int) + 1 = iI ((b : Int) + 1) by rw [l1, iI_add], n25, n26, hb]
      have h3 : Tk T n c j2 (u1 X2 15 1 (iI ((b : Int) + 1))) M2 := t3.fr (fun q hq => u1_ne (by omega)) rfl (fun _ _ _ => rfl) rfl
      have x0 : (u1 X2 15 1 (iI ((b : Int) + 1))).1 15 0 = iI (K : Int) := by rw [u1_s _ _ _ _ (by decide), v15]; exact p1
      have fx3 : ∀ q, q ≠ 14 → q ≠ 15 → q ≠ 22 → q ≠ 23 → (u1 X2 15 1 (iI ((b : Int) + 1))).1 q = X1.1 q := fun q a c d e => by rw [u1_ne c, t5 q a d e]
      have wx3 : WX X (u1 X2 15 1 (iI ((b : Int) + 1))) := s4.w.tr (fun q hq => fx3 q (by omega) (by omega) (by omega) (by omega))
      have y23 : ∀ t, t ≠ 3 + b → (u1 X2 15 1 (iI ((b : Int) + 1))).1 23 t = X1.1 23 t ∧ ∀ j, j < 6 → (u1 X2 15 1 (iI ((b : Int) + 1))).1 22 (6 * t + j) = X1.1 22 (6 * t + j) := fun t ht => by rw [u1_ne (by decide), u1_ne (by decide)]; exact t7 t ht
      have y23b : ∃ z l, NmQ z l (3 + b) (u1 X2 15 1 (iI ((b : Int) + 1))) w := by
        obtain ⟨z, l, q⟩ := t4
        exact ⟨z, l, q.fr (by rw [u1_ne (by decide)]) (fun j _ => by rw [u1_ne (by decide)])⟩
      have v3b : (u1 X2 15 1 (iI ((b : Int) + 1))).1 14 3 = X1.1 14 3 := by rw [u1_ne (by decide)]; exact t6
      have x1' : (u1 X2 15 1 (iI ((b : Int) + 1))).1 15 1 = iI ((b : Int) + 1) := u1_self _ _ _ _
      have x2' : (u1 X2 15 1 (iI ((b : Int) + 1))).1 15 2 = X1.1 15 2 := by rw [u1_s _ _ _ _ (by decide), v15]
      generalize u1 X2 15 1 (iI ((b : Int) + 1)) = X3 at h3 x0 fx3 wx3 y23 y23b v3b x1' x2'
      unfold f_R_readTimes_14
      rw [x0]
      have cK : (iI (K : Int) = 0) ↔ K = 0 := by rw [l0, iI_eq (by omega) (by omega) (by omega) (by omega)]; omega
      by_cases eK : K = 0
      · right
        obtain ⟨Y, N, y1, y2, y3, y4, y5⟩ := h3.blame 1 (by omega) (by omega)
        rw [← l1] at y1 y2
        rw [if_pos (cK.mpr eK), if_pos (cK.mpr eK), y1, y2, Option.bind_some, Option.bind_some, zr_0, Option.bind_some, Option.bind_some]
        dsimp only
        rw [if_pos rfl, y3.m.b40]
        exact ⟨Y, N, rfl, rfl, y3, wx3.tr y4.w, (s5.w.tr t8.w).tr y5.w⟩
      · rw [if_neg (fun q => eK (cK.mp q)), if_neg (fun q => eK (cK.mp q))]
        have wxu : WyX 24 u X3 := ⟨fun q hq => by rw [fx3 25 (by decide) (by decide) (by decide) (by decide)]; exact pe.1 q hq, fun q hq => by rw [fx3 26 (by decide) (by decide) (by decide) (by decide)]; exact pe.2.1 q hq, by rw [fx3 24 (by decide) (by decide) (by decide) (by decide)]; exact pe.2.2⟩
        have wmu : WyM 11 u M2 := fun q hq => by rw [t8.1 11 (by decide)]; exact pf q hq
        have tim := Bn_times (T := T) (n := n) (c := c) (K := K) (b := b) (u := u) w (by omega) (by omega) K 0 FW FW j2 X3 M2 u (by omega) (FW_gt (by omega)) (FW_gt (by omega)) h3 x0 n25 wxu wmu ⟨fun _ _ _ => rfl, fun j hj => absurd hj (by omega)⟩
        unfold j_M_readBench_0_40
        rw [l0]
        rcases tim with ⟨j4, X4, M4, v, r1, r2, r3, r4, r5, r6, r7, r8, r9⟩ | ⟨Y, N, r1, r2, r3, r4, r5⟩
        · have r1' : lp_R_readTimes_14_18 FW (iI (b : Int)) (iI 0) X3 = some (1, X4) := r1
          have r2' : lp_M_readBench_0_43 FW w (iI (b : Int)) (iI 0) M2 = j_M_readBench_0_121 w (iI (b : Int)) M4 := r2
          rw [r1', r2', Option.bind_some]
          dsimp only
          rw [← l0, if_neg n10]
          obtain ⟨z3, z4, z5⟩ := ok.2.2.2.2.2.1 b (by omega)
          have q16 : X4.1 16 b = iI 0 := by rw [r7.1 16 (by decide) (by decide) (by decide), fx3 16 (by decide) (by decide) (by decide) (by decide), (pa b (by omega)).1, z3]
          rcases Bn_setup w (b := b) (by omega) r3 q16 with ⟨j5, X5, M5, s, e1, e2, g1, g2, g3, g4, g5, g6, g7, g8, g9⟩ | ⟨Y, N, g1, g2, g3, g4, g5⟩
          · rw [g1, g2, Option.bind_some]
            dsimp only
            rw [if_neg n10]
            have q17 : X5.1 17 b = iI 0 := by rw [g6 17 (by decide) (by decide), r7.1 17 (by decide) (by decide) (by decide), fx3 17 (by decide) (by decide) (by decide) (by decide), (pa b (by omega)).2.1, z4]
            have q18 : X5.1 18 b = iI 0 := by rw [g6 18 (by decide) (by decide), r7.1 18 (by decide) (by decide) (by decide), fx3 18 (by decide) (by decide) (by decide) (by decide), (pa b (by omega)).2.2, z5]
            rcases Bn_rest w (iI s) (b := b) (by omega) g3 q17 q18 with ⟨j6, X6, M6, r, ev, f1, f2, f3, f4, f5, o1, o2, o3, o4, o5, o6, o7, o8, o9, o10⟩ | ⟨Y, N, o1, o2, o3, o4, o5⟩
            · left
              rw [o1, o2, Option.bind_some]
              dsimp only
              rw [if_neg n10]
              unfold j_M_readBench_0_182
              have f7 : M6.1 0 7 ≤ 0 := by rw [o3.2.2.2.2.2.2.2.2]; exact Int32.le_refl 0
              have wL : wrL M6 3 12 (6 + iI (b : Int)) w = some (u2 M6 3 (6 + b) w) := by rw [l6, iI_add, wrL_iI (by omega) (by omega) (by omega), show (6 + (b : Int)).toNat = 6 + b by omega]
              have wM : ∀ (Z : Mm) (q : Nat) (x : Int32), wr Z q 12 (6 + iI (b : Int)) x = some (u1 Z q (6 + b) x) := fun Z q x => by rw [l6, iI_add, wr_iI (by omega) (by omega) (by omega), show (6 + (b : Int)).toNat = 6 + b by omega]
              have bmA : BM M2 M6 := (r8.tr g8.b).tr o9.b
              have v26 : (u1 (u1 (u1 (u2 M6 3 (6 + b) w) 4 (6 + b) (iI s)) 5 (6 + b) (iI r)) 6 (6 + b) (iI ev)).1 0 26 = iI (b : Int) := by
                rw [u1_ne (by decide), u1_ne (by decide), u1_ne (by decide)]
                show M6.1 0 26 = _
                rw [bmA.2.1 26 (by omega)]; exact n26
              rw [if_pos f7, wL, Option.bind_some, wM, Option.bind_some, wM, Option.bind_some, wM, Option.bind_some, Option.bind_some, v26, show iI (b : Int) + 1 = iI ((b : Int) + 1) by rw [l1, iI_add]]
              have nf : ∀ i, i ≠ 26 → (u1 (u1 (u1 (u1 (u2 M6 3 (6 + b) w) 4 (6 + b) (iI s)) 5 (6 + b) (iI r)) 6 (6 + b) (iI ev)) 0 26 (iI ((b : Int) + 1))).1 0 i = M6.1 0 i := fun i a => by
                rw [u1_s _ _ _ _ a, u1_ne (by decide), u1_ne (by decide), u1_ne (by decide)]; rfl
              have nm : ∀ q, q ≠ 0 → q ≠ 4 → q ≠ 5 → q ≠ 6 → (u1 (u1 (u1 (u1 (u2 M6 3 (6 + b) w) 4 (6 + b) (iI s)) 5 (6 + b) (iI r)) 6 (6 + b) (iI ev)) 0 26 (iI ((b : Int) + 1))).1 q = M6.1 q := fun q a b c d => by rw [u1_ne a, u1_ne d, u1_ne c, u1_ne b]; rfl
              have n2 : ∀ q, q ≠ 3 → (u1 (u1 (u1 (u1 (u2 M6 3 (6 + b) w) 4 (6 + b) (iI s)) 5 (6 + b) (iI r)) 6 (6 + b) (iI ev)) 0 26 (iI ((b : Int) + 1))).2 q = M6.2 q := fun q a => by rw [u1_2, u1_2, u1_2, u1_2, u2_2 a]
              have X6f : ∀ q, q ≠ 14 → q ≠ 15 → q ≠ 16 → q ≠ 17 → q ≠ 18 → q ≠ 22 → q ≠ 23 → q ≠ 25 → q ≠ 26 → X6.1 q = X1.1 q := fun q a1 a2 a3 a4 a5 a6 a7 a8 a9 => by rw [o7 q a1 a4 a5, g6 q a1 a3, r7.1 q a1 a8 a9, fx3 q a1 a2 a6 a7]
              have X6g : ∀ q, q ≠ 14 → q ≠ 16 → q ≠ 17 → q ≠ 18 → q ≠ 25 → q ≠ 26 → X6.1 q = X3.1 q := fun q a1 a3 a4 a5 a8 a9 => by rw [o7 q a1 a4 a5, g6 q a1 a3, r7.1 q a1 a8 a9]
              have e00 : uS (uS (uS (uS P 3 b s) 4 b r) 5 b ev) 0 1 ((b : Int) + 1) 0 0 = P 0 0 := rfl
              have e01 : uS (uS (uS (uS P 3 b s) 4 b r) 5 b ev) 0 1 ((b : Int) + 1) 0 1 = (b : Int) + 1 := rfl
              have e02 : uS (uS (uS (uS P 3 b s) 4 b r) 5 b ev) 0 1 ((b : Int) + 1) 0 2 = P 0 2 := rfl
              have eo : ∀ a i, a = 6 ∨ a = 7 ∨ a = 8 → uS (uS (uS (uS P 3 b s) 4 b r) 5 b ev) 0 1 ((b : Int) + 1) a i = P a i := fun a i ha => by rw [uS_nf (by omega), uS_nf (by omega), uS_nf (by omega), uS_nf (by omega)]
              have es : ∀ i, uS (uS (uS (uS P 3 b s) 4 b r) 5 b ev) 0 1 ((b : Int) + 1) 3 i = (if i = b then s else P 3 i) ∧ uS (uS (uS (uS P 3 b s) 4 b r) 5 b ev) 0 1 ((b : Int) + 1) 4 i = (if i = b then r else P 4 i) ∧ uS (uS (uS (uS P 3 b s) 4 b r) 5 b ev) 0 1 ((b : Int) + 1) 5 i = (if i = b then ev else P 5 i) := fun i => by
                refine ⟨?_, ?_, ?_⟩ <;> unfold uS <;> by_cases q : i = b <;> simp [q]
              refine ⟨j6, uS (uS (uS (uS P 3 b s) 4 b r) 5 b ev) 0 1 ((b : Int) + 1), v, rl, X6, _, rfl, rfl, o3.fr (fun _ _ => rfl) (nm 1 (by decide) (by decide) (by decide) (by decide)) (fun i _ _ => nf i (by omega)) (n2 0 (by decide)), ?_, ?_, ?_, ?_, by omega⟩
              · refine ⟨⟨?_, ?_, ?_⟩, ⟨?_, ?_, ?_⟩, ⟨?_, ?_, p9⟩, fun q hq => ?_, fun q hq => ?_, fun i hi => ?_, fun i hi => ?_, ⟨fun q hq => ?_, fun q hq => ?_, ?_⟩, fun q hq => ?_, ⟨fun k hk => ?_, fun k hk => ?_⟩⟩
                · rw [X6g 15 (by decide) (by decide) (by decide) (by decide) (by decide) (by decide), e00, hK]; exact x0
                · rw [X6g 15 (by decide) (by decide) (by decide) (by decide) (by decide) (by decide), e01]; exact x1'
                · rw [X6g 15 (by decide) (by decide) (by decide) (by decide) (by decide) (by decide), e02, x2']; exact p3
                · rw [nf 25 (by decide), bmA.2.1 25 (by omega), e00, hK]; exact n25
                · rw [u1_self, e01]
                · rw [nf 27 (by decide), bmA.2.1 27 (by omega), t8.2.1 27 (by omega), e02]; exact p6
                · rw [o8, g7, r7.2.1, v3b]; exact p7
                · rw [nf 29 (by decide), bmA.2.1 29 (by omega), t8.2.1 29 (by omega)]; exact p8
                · obtain ⟨u3, u4, u5⟩ := es q
                  rw [u3, u4, u5]
                  by_cases eq : q = b
                  · rw [if_pos eq, if_pos eq, if_pos eq, eq]
                    exact ⟨by rw [o7 16 (by decide) (by decide) (by decide)]; exact g4, o4, o5⟩
                  · rw [if_neg eq, if_neg eq, if_neg eq]
                    have := pa q hq
                    refine ⟨?_, ?_, ?_⟩
                    · rw [o7 16 (by decide) (by decide) (by decide), g5 q eq, r7.1 16 (by decide) (by decide) (by decide), fx3 16 (by decide) (by decide) (by decide) (by decide)]; exact this.1
                    · rw [(o6 q eq).1, g6 17 (by decide) (by decide), r7.1 17 (by decide) (by decide) (by decide), fx3 17 (by decide) (by decide) (by decide) (by decide)]; exact this.2.1
                    · rw [(o6 q eq).2, g6 18 (by decide) (by decide), r7.1 18 (by decide) (by decide) (by decide), fx3 18 (by decide) (by decide) (by decide) (by decide)]; exact this.2.2
                · rw [e01] at hq
                  obtain ⟨u3, u4, u5⟩ := es q
                  rw [u3, u4, u5]
                  by_cases eq : q = b
                  · rw [if_pos eq, if_pos eq, if_pos eq, eq]
                    refine ⟨?_, ?_, ?_⟩
                    · rw [u1_ne (by decide), u1_ne (by decide), u1_ne (by decide), u1_self]
                    · rw [u1_ne (by decide), u1_ne (by decide), u1_self]
                    · rw [u1_ne (by decide), u1_self]
                  · rw [if_neg eq, if_neg eq, if_neg eq]
                    have := pb q (by omega)
                    have m4 : ∀ z, z = 4 ∨ z = 5 ∨ z = 6 → M6.1 z (6 + q) = M1.1 z (6 + q) := fun z hz => by rw [bmA.1 z (by omega) (by omega), t8.1 z (by omega)]
                    refine ⟨?_, ?_, ?_⟩
                    · rw [u1_ne (by decide), u1_ne (by decide), u1_ne (by decide), u1_s _ _ _ _ (by omega)]
                      exact (m4 4 (by omega)).trans this.1
                    · rw [u1_ne (by decide), u1_ne (by decide), u1_s _ _ _ _ (by omega), u1_ne (by decide)]
                      exact (m4 5 (by omega)).trans this.2.1
                    · rw [u1_ne (by decide), u1_s _ _ _ _ (by omega), u1_ne (by decide), u1_ne (by decide)]
                      exact (m4 6 (by omega)).trans this.2.2
                · rw [e02] at hi
                  rw [X6f 19 (by decide) (by decide) (by decide) (by decide) (by decide) (by decide) (by decide) (by decide) (by decide), X6f 20 (by decide) (by decide) (by decide) (by decide) (by decide) (by decide) (by decide) (by decide) (by decide), X6f 21 (by decide) (by decide) (by decide) (by decide) (by decide) (by decide) (by decide) (by decide) (by decide), eo 6 i (by omega), eo 7 i (by omega), eo 8 i (by omega)]; exact pc i hi
                · rw [e02] at hi
                  have m4 : ∀ z, z = 7 ∨ z = 8 ∨ z = 9 → M6.1 z = M1.1 z := fun z hz => by rw [bmA.1 z (by omega) (by omega), t8.1 z (by omega)]
                  rw [nm 7 (by decide) (by decide) (by decide) (by decide), nm 8 (by decide) (by decide) (by decide) (by decide), nm 9 (by decide) (by decide) (by decide) (by decide), m4 7 (by omega), m4 8 (by omega), m4 9 (by omega), eo 6 i (by omega), eo 7 i (by omega), eo 8 i (by omega)]; exact pd i hi
                · rw [o7 25 (by decide) (by decide) (by decide), g6 25 (by decide) (by decide)]; exact r4.1 q hq
                · rw [o7 26 (by decide) (by decide) (by decide), g6 26 (by decide) (by decide)]; exact r4.2.1 q hq
                · rw [o7 24 (by decide) (by decide) (by decide), g6 24 (by decide) (by decide)]; exact r4.2.2
                · rw [nm 11 (by decide) (by decide) (by decide) (by decide), o9.1 11 (by decide), g8.1 11 (by decide)]; exact r5 q hq
                · rw [e00, hK] at hk
                  rw [n2 2 (by decide), bmA.2.2 2 (by decide), t8.2.2 2 (by decide)]
                  obtain ⟨z, l, q⟩ := pg.1 k hk
                  have := y23 k (by omega)
                  exact ⟨z, l, q.fr (by rw [X6g 23 (by decide) (by decide) (by decide) (by decide) (by decide) (by decide)]; exact this.1) (fun j hj => by rw [X6g 22 (by decide) (by decide) (by decide) (by decide) (by decide) (by decide)]; exact this.2 j hj)⟩
                · rw [e01] at hk
                  rw [u1_2, u1_2, u1_2, u1_2, u2_at]
                  by_cases ek : k = b
                  · rw [if_pos ⟨rfl, by omega⟩, ek]
                    obtain ⟨z, l, q⟩ := y23b
                    exact ⟨z, l, q.fr (by rw [X6g 23 (by decide) (by decide) (by decide) (by decide) (by decide) (by decide)]) (fun j hj => by rw [X6g 22 (by decide) (by decide) (by decide) (by decide) (by decide) (by decide)])⟩
                  · rw [if_neg (by omega), bmA.2.2 3 (by decide), t8.2.2 3 (by decide)]
                    obtain ⟨z, l, q⟩ := pg.2 k (by omega)
                    have := y23 (3 + k) (by omega)
                    exact ⟨z, l, q.fr (by rw [X6g 23 (by decide) (by decide) (by decide) (by decide) (by decide) (by decide)]; exact this.1) (fun j hj => by rw [X6g 22 (by decide) (by decide) (by decide) (by decide) (by decide) (by decide)]; exact this.2 j hj)⟩
              · obtain ⟨o1, o2, o3, o4, o5, o6, o7, o8, o9⟩ := ok
                refine ⟨o1, by rw [e00, e01]; omega, o3, fun q => ?_, fun q => ?_, fun q hq => ?_, fun i hi => ?_, ⟨fun b2 k2 hb2 hk2 => ?_, ?_⟩, fun b2 k2 hb2 hk2 hn => ?_⟩
                · obtain ⟨u3, u4, u5⟩ := es q
                  rw [u3, u4, u5]
                  have := o4 q
                  by_cases eq : q = b
                  · rw [if_pos eq, if_pos eq, if_pos eq]; omega
                  · rw [if_neg eq, if_neg eq, if_neg eq]; exact this
                · obtain ⟨u3, u4, u5⟩ := es q
                  rw [u4, u5]
                  by_cases eq : q = b
                  · rw [if_pos eq, if_pos eq]; exact f5
                  · rw [if_neg eq, if_neg eq]; exact o5 q
                · rw [e01] at hq
                  obtain ⟨u3, u4, u5⟩ := es q
                  rw [u3, u4, u5, if_neg (by omega), if_neg (by omega), if_neg (by omega)]
                  exact o6 q (by omega)
                · rw [e02] at hi
                  rw [eo 6 i (by omega), eo 7 i (by omega), eo 8 i (by omega), e00]; exact o7 i hi
                · rw [e01] at hb2
                  rw [e00, hK] at hk2
                  by_cases eb : b2 = b
                  · subst eb
                    have := r6.2 k2 (by omega)
                    omega
                  · have a1 := r6.1 (3 * b2 + k2) (by omega) (fun j hj => by omega)
                    have a2 := r6.1 (18 + (3 * b2 + k2)) (by omega) (fun j hj => by omega)
                    rw [a1, a2]
                    exact o8.1 b2 k2 (by omega) (by omega)
                · rw [r6.1 36 (by omega) (fun j hj => by omega)]; exact o8.2
                · rw [e01, e00, hK] at hn
                  have a1 := r6.1 (3 * b2 + k2) (by omega) (fun j hj => by omega)
                  have a2 := r6.1 (18 + (3 * b2 + k2)) (by omega) (fun j hj => by omega)
                  rw [a1, a2]
                  exact o9 b2 k2 hb2 hk2 (by omega)
              · exact wx3.tr (fun q hq => by rw [o7 q (by omega) (by omega) (by omega), g6 q (by omega) (by omega), r7.1 q (by omega) (by omega) (by omega)])
              · have wA : WM M M6 := (s5.w.tr t8.w).tr ⟨fun q a b _ => bmA.1 q a b, fun q i a b c d => by rw [bmA.1 q (by omega) (by omega)], fun i a => bmA.2.1 i (by omega), fun i _ => by rw [bmA.2.2 2 (by decide)], fun i _ => by rw [bmA.2.2 3 (by decide)]⟩
                exact ((((wA.l (Or.inr ⟨rfl, by omega⟩)).u (by omega)).u (by omega)).u (by omega)).u (by omega)
            · right
              rw [o1, o2, Option.bind_some]
              dsimp only
              rw [if_pos rfl]
              have bmA : BM M2 N := (r8.tr g8.b).tr o5.b
              exact ⟨Y, N, rfl, rfl, o3, wx3.tr (fun q hq => by rw [o4.1 q (by omega), g6 q (by omega) (by omega), r7.1 q (by omega) (by omega) (by omega)]), (s5.w.tr t8.w).tr ⟨fun q a b _ => bmA.1 q a b, fun q i a b c d => by rw [bmA.1 q (by omega) (by omega)], fun i a => bmA.2.1 i (by omega), fun i _ => by rw [bmA.2.2 2 (by decide)], fun i _ => by rw [bmA.2.2 3 (by decide)]⟩⟩
          · right
            rw [g1, g2, Option.bind_some]
            dsimp only
            rw [if_pos rfl]
            have bmA : BM M2 N := r8.tr g5.b
            exact ⟨Y, N, rfl, rfl, g3, wx3.tr (fun q hq => by rw [g4.1 q (by omega), r7.1 q (by omega) (by omega) (by omega)]), (s5.w.tr t8.w).tr ⟨fun q a b _ => bmA.1 q a b, fun q i a b c d => by rw [bmA.1 q (by omega) (by omega)], fun i a => bmA.2.1 i (by omega), fun i _ => by rw [bmA.2.2 2 (by decide)], fun i _ => by rw [bmA.2.2 3 (by decide)]⟩⟩
        · right
          have r1' : lp_R_readTimes_14_18 FW (iI (b : Int)) (iI 0) X3 = some (0, Y) := r1
          have r2' : lp_M_readBench_0_43 FW w (iI (b : Int)) (iI 0) M2 = some N := r2
          rw [r1', r2', Option.bind_some]
          dsimp only
          rw [← l0, if_pos rfl]
          exact ⟨Y, N, rfl, rfl, r3, wx3.tr (fun q hq => r4.1 q (by omega) (by omega) (by omega)), (s5.w.tr t8.w).tr ⟨fun q a b _ => r5.1 q a b, fun q i a b c d => by rw [r5.1 q (by omega) (by omega)], fun i a => r5.2.1 i (by omega), fun i _ => by rw [r5.2.2 2 (by decide)], fun i _ => by rw [r5.2.2 3 (by decide)]⟩⟩
    · right
      rw [t1, Option.bind_some]
      dsimp only
      rw [if_pos rfl, t2, Option.bind_some]
      dsimp only
      have e40 : (if (N.1 0 25) = 0 then (f_M_flaw_0 1 N).bind fun M4 => j_M_readBench_0_40 w (N.1 0 26) M4 else j_M_readBench_0_40 w (N.1 0 26) N) = some N := by
        split
        · rw [t3.m.flaw, Option.bind_some]; exact t3.m.b40 _ _
        · exact t3.m.b40 _ _
      rw [e40]
      exact ⟨Y, N, rfl, rfl, t3, s4.w.tr t4.w, s5.w.tr t5.w⟩

theorem Ln_cards {T : Nat → Int} {n c i : Nat} {P : SS} {u : Nat → Int} {rl : Int} {X M : Mm} (h : Tk T n c i X M) (hp : PlR P u rl X M) (ok : PlOk P u) : LnR T n c i X M (f_R_readCards_14 X) (f_M_readCards_0 M) := by
  obtain ⟨⟨k0, k3⟩, ⟨b0, b6, bk⟩, -⟩ := id ok
  obtain ⟨j, X1, M1, s1, s2, s3, s4, s5, s6, -⟩ := h.step
  have hp1 := hp.s s4 s5
  unfold f_R_readCards_14 f_M_readCards_0
  rw [s1, s2, Option.bind_some, Option.bind_some, hp1.1.2.1]
  rcases s3.old (hp1.cn ok) hp1.2.2.2.2.2.2.2.2.2 0 3 (iI (P 0 1)) (P 0 1) (Or.inr ⟨rfl, rfl, rfl, rfl⟩) with ⟨j2, b, X2, M2, v1, v2, t1, t2, t3, t4, t5, t6⟩ | ⟨r, X2, M2, t1, t2, t3, t4, t5⟩
  · have hp2 := hp1.s t4 t5
    have cb : 0 ≤ iI b := by rw [l0]; exact (iI_le (by omega) (by omega) (by omega) (by omega)).mpr v1
    rw [t1, t2, Option.bind_some, Option.bind_some, if_pos cb]
    dsimp only
    rw [hp2.1.1]
    rcases t3.old (hp2.cn ok) hp2.2.2.2.2.2.2.2.2.2 1 0 (iI (P 0 0)) (P 0 0) (Or.inl ⟨rfl, rfl, rfl, rfl⟩) with ⟨j3, k, X3, M3, w1, w2, r1, r2, r3, r4, r5, r6⟩ | ⟨r, X3, M3, r1, r2, r3, r4, r5⟩
    · have hp3 := hp2.s r4 r5
      have ck : 0 ≤ iI k := by rw [l0]; exact (iI_le (by omega) (by omega) (by omega) (by omega)).mpr w1
      rw [r1, r2, Option.bind_some, Option.bind_some, if_pos ck]
      dsimp only
      rw [l9, l0]
      rcases r3.whole (a := 0) (b := 9) (by omega) (by omega) (by omega) (by omega) with ⟨j4, v, X4, M4, x1, x2, q1, q2, q3, q4, q5, q6⟩ | ⟨r, X4, M4, q1, q2, q3, q4, q5⟩
      · left
        have hp4 := hp3.s q4 q5
        have cv : iI 0 ≤ iI v := (iI_le (by omega) (by omega) (by omega) (by omega)).mpr x1
        have rc : f_P_cell (iI b) (iI k) = some (iI (3 * b + k)) := by unfold f_P_cell; rw [ixc]
        have wX : wr X4 25 18 (iI (3 * b + k)) (iI v) = some (u1 X4 25 (3 * b + k).toNat (iI v)) := wr_iI (by omega) (by omega) (by omega)
        have wM : wr M4 11 37 (iI (3 * b + k)) (iI v) = some (u1 M4 11 (3 * b + k).toNat (iI v)) := wr_iI (by omega) (by omega) (by omega)
        have f7 : M4.1 0 7 = 0 := q3.2.2.2.2.2.2.2.2
        rw [q1, q2, Option.bind_some, Option.bind_some]
        dsimp only
        rw [if_pos cv, rc, Option.bind_some, wX, Option.bind_some, f7, if_pos l0, ixc, wM, Option.bind_some]
        obtain ⟨⟨p1, p2, p3⟩, ⟨p4, p5, p6⟩, ⟨p7, p8, p9⟩, pa, pb, pc, pd, pe, pf, pg⟩ := hp4
        have e18 : (3 * b + k).toNat < 18 := by omega
        have ub : (3 * b + k).toNat = 3 * b.toNat + k.toNat := by omega
        refine ⟨j4, P, uw u (3 * b + k).toNat v, rl, _, _, rfl, rfl, q3.fr (fun q hq => u1_ne (by omega)) (u1_ne (by decide)) (fun i _ _ => by rw [u1_ne (by decide)]) rfl, ?_, ?_, ((((s4.w.tr t4.w).tr r4.w).tr q4.w).u (by decide) (by decide)), ((((s5.w.tr t5.w).tr r5.w).tr q5.w).u (Or.inl rfl)), by omega⟩
        · refine ⟨⟨by rw [u1_ne (by decide)]; exact p1, by rw [u1_ne (by decide)]; exact p2, by rw [u1_ne (by decide)]; exact p3⟩, ⟨by rw [u1_ne (by decide)]; exact p4, by rw [u1_ne (by decide)]; exact p5, by rw [u1_ne (by decide)]; exact p6⟩, ⟨by rw [u1_ne (by decide)]; exact p7, by rw [u1_ne (by decide)]; exact p8, p9⟩, fun b hb => by rw [u1_ne (by decide), u1_ne (by decide), u1_ne (by decide)]; exact pa b hb, fun b hb => by rw [u1_ne (by decide), u1_ne (by decide), u1_ne (by decide)]; exact pb b hb, fun i hi => by rw [u1_ne (by decide), u1_ne (by decide), u1_ne (by decide)]; exact pc i hi, fun i hi => by rw [u1_ne (by decide), u1_ne (by decide), u1_ne (by decide)]; exact pd i hi, ⟨fun q hq => ?_, fun q hq => ?_, ?_⟩, fun q hq => ?_, ⟨fun k hk => ?_, fun k hk => ?_⟩⟩
          · show (u1 X4 25 (3 * b + k).toNat (iI v)).1 25 q = _
            by_cases eq : q = (3 * b + k).toNat
            · rw [eq, u1_self, uw_eq]
            · rw [u1_s _ _ _ _ eq, uw_ne eq]; exact pe.1 q hq
          · rw [u1_ne (by decide), uw_ne (by omega)]; exact pe.2.1 q hq
          · rw [u1_ne (by decide), uw_ne (by omega)]; exact pe.2.2
          · by_cases eq : q = (3 * b + k).toNat
            · rw [eq, u1_self, uw_eq]
            · rw [u1_s _ _ _ _ eq, uw_ne eq]; exact pf q hq
          · obtain ⟨z, l, q⟩ := pg.1 k hk
            exact ⟨z, l, q.fr (by rw [u1_ne (by decide)]) (fun j _ => by rw [u1_ne (by decide)])⟩
          · obtain ⟨z, l, q⟩ := pg.2 k hk
            exact ⟨z, l, q.fr (by rw [u1_ne (by decide)]) (fun j _ => by rw [u1_ne (by decide)])⟩
        · obtain ⟨o1, o2, o3, o4, o5, o6, o7, o8, o9⟩ := ok
          refine ⟨o1, o2, o3, o4, o5, o6, o7, ⟨fun b2 k2 hb2 hk2 => ?_, by rw [uw_ne (by omega)]; exact o8.2⟩, fun b2 k2 hb2 hk2 hn => ?_⟩
          · have := o8.1 b2 k2 hb2 hk2
            rw [uw_ne (c := 18 + (3 * b2 + k2)) (by omega)]
            unfold uw
            split <;> omega
          · have := o9 b2 k2 hb2 hk2 hn
            rw [uw_ne (c := 18 + (3 * b2 + k2)) (by omega), uw_ne (c := 3 * b2 + k2) (by omega)]
            exact this
      · right
        rw [q1, q2, Option.bind_some, Option.bind_some]
        dsimp only
        rw [if_neg (by decide), if_neg (by rw [← l0]; exact q3.m.c.2)]
        exact ⟨X4, M4, rfl, rfl, q3, ((s4.w.tr t4.w).tr r4.w).tr q4.w, ((s5.w.tr t5.w).tr r5.w).tr q5.w⟩
    · right
      rw [r1, r2, Option.bind_some, Option.bind_some]
      dsimp only
      rw [if_neg (by decide), r3.m.whole, Option.bind_some]
      dsimp only
      rw [if_neg r3.m.c.2]
      exact ⟨X3, M3, rfl, rfl, r3, (s4.w.tr t4.w).tr r4.w, (s5.w.tr t5.w).tr r5.w⟩
  · right
    obtain ⟨r', e⟩ := t3.m.told ((hp1.cn ok).h t5) 1
    rw [t1, t2, Option.bind_some, Option.bind_some]
    dsimp only
    rw [if_neg (by decide), e, Option.bind_some, t3.m.whole, Option.bind_some]
    dsimp only
    rw [if_neg t3.m.c.2]
    exact ⟨X2, M2, rfl, rfl, t3, s4.w.tr t4.w, s5.w.tr t5.w⟩
theorem Ln_order {T : Nat → Int} {n c i : Nat} {P : SS} {u : Nat → Int} {rl : Int} {X M : Mm} (h : Tk T n c i X M) (hp : PlR P u rl X M) (ok : PlOk P u) : LnR T n c i X M (f_R_readOrder_14 X) (f_M_readOrder_0 M) := by
  obtain ⟨⟨k0, k3⟩, ⟨b0, b6, bk⟩, ⟨t0, t4⟩, -⟩ := id ok
  obtain ⟨⟨a1, a2, a3⟩, ⟨m1, m2, m3⟩, -⟩ := id hp
  have cS : (iI (P 0 2) < 4) ↔ P 0 2 < 4 := by rw [l4]; exact iI_lt (by omega) (by omega) (by omega) (by omega)
  have cS2 : (iI (P 0 2) = 4) ↔ P 0 2 = 4 := by rw [l4]; exact iI_eq (by omega) (by omega) (by omega) (by omega)
  have fin : ∀ N, FM N → (∀ r : Int32, ((f_M_needs_0 5 N).bind fun M3 => (f_M_readWhole_0 1 99 M3).bind fun q4 => (f_M_needs_0 8 q4.2).bind fun M5 => (f_M_readWhole_0 0 999 M5).bind fun q6 => if (q6.2.1 0 7) ≤ 0 then ((wr q6.2 7 8 (4 + (q6.2.1 0 27)) r).bind fun M8 => (wr M8 8 8 (4 + (M8.1 0 27)) q4.1).bind fun M9 => (wr M9 9 8 (4 + (M9.1 0 27)) q6.1).bind fun M10 => (some (u1 M10 0 27 ((M10.1 0 27) + 1))).bind fun M11 => some M11) else some q6.2) = some N) := by
    intro N hF r
    rw [hF.needs, Option.bind_some, hF.whole, Option.bind_some]
    dsimp only
    rw [hF.needs, Option.bind_some, hF.whole, Option.bind_some]
    dsimp only
    rw [if_neg hF.c.1]
  by_cases e : P 0 2 = 4
  · right
    obtain ⟨Y, N, y1, y2, y3, y4, y5⟩ := h.blame 4 (by omega) (by omega)
    rw [← l4] at y1 y2
    obtain ⟨r, e2⟩ := y3.m.told ((hp.cn ok).h y5) 1
    refine ⟨Y, N, ?_, ?_, y3, y4.w, y5.w⟩
    · unfold f_R_readOrder_14
      rw [a3, if_neg (fun q => by have := cS.mp q; omega), y1, Option.bind_some, zr_0, Option.bind_some]
    · unfold f_M_readOrder_0 j_M_readOrder_0_13
      rw [m3, if_pos (cS2.mpr e), y2, Option.bind_some, y3.m.goOn, Option.bind_some, e2, Option.bind_some]
      exact fin N y3.m r
  · obtain ⟨j, X1, M1, s1, s2, s3, s4, s5, s6, -⟩ := h.step
    have hp1 := hp.s s4 s5
    unfold f_R_readOrder_14 f_M_readOrder_0 j_M_readOrder_0_13
    rw [a3, m3, if_pos (cS.mpr (by omega)), if_neg (fun q => e (cS2.mp q)), s1, s2, Option.bind_some, Option.bind_some, hp1.1.1]
    rcases s3.old (hp1.cn ok) hp1.2.2.2.2.2.2.2.2.2 1 0 (iI (P 0 0)) (P 0 0) (Or.inl ⟨rfl, rfl, rfl, rfl⟩) with ⟨j2, k, X2, M2, v1, v2, r1, r2, r3, r4, r5, r6⟩ | ⟨r, X2, M2, r1, r2, r3, r4, r5⟩
    · have hp2 := hp1.s r4 r5
      have ck : ¬ (iI k < 0) := by rw [l0, iI_lt (by omega) (by omega) (by omega) (by omega)]; omega
      rw [r1, r2, Option.bind_some, Option.bind_some]
      dsimp only
      rw [if_neg ck]
      rcases r3.word (w := 4) (by omega) with ⟨j3, X3, M3, w1, w2, w3, w4, w5, w6⟩ | ⟨X3, M3, w1, w2, w3, w4, w5⟩
      · have hp3 := hp2.s w4 w5
        have w1' : f_R_readWord_14 4 X2 = some (1, X3) := w1
        rw [w1', w2, Option.bind_some, Option.bind_some]
        dsimp only
        rw [if_neg n10]
        have x99 := w3.whole (a := 1) (b := 99) (by omega) (by omega) (by omega) (by omega)
        rw [← l1, show iI 99 = (99 : Int32) from rfl] at x99
        rcases x99 with ⟨j4, ev, X4, M4, e1, e2, q1, q2, q3, q4, q5, q6⟩ | ⟨r, X4, M4, q1, q2, q3, q4, q5⟩
        · have hp4 := hp3.s q4 q5
          have ce : ¬ (iI ev < 0) := by rw [l0, iI_lt (by omega) (by omega) (by omega) (by omega)]; omega
          rw [q1, q2, Option.bind_some, Option.bind_some]
          dsimp only
          rw [if_neg ce]
          rcases q3.word (w := 7) (by omega) with ⟨j5, X5, M5, z1, z2, z3, z4, z5, z6⟩ | ⟨X5, M5, z1, z2, z3, z4, z5⟩
          · have hp5 := hp4.s z4 z5
            have z1' : f_R_readWord_14 7 X4 = some (1, X5) := z1
            rw [z1', z2, Option.bind_some, Option.bind_some]
            dsimp only
            rw [if_neg n10]
            have x999 := z3.whole (a := 0) (b := 999) (by omega) (by omega) (by omega) (by omega)
            rw [← l0, show iI 999 = (999 : Int32) from rfl] at x999
            rcases x999 with ⟨j6, fv, X6, M6, f1, f2, g1, g2, g3, g4, g5, g6⟩ | ⟨r, X6, M6, g1, g2, g3, g4, g5⟩
            · left
              have hp6 := hp5.s g4 g5
              have cf' : 0 ≤ iI fv := by rw [l0]; exact (iI_le (by omega) (by omega) (by omega) (by omega)).mpr f1
              have f7 : M6.1 0 7 ≤ 0 := by rw [g3.2.2.2.2.2.2.2.2]; exact Int32.le_refl 0
              rw [g1, g2, Option.bind_some, Option.bind_some]
              dsimp only
              rw [if_pos cf', if_pos f7]
              obtain ⟨⟨p1, p2, p3⟩, ⟨p4, p5, p6⟩, ⟨p7, p8, p9⟩, pa, pb, pc, pd, pe, pf, pg⟩ := hp6
              obtain ⟨s, hs⟩ : ∃ s : Nat, P 0 2 = s := ⟨(P 0 2).toNat, by omega⟩
              rw [hs] at p3 p6 ⊢
              have wX : ∀ (Z : Mm) (q : Nat) (x : Int32), wr Z q 4 (iI (s : Int)) x = some (u1 Z q s x) := fun Z q x => by rw [wr_iI (by omega) (by omega) (by omega), Int.toNat_natCast]
              have wM : ∀ (Z : Mm) (q : Nat) (x : Int32), wr Z q 8 (iI (4 + (s : Int))) x = some (u1 Z q (4 + s) x) := fun Z q x => by rw [wr_iI (by omega) (by omega) (by omega), show (4 + (s : Int)).toNat = 4 + s by omega]
              have i4 : (4 : Int32) + iI (s : Int) = iI (4 + (s : Int)) := by rw [l4, iI_add]
              have v1' : (u1 M6 7 (4 + s) (iI k)).1 0 27 = iI (s : Int) := by rw [u1_ne (by decide)]; exact p6
              have v2' : (u1 (u1 M6 7 (4 + s) (iI k)) 8 (4 + s) (iI ev)).1 0 27 = iI (s : Int) := by rw [u1_ne (by decide), u1_ne (by decide)]; exact p6
              have v3' : (u1 (u1 (u1 M6 7 (4 + s) (iI k)) 8 (4 + s) (iI ev)) 9 (4 + s) (iI fv)).1 0 27 = iI (s : Int) := by rw [u1_ne (by decide), u1_ne (by decide), u1_ne (by decide)]; exact p6
              have v4' : (u1 (u1 (u1 X6 19 s (iI k)) 20 s (iI ev)) 21 s (iI fv)).1 15 2 = iI (s : Int) := by rw [u1_ne (by decide), u1_ne (by decide), u1_ne (by decide)]; exact p3
              rw [wX, Option.bind_some, wX, Option.bind_some, wX, Option.bind_some, Option.bind_some, v4', p6, i4, wM, Option.bind_some, v1', i4, wM, Option.bind_some, v2', i4, wM, Option.bind_some, Option.bind_some, v3', show iI (s : Int) + 1 = iI ((s : Int) + 1) by rw [l1, iI_add]]
              have nx : ∀ q, q ≠ 15 → q ≠ 19 → q ≠ 20 → q ≠ 21 → (u1 (u1 (u1 (u1 X6 19 s (iI k)) 20 s (iI ev)) 21 s (iI fv)) 15 2 (iI ((s : Int) + 1))).1 q = X6.1 q := fun q a b c d => by rw [u1_ne a, u1_ne d, u1_ne c, u1_ne b]
              have nm : ∀ q, q ≠ 0 → q ≠ 7 → q ≠ 8 → q ≠ 9 → (u1 (u1 (u1 (u1 M6 7 (4 + s) (iI k)) 8 (4 + s) (iI ev)) 9 (4 + s) (iI fv)) 0 27 (iI ((s : Int) + 1))).1 q = M6.1 q := fun q a b c d => by rw [u1_ne a, u1_ne d, u1_ne c, u1_ne b]
              have nf : ∀ i, i ≠ 27 → (u1 (u1 (u1 (u1 M6 7 (4 + s) (iI k)) 8 (4 + s) (iI ev)) 9 (4 + s) (iI fv)) 0 27 (iI ((s : Int) + 1))).1 0 i = M6.1 0 i := fun i a => by rw [u1_s _ _ _ _ a, u1_ne (by decide), u1_ne (by decide), u1_ne (by decide)]
              have x15 : ∀ i, i ≠ 2 → (u1 (u1 (u1 (u1 X6 19 s (iI k)) 20 s (iI ev)) 21 s (iI fv)) 15 2 (iI ((s : Int) + 1))).1 15 i = X6.1 15 i := fun i a => by rw [u1_s _ _ _ _ a, u1_ne (by decide), u1_ne (by decide), u1_ne (by decide)]
              refine ⟨j6, uS (uS (uS (uS P 6 s k) 7 s ev) 8 s fv) 0 2 ((s : Int) + 1), u, rl, _, _, rfl, rfl, g3.fr (fun q hq => nx q (by omega) (by omega) (by omega) (by omega)) (nm 1 (by decide) (by decide) (by decide) (by decide)) (fun i a b => nf i (by omega)) rfl, ?_, ?_, ?_, ?_, by omega⟩
              · have e00 : uS (uS (uS (uS P 6 s k) 7 s ev) 8 s fv) 0 2 ((s : Int) + 1) 0 0 = P 0 0 := rfl
                have e01 : uS (uS (uS (uS P 6 s k) 7 s ev) 8 s fv) 0 2 ((s : Int) + 1) 0 1 = P 0 1 := rfl
                have e02 : uS (uS (uS (uS P 6 s k) 7 s ev) 8 s fv) 0 2 ((s : Int) + 1) 0 2 = (s : Int) + 1 := rfl
                have eo : ∀ a b, a = 3 ∨ a = 4 ∨ a = 5 → uS (uS (uS (uS P 6 s k) 7 s ev) 8 s fv) 0 2 ((s : Int) + 1) a b = P a b := fun a b ha => by rw [uS_nf (by omega), uS_nf (by omega), uS_nf (by omega), uS_nf (by omega)]
                have es : ∀ i, uS (uS (uS (uS P 6 s k) 7 s ev) 8 s fv) 0 2 ((s : Int) + 1) 6 i = (if i = s then k else P 6 i) ∧ uS (uS (uS (uS P 6 s k) 7 s ev) 8 s fv) 0 2 ((s : Int) + 1) 7 i = (if i = s then ev else P 7 i) ∧ uS (uS (uS (uS P 6 s k) 7 s ev) 8 s fv) 0 2 ((s : Int) + 1) 8 i = (if i = s then fv else P 8 i) := fun i => by
                  refine ⟨?_, ?_, ?_⟩ <;> unfold uS <;> by_cases q : i = s <;> simp [q]
                refine ⟨⟨?_, ?_, ?_⟩, ⟨?_, ?_, ?_⟩, ⟨?_, ?_, p9⟩, fun b hb => ?_, fun b hb => ?_, fun i hi => ?_, fun i hi => ?_, ⟨fun q hq => ?_, fun q hq => ?_, ?_⟩, fun q hq => ?_, ⟨fun k hk => ?_, fun k hk => ?_⟩⟩
                · rw [x15 0 (by decide), e00]; exact p1
                · rw [x15 1 (by decide), e01]; exact p2
                · rw [u1_self, e02]
                · rw [nf 25 (by decide), e00]; exact p4
                · rw [nf 26 (by decide), e01]; exact p5
                · rw [u1_self, e02]
                · rw [nx 14 (by decide) (by decide) (by decide) (by decide)]; exact p7
                · rw [nf 29 (by decide)]; exact p8
                · rw [nx 16 (by decide) (by decide) (by decide) (by decide), nx 17 (by decide) (by decide) (by decide) (by decide), nx 18 (by decide) (by decide) (by decide) (by decide), eo 3 b (by omega), eo 4 b (by omega), eo 5 b (by omega)]; exact pa b hb
                · rw [e01] at hb
                  rw [nm 4 (by decide) (by decide) (by decide) (by decide), nm 5 (by decide) (by decide) (by decide) (by decide), nm 6 (by decide) (by decide) (by decide) (by decide), eo 3 b (by omega), eo 4 b (by omega), eo 5 b (by omega)]; exact pb b hb
                · rw [e02] at hi
                  obtain ⟨g6', g7', g8'⟩ := es i
                  rw [g6', g7', g8']
                  by_cases ei : i = s
                  · subst ei
                    rw [if_pos rfl, if_pos rfl, if_pos rfl]
                    refine ⟨?_, ?_, ?_⟩
                    · rw [u1_ne (by decide), u1_ne (by decide), u1_ne (by decide), u1_self]
                    · rw [u1_ne (by decide), u1_ne (by decide), u1_self]
                    · rw [u1_ne (by decide), u1_self]
                  · rw [if_neg ei, if_neg ei, if_neg ei]
                    have := pc i (by omega)
                    refine ⟨?_, ?_, ?_⟩
                    · rw [u1_ne (by decide), u1_ne (by decide), u1_ne (by decide), u1_s _ _ _ _ ei]; exact this.1
                    · rw [u1_ne (by decide), u1_ne (by decide), u1_s _ _ _ _ ei, u1_ne (by decide)]; exact this.2.1
                    · rw [u1_ne (by decide), u1_s _ _ _ _ ei, u1_ne (by decide), u1_ne (by decide)]; exact this.2.2
                · rw [e02] at hi
                  obtain ⟨g6', g7', g8'⟩ := es i
                  rw [g6', g7', g8']
                  by_cases ei : i = s
                  · subst ei
                    rw [if_pos rfl, if_pos rfl, if_pos rfl]
                    refine ⟨?_, ?_, ?_⟩
                    · rw [u1_ne (by decide), u1_ne (by decide), u1_ne (by decide), u1_self]
                    · rw [u1_ne (by decide), u1_ne (by decide), u1_self]
                    · rw [u1_ne (by decide), u1_self]
                  · rw [if_neg ei, if_neg ei, if_neg ei]
                    have := pd i (by omega)
                    refine ⟨?_, ?_, ?_⟩
                    · rw [u1_ne (by decide), u1_ne (by decide), u1_ne (by decide), u1_s _ _ _ _ (by omega)]; exact this.1
                    · rw [u1_ne (by decide), u1_ne (by decide), u1_s _ _ _ _ (by omega), u1_ne (by decide)]; exact this.2.1
                    · rw [u1_ne (by decide), u1_s _ _ _ _ (by omega), u1_ne (by decide), u1_ne (by decide)]; exact this.2.2
                · rw [nx 25 (by decide) (by decide) (by decide) (by decide)]; exact pe.1 q hq
                · rw [nx 26 (by decide) (by decide) (by decide) (by decide)]; exact pe.2.1 q hq
                · rw [nx 24 (by decide) (by decide) (by decide) (by decide)]; exact pe.2.2
                · rw [nm 11 (by decide) (by decide) (by decide) (by decide)]; exact pf q hq
                · obtain ⟨z, l, q⟩ := pg.1 k (by rw [e00] at hk; exact hk)
                  exact ⟨z, l, q.fr (by rw [nx 23 (by decide) (by decide) (by decide) (by decide)]) (fun j _ => by rw [nx 22 (by decide) (by decide) (by decide) (by decide)])⟩
                · obtain ⟨z, l, q⟩ := pg.2 k (by rw [e01] at hk; exact hk)
                  exact ⟨z, l, q.fr (by rw [nx 23 (by decide) (by decide) (by decide) (by decide)]) (fun j _ => by rw [nx 22 (by decide) (by decide) (by decide) (by decide)])⟩
              · obtain ⟨o1, o2, o3, o4, o5, o6, o7, o8, o9⟩ := ok
                have eo : ∀ a b, a = 3 ∨ a = 4 ∨ a = 5 → uS (uS (uS (uS P 6 s k) 7 s ev) 8 s fv) 0 2 ((s : Int) + 1) a b = P a b := fun a b ha => by rw [uS_nf (by omega), uS_nf (by omega), uS_nf (by omega), uS_nf (by omega)]
                have es : ∀ i, uS (uS (uS (uS P 6 s k) 7 s ev) 8 s fv) 0 2 ((s : Int) + 1) 6 i = (if i = s then k else P 6 i) ∧ uS (uS (uS (uS P 6 s k) 7 s ev) 8 s fv) 0 2 ((s : Int) + 1) 7 i = (if i = s then ev else P 7 i) ∧ uS (uS (uS (uS P 6 s k) 7 s ev) 8 s fv) 0 2 ((s : Int) + 1) 8 i = (if i = s then fv else P 8 i) := fun i => by
                  refine ⟨?_, ?_, ?_⟩ <;> unfold uS <;> by_cases q : i = s <;> simp [q]
                refine ⟨o1, o2, ?_, fun b => by rw [eo 3 b (by omega), eo 4 b (by omega), eo 5 b (by omega)]; exact o4 b, fun b => by rw [eo 4 b (by omega), eo 5 b (by omega)]; exact o5 b, fun b hb => by rw [eo 3 b (by omega), eo 4 b (by omega), eo 5 b (by omega)]; exact o6 b hb, fun i hi => ?_, o8, o9⟩
                · show 0 ≤ (s : Int) + 1 ∧ (s : Int) + 1 ≤ 4
                  omega
                · have hi' : (i : Int) < (s : Int) + 1 := hi
                  obtain ⟨g6', g7', g8'⟩ := es i
                  rw [g6', g7', g8']
                  show _ ∧ _ < P 0 0 ∧ _
                  by_cases ei : i = s
                  · rw [if_pos ei, if_pos ei, if_pos ei]; omega
                  · rw [if_neg ei, if_neg ei, if_neg ei]; exact o7 i (by omega)
              · exact ((((((s4.w.tr r4.w).tr w4.w).tr q4.w).tr z4.w).tr g4.w).u (by decide) (by decide) |>.u (by decide) (by decide) |>.u (by decide) (by decide) |>.u (by decide) (by decide))
              · exact ((((((s5.w.tr r5.w).tr w5.w).tr q5.w).tr z5.w).tr g5.w).u (by omega) |>.u (by omega) |>.u (by omega) |>.u (by omega))
            · right
              rw [g1, g2, Option.bind_some, Option.bind_some]
              dsimp only
              rw [if_neg (by decide), if_neg g3.m.c.1]
              exact ⟨X6, M6, rfl, rfl, g3, ((((s4.w.tr r4.w).tr w4.w).tr q4.w).tr z4.w).tr g4.w, ((((s5.w.tr r5.w).tr w5.w).tr q5.w).tr z5.w).tr g5.w⟩
          · right
            have z1' : f_R_readWord_14 7 X4 = some (0, X5) := z1
            rw [z1', z2, Option.bind_some, Option.bind_some]
            dsimp only
            rw [if_pos rfl, z3.m.whole, Option.bind_some]
            dsimp only
            rw [if_neg z3.m.c.1]
            exact ⟨X5, M5, rfl, rfl, z3, (((s4.w.tr r4.w).tr w4.w).tr q4.w).tr z4.w, (((s5.w.tr r5.w).tr w5.w).tr q5.w).tr z5.w⟩
        · right
          rw [q1, q2, Option.bind_some, Option.bind_some]
          dsimp only
          rw [if_pos (by decide), q3.m.needs, Option.bind_some, q3.m.whole, Option.bind_some]
          dsimp only
          rw [if_neg q3.m.c.1]
          exact ⟨X4, M4, rfl, rfl, q3, ((s4.w.tr r4.w).tr w4.w).tr q4.w, ((s5.w.tr r5.w).tr w5.w).tr q5.w⟩
      · right
        have w1' : f_R_readWord_14 4 X2 = some (0, X3) := w1
        rw [w1', w2, Option.bind_some, Option.bind_some]
        dsimp only
        rw [if_pos rfl, w3.m.whole, Option.bind_some]
        dsimp only
        rw [w3.m.needs, Option.bind_some, w3.m.whole, Option.bind_some]
        dsimp only
        rw [if_neg w3.m.c.1]
        exact ⟨X3, M3, rfl, rfl, w3, (s4.w.tr r4.w).tr w4.w, (s5.w.tr r5.w).tr w5.w⟩
    · right
      rw [r1, r2, Option.bind_some, Option.bind_some]
      dsimp only
      rw [if_pos (by decide), fin M2 r3.m r]
      exact ⟨X2, M2, rfl, rfl, r3, s4.w.tr r4.w, s5.w.tr r5.w⟩

theorem X_beginAt_35 {C S : SS} {w : Nat → Int} {tt : Int} {M : Mm} {b k : Nat} (hC : CfgX C M) (hO : CfgOk C) (h : RelX 35 S tt M) (hw : WyX 32 w M) (hb : (b : Int) < C 0 1) (hk : (k : Int) < C 0 0) (A : AvS C S) : ∃ M', f_L_beginAt_35 (iI b) (iI k) M = some M' ∧ RelX 35 (begS C w b k S) tt M' ∧ OnlyX 35 M M' := by
  have hb6 := sz6 hO hb
  have hk3 : k < 3 := by have := hO.2.1; omega
  have hkk := hO.2.1
  obtain ⟨a1, a2, a3, a4, a5, a6⟩ := A.1 b hb
  have cb : (iI (b : Int) ≤ 0) ↔ b = 0 := by rw [l0, iI_le (by omega) (by omega) (by omega) (by omega)]; omega
  have c18 : 3 * b + k < szX 15 := by simp only [szX]; omega
  have zc : (3 * (b : Int) + (k : Int)) = (ixX 15 (3 * b + k) : Int) := by simp only [ixX]; omega
  have fin : ∀ (M1 : Mm) (T : SS), RelX 35 T tt M1 → OnlyX 35 M M1 → T 15 (3 * b + k) = S 15 (3 * b + k) → T 2 b = S 2 b → T 14 0 = S 14 0 → ∃ M', j_L_beginAt_35_34 (iI b) (iI k) (iI (3 * b + k)) M1 = some M' ∧ RelX 35 (uS (uS (uS (uS (uS T 15 (3 * b + k) (S 15 (3 * b + k) + 1)) 1 b (S 14 0 + w (18 + (3 * b + k)) + (if S 2 b ≠ -2 ∧ S 2 b ≠ k then C 3 b else 0))) 0 b 1) 17 b k) 2 b k) tt M' ∧ OnlyX 35 M M' := by
    intro M1 T hT o1 t15 t2 t14
    have r15 : rd (M1.1 37) 18 (iI (3 * (b : Int) + k)) = some (iI (S 15 (3 * b + k))) := by rw [← t15]; exact hT.rd 15 (3 * b + k) (fx 15 rfl) (by decide) c18 zc
    unfold j_L_beginAt_35_34
    rw [r15, Option.bind_some]
    obtain ⟨M2, w2, h2, o2⟩ : ∃ M2, wr M1 37 18 (iI (3 * (b : Int) + k)) (iI (S 15 (3 * b + k) + 1)) = some M2 ∧ RelX 35 (uS T 15 (3 * b + k) (S 15 (3 * b + k) + 1)) tt M2 ∧ OnlyX 35 M1 M2 := hT.wr 15 (3 * b + k) (fx 15 rfl) (by decide) c18 zc
    rw [show iI (S 15 (3 * b + k)) + 1 = iI (S 15 (3 * b + k) + 1) by rw [l1, iI_add], w2, Option.bind_some]
    have o12 := o1.tr o2
    have hC2 := o12.cfg (by decide) hC
    have hw2 := o12.wy (q := 32) (by decide) hw
    have r2 : rd (M2.1 39) 6 (iI (b : Int)) = some (iI (S 2 b)) := by
      have := h2.rd 2 b (z := b) (fx 2 rfl) (by decide) hb6 rfl
      rw [uS_nf (by decide), t2] at this
      exact this
    have r14 : M2.1 35 14 = iI (S 14 0) := by
      have := h2.1 14 0 (fx 14 rfl) (by decide)
      rw [uS_nf (by decide), t14] at this
      exact this
    have rt : rd (M2.1 34) 18 (iI (3 * (b : Int) + k)) = some (iI (w (18 + (3 * b + k)))) := by
      rw [rd_iI (by omega) (by omega) (by decide), show (3 * (b : Int) + (k : Int)).toNat = 3 * b + k by omega]
      exact congrArg some (hw2.2.1 _ (by omega))
    have last : ∀ e : Int, ∃ M', j_L_beginAt_35_109 (iI b) (iI k) (iI e) (iI (S 14 0 + w (18 + (3 * b + k)))) (iI b) M2 = some M' ∧ RelX 35 (uS (uS (uS (uS (uS T 15 (3 * b + k) (S 15 (3 * b + k) + 1)) 1 b (S 14 0 + w (18 + (3 * b + k)) + e)) 0 b 1) 17 b k) 2 b k) tt M' ∧ OnlyX 35 M M' := by
      intro e
      unfold j_L_beginAt_35_109
      obtain ⟨M3, w3, h3, o3⟩ : ∃ M3, wr M2 40 6 (iI (b : Int)) (iI (S 14 0 + w (18 + (3 * b + k)) + e)) = some M3 ∧ RelX 35 (uS (uS T 15 (3 * b + k) (S 15 (3 * b + k) + 1)) 1 b (S 14 0 + w (18 + (3 * b + k)) + e)) tt M3 ∧ OnlyX 35 M2 M3 := h2.wr 1 b (fx 1 rfl) (by decide) hb6 rfl
      rw [iI_add, w3, Option.bind_some]
      obtain ⟨M4, w4, h4, o4⟩ : ∃ M4, wr M3 38 6 (iI (b : Int)) (iI 1) = some M4 ∧ RelX 35 (uS (uS (uS T 15 (3 * b + k) (S 15 (3 * b + k) + 1)) 1 b (S 14 0 + w (18 + (3 * b + k)) + e)) 0 b 1) tt M4 ∧ OnlyX 35 M3 M4 := h3.wr 0 b (fx 0 rfl) (by decide) hb6 rfl
      rw [l1, w4, Option.bind_some]
      have h4' := h4.skip (i := 17) (j := b) (by unfold fdX; omega) k
      obtain ⟨M5, w5, h5, o5⟩ : ∃ M5, wr M4 39 6 (iI (b : Int)) (iI (k : Int)) = some M5 ∧ RelX 35 (uS (uS (uS (uS (uS T 15 (3 * b + k) (S 15 (3 * b + k) + 1)) 1 b (S 14 0 + w (18 + (3 * b + k)) + e)) 0 b 1) 17 b k) 2 b k) tt M5 ∧ OnlyX 35 M4 M5 := h4'.wr 2 b (fx 2 rfl) (by decide) hb6 rfl
      rw [w5]
      exact ⟨M5, rfl, h5, ((o12.tr o3).tr o4).tr o5⟩
    have c2 : (iI (S 2 b) = -2) ↔ S 2 b = -2 := by rw [lm2, iI_eq (by omega) (by omega) (by omega) (by omega)]
    have c3 : (iI (S 2 b) = iI (k : Int)) ↔ S 2 b = k := iI_eq (by omega) (by omega) (by omega) (by omega)
    have no : ¬ (S 2 b ≠ -2 ∧ S 2 b ≠ k) → ∃ M', j_L_beginAt_35_69 (iI b) (iI k) (iI (3 * b + k)) M2 = some M' ∧ RelX 35 (uS (uS (uS (uS (uS T 15 (3 * b + k) (S 15 (3 * b + k) + 1)) 1 b (S 14 0 + w (18 + (3 * b + k)) + (if S 2 b ≠ -2 ∧ S 2 b ≠ k then C 3 b else 0))) 0 b 1) 17 b k) 2 b k) tt M' ∧ OnlyX 35 M M' := by
      intro hn
      unfold j_L_beginAt_35_69 j_L_beginAt_35_70
      rw [rt, Option.bind_some, if_pos rfl, r14, iI_add, if_neg hn, l0]
      exact last 0
    rw [r2, Option.bind_some]
    by_cases e2 : S 2 b = -2
    · rw [if_pos (c2.mpr e2)]
      exact no (fun z => z.1 e2)
    · rw [if_neg (fun q => e2 (c2.mp q)), Option.bind_some]
      by_cases e3 : S 2 b = k
      · rw [if_pos (c3.mpr e3)]
        exact no (fun z => z.2 e3)
      · rw [if_neg (fun q => e3 (c3.mp q))]
        unfold j_L_beginAt_35_70
        have rs : rd (M2.1 3) 6 (iI (b : Int)) = some (iI (C 3 b)) := by rw [rd_iI (by omega) (by omega) (by decide), Int.toNat_natCast, (hC2.2.2.2.1 b hb6 hb).1]
        rw [rt, Option.bind_some, if_neg (show ¬ (1 : Int32) = 0 by decide), rs, Option.bind_some, r14, iI_add, if_pos (show S 2 b ≠ -2 ∧ S 2 b ≠ k from ⟨e2, e3⟩)]
        exact last (C 3 b)
  have rc : f_P_cell (iI (b : Int)) (iI (k : Int)) = some (iI (3 * b + k)) := by unfold f_P_cell; rw [ixc]
  unfold f_L_beginAt_35 begS takS
  rw [rc, Option.bind_some]
  by_cases eb : b = 0
  · rw [if_pos (cb.mpr eb), if_pos eb]
    exact fin M S h OnlyX.rf rfl rfl rfl
  · rw [if_neg (fun q => eb (cb.mp q)), if_neg eb]
    have c18' : 3 * (b - 1) + k < szX 4 := by simp only [szX]; omega
    have zc' : (3 * (b : Int) + (k : Int) - 3) = (ixX 4 (3 * (b - 1) + k) : Int) := by simp only [ixX]; omega
    have r4 : rd (M.1 36) 18 (iI (3 * (b : Int) + k - 3)) = some (iI (S 4 (3 * (b - 1) + k))) := h.rd 4 (3 * (b - 1) + k) (fx 4 rfl) (by decide) c18' zc'
    rw [l3, iI_sub, r4, Option.bind_some]
    obtain ⟨M2, w2, h2, o2⟩ : ∃ M2, wr M 36 18 (iI (3 * (b : Int) + k - 3)) (iI (S 4 (3 * (b - 1) + k) - 1)) = some M2 ∧ RelX 35 (uS S 4 (3 * (b - 1) + k) (S 4 (3 * (b - 1) + k) - 1)) tt M2 ∧ OnlyX 35 M M2 := h.wr 4 (3 * (b - 1) + k) (fx 4 rfl) (by decide) c18' zc'
    rw [show iI (S 4 (3 * (b - 1) + k)) - 1 = iI (S 4 (3 * (b - 1) + k) - 1) by rw [l1, iI_sub], w2, Option.bind_some]
    have r15 : rd (M2.1 37) 18 (iI (3 * (b : Int) + k - 3)) = some (iI (S 15 (3 * (b - 1) + k))) := by
      have := h2.rd 15 (3 * (b - 1) + k) (z := 3 * (b : Int) + k - 3) (fx 15 rfl) (by decide) c18' zc'
      rw [uS_nf (by decide)] at this
      exact this
    rw [r15, Option.bind_some]
    obtain ⟨M3, w3, h3, o3⟩ : ∃ M3, wr M2 37 18 (iI (3 * (b : Int) + k - 3)) (iI (S 15 (3 * (b - 1) + k) - 1)) = some M3 ∧ RelX 35 (uS (uS S 4 (3 * (b - 1) + k) (S 4 (3 * (b - 1) + k) - 1)) 15 (3 * (b - 1) + k) (S 15 (3 * (b - 1) + k) - 1)) tt M3 ∧ OnlyX 35 M2 M3 := h2.wr 15 (3 * (b - 1) + k) (fx 15 rfl) (by decide) c18' zc'
    rw [show iI (S 15 (3 * (b - 1) + k)) - 1 = iI (S 15 (3 * (b - 1) + k) - 1) by rw [l1, iI_sub], w3, Option.bind_some]
    exact fin M3 _ h3 (o2.tr o3) (by rw [uS_ni (by omega), uS_nf (by decide)]) (by rw [uS_nf (by decide), uS_nf (by decide)]) (by rw [uS_nf (by decide), uS_nf (by decide)])
/-- the benches' starts, from n - 1 down -/
theorem X_dn_35 {C S0 : SS} {w : Nat → Int} {tt : Int} {M0 : Mm} (hC : CfgX C M0) (hO : CfgOk C) (hw : WyX 32 w M0) (hW : WyOk C w) (hT : 0 ≤ S0 14 0) (hT2 : S0 14 0 ≤ 9999) : ∀ (n fuel : Nat) (S : SS) (M : Mm), (n : Int) ≤ C 0 1 → n < fuel → Me C S0 S → RelX 35 S tt M → OnlyX 35 M0 M → ∃ M', lp_L_change_35_82 fuel (iI ((n : Int) - 1)) M = some M' ∧ RelX 35 (dnF (staS C w) n S) tt M' ∧ OnlyX 35 M0 M' := by
  intro n
  have h6 := hO.2.2.2.1
  have hk3 := hO.2.1
  induction n with
  | zero =>
    intro fuel S M _ hf hm h o
    obtain ⟨f2, rfl⟩ : ∃ f2, fuel = f2 + 1 := ⟨fuel - 1, by omega⟩
    refine ⟨M, ?_, h, o⟩
    show blp_L_change_35_82 (lp_L_change_35_82 f2) (iI (((0 : Nat) : Int) - 1)) M = _
    unfold blp_L_change_35_82
    rw [if_pos (show iI (((0 : Nat) : Int) - 1) < 0 by decide)]
  | succ n ih =>
    intro fuel S M hn hf hm h o
    obtain ⟨f2, rfl⟩ : ∃ f2, fuel = f2 + 1 := ⟨fuel - 1, by omega⟩
    have hnb : (n : Int) < C 0 1 := by omega
    have a1 := (hm.1.1 n hnb).1
    have r0 : rd (M.1 38) 6 (iI (n : Int)) = some (iI (S 0 n)) := h.rd 0 n (fx 0 rfl) (by decide) (by simp only [szX]; omega) rfl
    have step : ∃ M1, blp_L_change_35_82 (lp_L_change_35_82 f2) (iI (n : Int)) M = lp_L_change_35_82 f2 (iI ((n : Int) - 1)) M1 ∧ RelX 35 (staS C w n S) tt M1 ∧ OnlyX 35 M0 M1 := by
      have c0 : ¬ (iI (n : Int) < 0) := by rw [l0, iI_lt (by omega) (by omega) (by omega) (by omega)]; omega
      have c1 : (iI (S 0 n) = 0) ↔ S 0 n = 0 := by rw [l0]; exact iI_eq (by omega) (by omega) (by omega) (by omega)
      unfold blp_L_change_35_82 staS
      rw [if_neg c0, r0, Option.bind_some]
      by_cases e0 : S 0 n = 0
      · rw [if_pos (c1.mpr e0), if_pos e0, X_chosen_35 (o.cfg (by decide) hC) hO h (o.wy (by decide) hw) hW hnb hm.1, Option.bind_some]
        unfold j_L_change_35_105
        cases hbe : beS C w S n (C 0 0).toNat with
        | none =>
          unfold enX
          dsimp only
          rw [if_pos (show iI (-2) < 0 by decide)]
          unfold j_L_change_35_116
          exact ⟨M, by rw [lm1, iI_add]; rfl, h, o⟩
        | some k =>
          have hkl := beS_lt hO _ (Nat.le_refl _) k hbe
          unfold enX
          dsimp only
          have c2 : ¬ (iI (k : Int) < 0) := by rw [l0, iI_lt (by omega) (by omega) (by omega) (by omega)]; omega
          obtain ⟨M1, g1, g2, g3⟩ := X_beginAt_35 (b := n) (k := k) (o.cfg (by decide) hC) hO h (o.wy (by decide) hw) hnb (by omega) hm.1
          rw [if_neg c2, g1, Option.bind_some]
          unfold j_L_change_35_116
          exact ⟨M1, by rw [lm1, iI_add]; rfl, g2, o.tr g3⟩
      · rw [if_neg (fun q => e0 (c1.mp q)), if_neg e0]
        unfold j_L_change_35_105
        rw [if_pos (show (-2 : Int32) < 0 by decide)]
        unfold j_L_change_35_116
        exact ⟨M, by rw [lm1, iI_add]; rfl, h, o⟩
    obtain ⟨M1, s1, s2, s3⟩ := step
    obtain ⟨M', i1, i2, i3⟩ := ih f2 (staS C w n S) M1 (by omega) (by omega) (Me_sta hO hW hm hnb hT hT2) s2 s3
    refine ⟨M', ?_, i2, i3⟩
    rw [← i1, ← s1]
    show blp_L_change_35_82 (lp_L_change_35_82 f2) (iI (((n + 1 : Nat) : Int) - 1)) M = _
    rw [show ((n + 1 : Nat) : Int) - 1 = (n : Int) by omega]
theorem X_change_35 {C S : SS} {w : Nat → Int} {tt : Int} {M : Mm} (hC : CfgX C M) (hO : CfgOk C) (h : RelX 35 S tt M) (hw : WyX 32 w M) (hW : WyOk C w) (hB : Bd C S) (hT : S 14 0 ≤ 9999) : ∃ M', f_L_change_35 M = some M' ∧ RelX 35 (chgS C w S) (tt + (totS (chgS C w S) (C 0 0).toNat - totS S (C 0 0).toNat)) M' ∧ OnlyX 35 M M' := by
  have hk1 := hO.1
  have hk3 := hO.2.1
  have hb1 := hO.2.2.1
  have hb6 := hO.2.2.2.1
  have hs0 := hO.2.2.2.2.1
  have hs4 := hO.2.2.2.2.2.1
  have hT0 := hB.2.1
  -- ends
  have L1 := loop_up (σ := Int32 × Mm) (γ := Option Mm) (fun n s => lp_L_change_35_2 n s.1 s.2) (C 0 1).toNat (fun i s => s.1 = iI (i : Int) ∧ RelX 35 (upF (endS C) i S) tt s.2 ∧ OnlyX 35 M s.2) (fun s => j_L_change_35_24 s.2) ?_ ?_ FW (FW_gt (by omega)) (iI 0, M) ⟨rfl, h, OnlyX.rf⟩
  rotate_left
  · rintro n i ⟨x, M1⟩ hi ⟨ex, r1, o1⟩
    dsimp only at ex r1 o1
    subst ex
    obtain ⟨⟨m1, m2, m3, m4⟩, m5⟩ := end_ph hO hB hT i (by omega)
    have hib : (i : Int) < C 0 1 := by omega
    have q14 : upF (endS C) i S 14 0 = S 14 0 := m2 14 0 (by decide) (by decide) (by decide) (by decide) (by decide) (by decide) (by decide)
    have q3 := (m3 i hib).2.1 (Nat.le_refl i) 3 (by decide) (by decide)
    have b3 := hB.2.2.1 i hib
    obtain ⟨M2, g1, g2, g3⟩ := X_endAt_35 (b := i) (o1.cfg (by decide) hC) hO r1 hib m1 (by omega) (by omega) (by omega) (by omega)
    refine ⟨(iI ((i + 1 : Nat) : Int), M2), ?_, rfl, g2, o1.tr g3⟩
    show blp_L_change_35_2 (lp_L_change_35_2 n) (iI (i : Int)) M1 = lp_L_change_35_2 n (iI ((i + 1 : Nat) : Int)) M2
    unfold blp_L_change_35_2
    have c0 : (iI (C 0 1) ≤ iI (i : Int)) ↔ C 0 1 ≤ (i : Int) := iI_le (by omega) (by omega) (by omega) (by omega)
    rw [(o1.cfg (by decide) hC).2.1, if_neg (fun q => by have := c0.mp q; omega), g1, Option.bind_some, l1, iI_add]
    rfl
  · rintro n ⟨x, M1⟩ ⟨ex, r1, o1⟩
    dsimp only at ex r1 o1
    subst ex
    show blp_L_change_35_2 (lp_L_change_35_2 n) (iI ((C 0 1).toNat : Int)) M1 = _
    unfold blp_L_change_35_2
    have c0 : (iI (C 0 1) ≤ iI ((C 0 1).toNat : Int)) ↔ C 0 1 ≤ ((C 0 1).toNat : Int) := iI_le (by omega) (by omega) (by omega) (by omega)
    rw [(o1.cfg (by decide) hC).2.1, if_pos (c0.mpr (by omega))]
  obtain ⟨⟨x1, M1⟩, ⟨-, r1, o1⟩, ev1⟩ := L1
  dsimp only at r1 o1 ev1
  have me := Me_end hO hB hT
  obtain ⟨⟨m1, m2, m3, m4⟩, m5⟩ := end_ph hO hB hT (C 0 1).toNat (by omega)
  have hchg0 : chgS C w S = dnF (staS C w) (C 0 1).toNat (srvS C (C 0 0).toNat (upF (endS C) (C 0 1).toNat S)) := rfl
  generalize hE : upF (endS C) (C 0 1).toNat S = E at *
  have E14 : E 14 0 = S 14 0 := me.2.1 0
  have Ek : ∀ k : Nat, E 5 k = S 5 k ∧ E 6 k = S 6 k ∧ E 12 k = S 12 k ∧ E 16 k = S 16 k := fun k =>
    ⟨m2 5 k (by decide) (by decide) (by decide) (by decide) (by decide) (by decide) (by decide), m2 6 k (by decide) (by decide) (by decide) (by decide) (by decide) (by decide) (by decide), m2 12 k (by decide) (by decide) (by decide) (by decide) (by decide) (by decide) (by decide), m2 16 k (by decide) (by decide) (by decide) (by decide) (by decide) (by decide) (by decide)⟩
  have hc : ∀ k : Nat, (k : Int) < C 0 0 → 0 ≤ E 5 k + arS C k (E 14 0) - E 6 k := by
    intro k hk
    obtain ⟨k1, k2, -, -⟩ := Ek k
    have b4 := hB.2.2.2.1 k hk
    have ha := arS_bd hO k (E 14 0)
    rw [k1, k2]; omega
  -- orders
  have L2 := loop_up (σ := Int32 × Mm) (γ := Option Mm) (fun n s => lp_L_change_35_26 n s.1 s.2) (C 0 2).toNat (fun i s => s.1 = iI (i : Int) ∧ RelX 35 (comN C i E) tt s.2 ∧ OnlyX 35 M s.2) (fun s => j_L_change_35_48 s.2) ?_ ?_ FW (FW_gt (by omega)) (iI 0, M1) ⟨rfl, by rw [comN_0]; exact r1, o1⟩
  rotate_left
  · rintro n i ⟨x, M2⟩ hi ⟨ex, r2, o2⟩
    dsimp only at ex r2 o2
    subst ex
    obtain ⟨M3, g1, g2, g3⟩ := X_takeOrder_35 (i := i) (o2.cfg (by decide) hC) hO r2 (by omega) (by omega) (by omega)
    refine ⟨(iI ((i + 1 : Nat) : Int), M3), ?_, rfl, g2, o2.tr g3⟩
    show blp_L_change_35_26 (lp_L_change_35_26 n) (iI (i : Int)) M2 = lp_L_change_35_26 n (iI ((i + 1 : Nat) : Int)) M3
    unfold blp_L_change_35_26
    have c0 : (iI (C 0 2) ≤ iI (i : Int)) ↔ C 0 2 ≤ (i : Int) := iI_le (by omega) (by omega) (by omega) (by omega)
    rw [(o2.cfg (by decide) hC).2.2.1, if_neg (fun q => by have := c0.mp q; omega), g1, Option.bind_some, l1, iI_add]
    rfl
  · rintro n ⟨x, M2⟩ ⟨ex, r2, o2⟩
    dsimp only at ex r2 o2
    subst ex
    show blp_L_change_35_26 (lp_L_change_35_26 n) (iI ((C 0 2).toNat : Int)) M2 = _
    unfold blp_L_change_35_26
    have c0 : (iI (C 0 2) ≤ iI ((C 0 2).toNat : Int)) ↔ C 0 2 ≤ ((C 0 2).toNat : Int) := iI_le (by omega) (by omega) (by omega) (by omega)
    rw [(o2.cfg (by decide) hC).2.2.1, if_pos (c0.mpr (by omega))]
  obtain ⟨⟨x2, M2⟩, ⟨-, r2, o2⟩, ev2⟩ := L2
  dsimp only at r2 o2 ev2
  rw [← sdS_0] at r2
  -- serving
  have L3 := loop_up (σ := Int32 × Mm) (γ := Option Mm) (fun n s => lp_L_change_35_50 n s.1 s.2) (C 0 0).toNat (fun i s => s.1 = iI (i : Int) ∧ RelX 35 (sdS C i E) (tt + (totS (srvS C i E) i - totS E i)) s.2 ∧ OnlyX 35 M s.2) (fun s => j_L_change_35_72 s.2) ?_ ?_ FW (FW_gt (by omega)) (iI 0, M2) ⟨rfl, by rw [show tt + (totS (srvS C 0 E) 0 - totS E 0) = tt by show tt + ((0 : Int) - 0) = tt; omega]; exact r2, o2⟩
  rotate_left
  · rintro n i ⟨x, M3⟩ hi ⟨ex, r3, o3⟩
    dsimp only at ex r3 o3
    subst ex
    have hik : (i : Int) < C 0 0 := by omega
    obtain ⟨k1, k2, k3, k4⟩ := Ek i
    have b4 := hB.2.2.2.1 i hik
    have hcb := cuA_bd hO i (S 14 0).toNat
    obtain ⟨M4, g1, g2, g3⟩ := X_deliver_35 (k := i) (o3.cfg (by decide) hC) hO r3 hik me.1 (by omega) (by omega) (by omega) (by omega) (by omega) (by omega)
    have et : tt + (totS (srvS C i E) i - totS E i) + dvS C E i = tt + (totS (srvS C (i + 1) E) (i + 1) - totS E (i + 1)) := by
      have t1 : totS (srvS C (i + 1) E) (i + 1) = totS (srvS C (i + 1) E) i + srvS C (i + 1) E 6 i := rfl
      have t2 : totS E (i + 1) = totS E i + E 6 i := rfl
      have t3 : srvS C (i + 1) E 6 i = E 6 i + dvS C E i := (srv_k (by omega)).2.1
      have t4 : ∀ m, m ≤ i → totS (srvS C (i + 1) E) m = totS (srvS C i E) m := by
        intro m
        induction m with
        | zero => intro _; rfl
        | succ m im =>
          intro hm
          show totS (srvS C (i + 1) E) m + srvS C (i + 1) E 6 m = totS (srvS C i E) m + srvS C i E 6 m
          rw [im (by omega), (srv_k (C := C) (S := E) (n := i + 1) (k := m) (by omega)).2.1, (srv_k (C := C) (S := E) (n := i) (k := m) (by omega)).2.1]
      rw [t1, t2, t3, t4 i (Nat.le_refl i)]
      omega
    rw [et] at g2
    refine ⟨(iI ((i + 1 : Nat) : Int), M4), ?_, rfl, g2, o3.tr g3⟩
    show blp_L_change_35_50 (lp_L_change_35_50 n) (iI (i : Int)) M3 = lp_L_change_35_50 n (iI ((i + 1 : Nat) : Int)) M4
    unfold blp_L_change_35_50
    have c0 : (iI (C 0 0) ≤ iI (i : Int)) ↔ C 0 0 ≤ (i : Int) := iI_le (by omega) (by omega) (by omega) (by omega)
    rw [(o3.cfg (by decide) hC).1, if_neg (fun q => by have := c0.mp q; omega), g1, Option.bind_some, l1, iI_add]
    rfl
  · rintro n ⟨x, M3⟩ ⟨ex, r3, o3⟩
    dsimp only at ex r3 o3
    subst ex
    show blp_L_change_35_50 (lp_L_change_35_50 n) (iI ((C 0 0).toNat : Int)) M3 = _
    unfold blp_L_change_35_50
    have c0 : (iI (C 0 0) ≤ iI ((C 0 0).toNat : Int)) ↔ C 0 0 ≤ ((C 0 0).toNat : Int) := iI_le (by omega) (by omega) (by omega) (by omega)
    rw [(o3.cfg (by decide) hC).1, if_pos (c0.mpr (by omega))]
  obtain ⟨⟨x3, M3⟩, ⟨-, r3, o3⟩, ev3⟩ := L3
  dsimp only at r3 o3 ev3
  have r3' : RelX 35 (srvS C (C 0 0).toNat E) (tt + (totS (srvS C (C 0 0).toNat E) (C 0 0).toNat - totS E (C 0 0).toNat)) M3 := r3.congr (fun i j hi hj => by
    rw [sdS_all hO i j (fun q => by rcases q with rfl | rfl | rfl <;> simp only [szX] at hj <;> first | exact hj | (exfalso; unfold fdX at hi; omega))])
  have ms := Me_srv (n := (C 0 0).toNat) hO me (by omega) hc
  have etE : ∀ m, totS E m = totS S m := by
    intro m
    induction m with
    | zero => rfl
    | succ m im => show totS E m + E 6 m = totS S m + S 6 m; rw [im, (Ek m).2.1]
  rw [etE] at r3'
  generalize hR : srvS C (C 0 0).toNat E = R at *
  obtain ⟨M4, ev4, r4, o4⟩ := X_dn_35 (S0 := S) (w := w) hC hO hw hW hT0 hT (C 0 1).toNat FW R M3 (by omega) (FW_gt (by omega)) ms r3' o3
  obtain ⟨md, df⟩ := dn_ph (w := w) hO hW (S0 := S) hT0 hT (C 0 1).toNat R (by omega) ms
  rw [← hchg0] at r4 df
  have etD : ∀ m, totS (chgS C w S) m = totS R m := by
    intro m
    induction m with
    | zero => rfl
    | succ m im => show totS (chgS C w S) m + chgS C w S 6 m = totS R m + R 6 m; rw [im, df 6 m (by decide) (by decide) (by decide) (by decide) (by decide) (by decide)]
  rw [← etD] at r4
  refine ⟨M4, ?_, r4, o4⟩
  have e0 : f_L_change_35 M = lp_L_change_35_2 FW (iI 0) M := by unfold f_L_change_35; rw [l0]
  rw [e0]
  refine Eq.trans ev1 ?_
  unfold j_L_change_35_24
  rw [l0]
  refine Eq.trans ev2 ?_
  unfold j_L_change_35_48
  rw [l0]
  refine Eq.trans ev3 ?_
  unfold j_L_change_35_72
  rw [(o3.cfg (by decide) hC).2.1, l1, iI_sub, show C 0 1 - 1 = ((C 0 1).toNat : Int) - 1 by omega]
  exact ev4
theorem X_beginAt_52 {C S : SS} {w : Nat → Int} {tt : Int} {M : Mm} {b k : Nat} (hC : CfgX C M) (hO : CfgOk C) (h : RelX 52 S tt M) (hw : WyX 49 w M) (hb : (b : Int) < C 0 1) (hk : (k : Int) < C 0 0) (A : AvS C S) : ∃ M', f_L_beginAt_52 (iI b) (iI k) M = some M' ∧ RelX 52 (begS C w b k S) tt M' ∧ OnlyX 52 M M' := by
  have hb6 := sz6 hO hb
  have hk3 : k < 3 := by have := hO.2.1; omega
  have hkk := hO.2.1
  obtain ⟨a1, a2, a3, a4, a5, a6⟩ := A.1 b hb
  have cb : (iI (b : Int) ≤ 0) ↔ b = 0 := by rw [l0, iI_le (by omega) (by omega) (by omega) (by omega)]; omega
  have c18 : 3 * b + k < szX 15 := by simp only [szX]; omega
  have zc : (3 * (b : Int) + (k : Int)) = (ixX 15 (3 * b + k) : Int) := by simp only [ixX]; omega
  have fin : ∀ (M1 : Mm) (T : SS), RelX 52 T tt M1 → OnlyX 52 M M1 → T 15 (3 * b + k) = S 15 (3 * b + k) → T 2 b = S 2 b → T 14 0 = S 14 0 → ∃ M', j_L_beginAt_52_34 (iI b) (iI k) (iI (3 * b + k)) M1 = some M' ∧ RelX 52 (uS (uS (uS (uS (uS T 15 (3 * b + k) (S 15 (3 * b + k) + 1)) 1 b (S 14 0 + w (18 + (3 * b + k)) + (if S 2 b ≠ -2 ∧ S 2 b ≠ k then C 3 b else 0))) 0 b 1) 17 b k) 2 b k) tt M' ∧ OnlyX 52 M M' := by
    intro M1 T hT o1 t15 t2 t14
    have r15 : rd (M1.1 54) 18 (iI (3 * (b : Int) + k)) = some (iI (S 15 (3 * b + k))) := by rw [← t15]; exact hT.rd 15 (3 * b + k) (fx 15 rfl) (by decide) c18 zc
    unfold j_L_beginAt_52_34
    rw [r15, Option.bind_some]
    obtain ⟨M2, w2, h2, o2⟩ : ∃ M2, wr M1 54 18 (iI (3 * (b : Int) + k)) (iI (S 15 (3 * b + k) + 1)) = some M2 ∧ RelX 52 (uS T 15 (3 * b + k) (S 15 (3 * b + k) + 1)) tt M2 ∧ OnlyX 52 M1 M2 := hT.wr 15 (3 * b + k) (fx 15 rfl) (by decide) c18 zc
    rw [show iI (S 15 (3 * b + k)) + 1 = iI (S 15 (3 * b + k) + 1) by rw [l1, iI_add], w2, Option.bind_some]
    have o12 := o1.tr o2
    have hC2 := o12.cfg (by decide) hC
    have hw2 := o12.wy (q := 49) (by decide) hw
    have r2 : rd (M2.1 56) 6 (iI (b : Int)) = some (iI (S 2 b)) := by
      have := h2.rd 2 b (z := b) (fx 2 rfl) (by decide) hb6 rfl
      rw [uS_nf (by decide), t2] at this
      exact this
    have r14 : M2.1 52 14 = iI (S 14 0) := by
      have := h2.1 14 0 (fx 14 rfl) (by decide)
      rw [uS_nf (by decide), t14] at this
      exact this
    have rt : rd (M2.1 51) 18 (iI (3 * (b : Int) + k)) = some (iI (w (18 + (3 * b + k)))) := by
      rw [rd_iI (by omega) (by omega) (by decide), show (3 * (b : Int) + (k : Int)).toNat = 3 * b + k by omega]
      exact congrArg some (hw2.2.1 _ (by omega))
    have last : ∀ e : Int, ∃ M', j_L_beginAt_52_109 (iI b) (iI k) (iI e) (iI (S 14 0 + w (18 + (3 * b + k)))) (iI b) M2 = some M' ∧ RelX 52 (uS (uS (uS (uS (uS T 15 (3 * b + k) (S 15 (3 * b + k) + 1)) 1 b (S 14 0 + w (18 + (3 * b + k)) + e)) 0 b 1) 17 b k) 2 b k) tt M' ∧ OnlyX 52 M M' := by
      intro e
      unfold j_L_beginAt_52_109
      obtain ⟨M3, w3, h3, o3⟩ : ∃ M3, wr M2 57 6 (iI (b : Int)) (iI (S 14 0 + w (18 + (3 * b + k)) + e)) = some M3 ∧ RelX 52 (uS (uS T 15 (3 * b + k) (S 15 (3 * b + k) + 1)) 1 b (S 14 0 + w (18 + (3 * b + k)) + e)) tt M3 ∧ OnlyX 52 M2 M3 := h2.wr 1 b (fx 1 rfl) (by decide) hb6 rfl
      rw [iI_add, w3, Option.bind_some]
      obtain ⟨M4, w4, h4, o4⟩ : ∃ M4, wr M3 55 6 (iI (b : Int)) (iI 1) = some M4 ∧ RelX 52 (uS (uS (uS T 15 (3 * b + k) (S 15 (3 * b + k) + 1)) 1 b (S 14 0 + w (18 + (3 * b + k)) + e)) 0 b 1) tt M4 ∧ OnlyX 52 M3 M4 := h3.wr 0 b (fx 0 rfl) (by decide) hb6 rfl
      rw [l1, w4, Option.bind_some]
      have h4' := h4.skip (i := 17) (j := b) (by unfold fdX; omega) k
      obtain ⟨M5, w5, h5, o5⟩ : ∃ M5, wr M4 56 6 (iI (b : Int)) (iI (k : Int)) = some M5 ∧ RelX 52 (uS (uS (uS (uS (uS T 15 (3 * b + k) (S 15 (3 * b + k) + 1)) 1 b (S 14 0 + w (18 + (3 * b + k)) + e)) 0 b 1) 17 b k) 2 b k) tt M5 ∧ OnlyX 52 M4 M5 := h4'.wr 2 b (fx 2 rfl) (by decide) hb6 rfl
      rw [w5]
      exact ⟨M5, rfl, h5, ((o12.tr o3).tr o4).tr o5⟩
    have c2 : (iI (S 2 b) = -2) ↔ S 2 b = -2 := by rw [lm2, iI_eq (by omega) (by omega) (by omega) (by omega)]
    have c3 : (iI (S 2 b) = iI (k : Int)) ↔ S 2 b = k := iI_eq (by omega) (by omega) (by omega) (by omega)
    have no : ¬ (S 2 b ≠ -2 ∧ S 2 b ≠ k) → ∃ M', j_L_beginAt_52_69 (iI b) (iI k) (iI (3 * b + k)) M2 = some M' ∧ RelX 52 (uS (uS (uS (uS (uS T 15 (3 * b + k) (S 15 (3 * b + k) + 1)) 1 b (S 14 0 + w (18 + (3 * b + k)) + (if S 2 b ≠ -2 ∧ S 2 b ≠ k then C 3 b else 0))) 0 b 1) 17 b k) 2 b k) tt M' ∧ OnlyX 52 M M' := by
      intro hn
      unfold j_L_beginAt_52_69 j_L_beginAt_52_70
      rw [rt, Option.bind_some, if_pos rfl, r14, iI_add, if_neg hn, l0]
      exact last 0
    rw [r2, Option.bind_some]
    by_cases e2 : S 2 b = -2
    · rw [if_pos (c2.mpr e2)]
      exact no (fun z => z.1 e2)
    · rw [if_neg (fun q => e2 (c2.mp q)), Option.bind_some]
      by_cases e3 : S 2 b = k
      · rw [if_pos (c3.mpr e3)]
        exact no (fun z => z.2 e3)
      · rw [if_neg (fun q => e3 (c3.mp q))]
        unfold j_L_beginAt_52_70
        have rs : rd (M2.1 3) 6 (iI (b : Int)) = some (iI (C 3 b)) := by rw [rd_iI (by omega) (by omega) (by decide), Int.toNat_natCast, (hC2.2.2.2.1 b hb6 hb).1]
        rw [rt, Option.bind_some, if_neg (show ¬ (1 : Int32) = 0 by decide), rs, Option.bind_some, r14, iI_add, if_pos (show S 2 b ≠ -2 ∧ S 2 b ≠ k from ⟨e2, e3⟩)]
        exact last (C 3 b)
  have rc : f_P_cell (iI (b : Int)) (iI (k : Int)) = some (iI (3 * b + k)) := by unfold f_P_cell; rw [ixc]
  unfold f_L_beginAt_52 begS takS
  rw [rc, Option.bind_some]
  by_cases eb : b = 0
  · rw [if_pos (cb.mpr eb), if_pos eb]
    exact fin M S h OnlyX.rf rfl rfl rfl
  · rw [if_neg (fun q => eb (cb.mp q)), if_neg eb]
    have c18' : 3 * (b - 1) + k < szX 4 := by simp only [szX]; omega
    have zc' : (3 * (b : Int) + (k : Int) - 3) = (ixX 4 (3 * (b - 1) + k) : Int) := by simp only [ixX]; omega
    have r4 : rd (M.1 53) 18 (iI (3 * (b : Int) + k - 3)) = some (iI (S 4 (3 * (b - 1) + k))) := h.rd 4 (3 * (b - 1) + k) (fx 4 rfl) (by decide) c18' zc'
    rw [l3, iI_sub, r4, Option.bind_some]
    obtain ⟨M2, w2, h2, o2⟩ : ∃ M2, wr M 53 18 (iI (3 * (b : Int) + k - 3)) (iI (S 4 (3 * (b - 1) + k) - 1)) = some M2 ∧ RelX 52 (uS S 4 (3 * (b - 1) + k) (S 4 (3 * (b - 1) + k) - 1)) tt M2 ∧ OnlyX 52 M M2 := h.wr 4 (3 * (b - 1) + k) (fx 4 rfl) (by decide) c18' zc'
    rw [show iI (S 4 (3 * (b - 1) + k)) - 1 = iI (S 4 (3 * (b - 1) + k) - 1) by rw [l1, iI_sub], w2, Option.bind_some]
    have r15 : rd (M2.1 54) 18 (iI (3 * (b : Int) + k - 3)) = some (iI (S 15 (3 * (b - 1) + k))) := by
      have := h2.rd 15 (3 * (b - 1) + k) (z := 3 * (b : Int) + k - 3) (fx 15 rfl) (by decide) c18' zc'
      rw [uS_nf (by decide)] at this
      exact this
    rw [r15, Option.bind_some]
    obtain ⟨M3, w3, h3, o3⟩ : ∃ M3, wr M2 54 18 (iI (3 * (b : Int) + k - 3)) (iI (S 15 (3 * (b - 1) + k) - 1)) = some M3 ∧ RelX 52 (uS (uS S 4 (3 * (b - 1) + k) (S 4 (3 * (b - 1) + k) - 1)) 15 (3 * (b - 1) + k) (S 15 (3 * (b - 1) + k) - 1)) tt M3 ∧ OnlyX 52 M2 M3 := h2.wr 15 (3 * (b - 1) + k) (fx 15 rfl) (by decide) c18' zc'
    rw [show iI (S 15 (3 * (b - 1) + k)) - 1 = iI (S 15 (3 * (b - 1) + k) - 1) by rw [l1, iI_sub], w3, Option.bind_some]
    exact fin M3 _ h3 (o2.tr o3) (by rw [uS_ni (by omega), uS_nf (by decide)]) (by rw [uS_nf (by decide), uS_nf (by decide)]) (by rw [uS_nf (by decide), uS_nf (by decide)])
/-- the benches' starts, from n - 1 down -/
theorem X_dn_52 {C S0 : SS} {w : Nat → Int} {tt : Int} {M0 : Mm} (hC : CfgX C M0) (hO : CfgOk C) (hw : WyX 49 w M0) (hW : WyOk C w) (hT : 0 ≤ S0 14 0) (hT2 : S0 14 0 ≤ 9999) : ∀ (n fuel : Nat) (S : SS) (M : Mm), (n : Int) ≤ C 0 1 → n < fuel → Me C S0 S → RelX 52 S tt M → OnlyX 52 M0 M → ∃ M', lp_L_change_52_82 fuel (iI ((n : Int) - 1)) M = some M' ∧ RelX 52 (dnF (staS C w) n S) tt M' ∧ OnlyX 52 M0 M' := by
  intro n
  have h6 := hO.2.2.2.1
  have hk3 := hO.2.1
  induction n with
  | zero =>
    intro fuel S M _ hf hm h o
    obtain ⟨f2, rfl⟩ : ∃ f2, fuel = f2 + 1 := ⟨fuel - 1, by omega⟩
    refine ⟨M, ?_, h, o⟩
    show blp_L_change_52_82 (lp_L_change_52_82 f2) (iI (((0 : Nat) : Int) - 1)) M = _
    unfold blp_L_change_52_82
    rw [if_pos (show iI (((0 : Nat) : Int) - 1) < 0 by decide)]
  | succ n ih =>
    intro fuel S M hn hf hm h o
    obtain ⟨f2, rfl⟩ : ∃ f2, fuel = f2 + 1 := ⟨fuel - 1, by omega⟩
    have hnb : (n : Int) < C 0 1 := by omega
    have a1 := (hm.1.1 n hnb).1
    have r0 : rd (M.1 55) 6 (iI (n : Int)) = some (iI (S 0 n)) := h.rd 0 n (fx 0 rfl) (by decide) (by simp only [szX]; omega) rfl
    have step : ∃ M1, blp_L_change_52_82 (lp_L_change_52_82 f2) (iI (n : Int)) M = lp_L_change_52_82 f2 (iI ((n : Int) - 1)) M1 ∧ RelX 52 (staS C w n S) tt M1 ∧ OnlyX 52 M0 M1 := by
      have c0 : ¬ (iI (n : Int) < 0) := by rw [l0, iI_lt (by omega) (by omega) (by omega) (by omega)]; omega
      have c1 : (iI (S 0 n) = 0) ↔ S 0 n = 0 := by rw [l0]; exact iI_eq (by omega) (by omega) (by omega) (by omega)
      unfold blp_L_change_52_82 staS
      rw [if_neg c0, r0, Option.bind_some]
      by_cases e0 : S 0 n = 0
      · rw [if_pos (c1.mpr e0), if_pos e0, X_chosen_52 (o.cfg (by decide) hC) hO h (o.wy (by decide) hw) hW hnb hm.1, Option.bind_some]
        unfold j_L_change_52_105
        cases hbe : beS C w S n (C 0 0).toNat with
        | none =>
          unfold enX
          dsimp only
          rw [if_pos (show iI (-2) < 0 by decide)]
          unfold j_L_change_52_116
          exact ⟨M, by rw [lm1, iI_add]; rfl, h, o⟩
        | some k =>
          have hkl := beS_lt hO _ (Nat.le_refl _) k hbe
          unfold enX
          dsimp only
          have c2 : ¬ (iI (k : Int) < 0) := by rw [l0, iI_lt (by omega) (by omega) (by omega) (by omega)]; omega
          obtain ⟨M1, g1, g2, g3⟩ := X_beginAt_52 (b := n) (k := k) (o.cfg (by decide) hC) hO h (o.wy (by decide) hw) hnb (by omega) hm.1
          rw [if_neg c2, g1, Option.bind_some]
          unfold j_L_change_52_116
          exact ⟨M1, by rw [lm1, iI_add]; rfl, g2, o.tr g3⟩
      · rw [if_neg (fun q => e0 (c1.mp q)), if_neg e0]
        unfold j_L_change_52_105
        rw [if_pos (show (-2 : Int32) < 0 by decide)]
        unfold j_L_change_52_116
        exact ⟨M, by rw [lm1, iI_add]; rfl, h, o⟩
    obtain ⟨M1, s1, s2, s3⟩ := step
    obtain ⟨M', i1, i2, i3⟩ := ih f2 (staS C w n S) M1 (by omega) (by omega) (Me_sta hO hW hm hnb hT hT2) s2 s3
    refine ⟨M', ?_, i2, i3⟩
    rw [← i1, ← s1]
    show blp_L_change_52_82 (lp_L_change_52_82 f2) (iI (((n + 1 : Nat) : Int) - 1)) M = _
    rw [show ((n + 1 : Nat) : Int) - 1 = (n : Int) by omega]
theorem X_change_52 {C S : SS} {w : Nat → Int} {tt : Int} {M : Mm} (hC : CfgX C M) (hO : CfgOk C) (h : RelX 52 S tt M) (hw : WyX 49 w M) (hW : WyOk C w) (hB : Bd C S) (hT : S 14 0 ≤ 9999) : ∃ M', f_L_change_52 M = some M' ∧ RelX 52 (chgS C w S) (tt + (totS (chgS C w S) (C 0 0).toNat - totS S (C 0 0).toNat)) M' ∧ OnlyX 52 M M' := by
  have hk1 := hO.1
  have hk3 := hO.2.1
  have hb1 := hO.2.2.1
  have hb6 := hO.2.2.2.1
  have hs0 := hO.2.2.2.2.1
  have hs4 := hO.2.2.2.2.2.1
  have hT0 := hB.2.1
  -- ends
  have L1 := loop_up (σ := Int32 × Mm) (γ := Option Mm) (fun n s => lp_L_change_52_2 n s.1 s.2) (C 0 1).toNat (fun i s => s.1 = iI (i : Int) ∧ RelX 52 (upF (endS C) i S) tt s.2 ∧ OnlyX 52 M s.2) (fun s => j_L_change_52_24 s.2) ?_ ?_ FW (FW_gt (by omega)) (iI 0, M) ⟨rfl, h, OnlyX.rf⟩
  rotate_left
  · rintro n i ⟨x, M1⟩ hi ⟨ex, r1, o1⟩
    dsimp only at ex r1 o1
    subst ex
    obtain ⟨⟨m1, m2, m3, m4⟩, m5⟩ := end_ph hO hB hT i (by omega)
    have hib : (i : Int) < C 0 1 := by omega
    have q14 : upF (endS C) i S 14 0 = S 14 0 := m2 14 0 (by decide) (by decide) (by decide) (by decide) (by decide) (by decide) (by decide)
    have q3 := (m3 i hib).2.1 (Nat.le_refl i) 3 (by decide) (by decide)
    have b3 := hB.2.2.1 i hib
    obtain ⟨M2, g1, g2, g3⟩ := X_endAt_52 (b := i) (o1.cfg (by decide) hC) hO r1 hib m1 (by omega) (by omega) (by omega) (by omega)
    refine ⟨(iI ((i + 1 : Nat) : Int), M2), ?_, rfl, g2, o1.tr g3⟩
    show blp_L_change_52_2 (lp_L_change_52_2 n) (iI (i : Int)) M1 = lp_L_change_52_2 n (iI ((i + 1 : Nat) : Int)) M2
    unfold blp_L_change_52_2
    have c0 : (iI (C 0 1) ≤ iI (i : Int)) ↔ C 0 1 ≤ (i : Int) := iI_le (by omega) (by omega) (by omega) (by omega)
    rw [(o1.cfg (by decide) hC).2.1, if_neg (fun q => by have := c0.mp q; omega), g1, Option.bind_some, l1, iI_add]
    rfl
  · rintro n ⟨x, M1⟩ ⟨ex, r1, o1⟩
    dsimp only at ex r1 o1
    subst ex
    show blp_L_change_52_2 (lp_L_change_52_2 n) (iI ((C 0 1).toNat : Int)) M1 = _
    unfold blp_L_change_52_2
    have c0 : (iI (C 0 1) ≤ iI ((C 0 1).toNat : Int)) ↔ C 0 1 ≤ ((C 0 1).toNat : Int) := iI_le (by omega) (by omega) (by omega) (by omega)
    rw [(o1.cfg (by decide) hC).2.1, if_pos (c0.mpr (by omega))]
  obtain ⟨⟨x1, M1⟩, ⟨-, r1, o1⟩, ev1⟩ := L1
  dsimp only at r1 o1 ev1
  have me := Me_end hO hB hT
  obtain ⟨⟨m1, m2, m3, m4⟩, m5⟩ := end_ph hO hB hT (C 0 1).toNat (by omega)
  have hchg0 : chgS C w S = dnF (staS C w) (C 0 1).toNat (srvS C (C 0 0).toNat (upF (endS C) (C 0 1).toNat S)) := rfl
  generalize hE : upF (endS C) (C 0 1).toNat S = E at *
  have E14 : E 14 0 = S 14 0 := me.2.1 0
  have Ek : ∀ k : Nat, E 5 k = S 5 k ∧ E 6 k = S 6 k ∧ E 12 k = S 12 k ∧ E 16 k = S 16 k := fun k =>
    ⟨m2 5 k (by decide) (by decide) (by decide) (by decide) (by decide) (by decide) (by decide), m2 6 k (by decide) (by decide) (by decide) (by decide) (by decide) (by decide) (by decide), m2 12 k (by decide) (by decide) (by decide) (by decide) (by decide) (by decide) (by decide), m2 16 k (by decide) (by decide) (by decide) (by decide) (by decide) (by decide) (by decide)⟩
  have hc : ∀ k : Nat, (k : Int) < C 0 0 → 0 ≤ E 5 k + arS C k (E 14 0) - E 6 k := by
    intro k hk
    obtain ⟨k1, k2, -, -⟩ := Ek k
    have b4 := hB.2.2.2.1 k hk
    have ha := arS_bd hO k (E 14 0)
    rw [k1, k2]; omega
  -- orders
  have L2 := loop_up (σ := Int32 × Mm) (γ := Option Mm) (fun n s => lp_L_change_52_26 n s.1 s.2) (C 0 2).toNat (fun i s => s.1 = iI (i : Int) ∧ RelX 52 (comN C i E) tt s.2 ∧ OnlyX 52 M s.2) (fun s => j_L_change_52_48 s.2) ?_ ?_ FW (FW_gt (by omega)) (iI 0, M1) ⟨rfl, by rw [comN_0]; exact r1, o1⟩
  rotate_left
  · rintro n i ⟨x, M2⟩ hi ⟨ex, r2, o2⟩
    dsimp only at ex r2 o2
    subst ex
    obtain ⟨M3, g1, g2, g3⟩ := X_takeOrder_52 (i := i) (o2.cfg (by decide) hC) hO r2 (by omega) (by omega) (by omega)
    refine ⟨(iI ((i + 1 : Nat) : Int), M3), ?_, rfl, g2, o2.tr g3⟩
    show blp_L_change_52_26 (lp_L_change_52_26 n) (iI (i : Int)) M2 = lp_L_change_52_26 n (iI ((i + 1 : Nat) : Int)) M3
    unfold blp_L_change_52_26
    have c0 : (iI (C 0 2) ≤ iI (i : Int)) ↔ C 0 2 ≤ (i : Int) := iI_le (by omega) (by omega) (by omega) (by omega)
    rw [(o2.cfg (by decide) hC).2.2.1, if_neg (fun q => by have := c0.mp q; omega), g1, Option.bind_some, l1, iI_add]
    rfl
  · rintro n ⟨x, M2⟩ ⟨ex, r2, o2⟩
    dsimp only at ex r2 o2
    subst ex
    show blp_L_change_52_26 (lp_L_change_52_26 n) (iI ((C 0 2).toNat : Int)) M2 = _
    unfold blp_L_change_52_26
    have c0 : (iI (C 0 2) ≤ iI ((C 0 2).toNat : Int)) ↔ C 0 2 ≤ ((C 0 2).toNat : Int) := iI_le (by omega) (by omega) (by omega) (by omega)
    rw [(o2.cfg (by decide) hC).2.2.1, if_pos (c0.mpr (by omega))]
  obtain ⟨⟨x2, M2⟩, ⟨-, r2, o2⟩, ev2⟩ := L2
  dsimp only at r2 o2 ev2
  rw [← sdS_0] at r2
  -- serving
  have L3 := loop_up (σ := Int32 × Mm) (γ := Option Mm) (fun n s => lp_L_change_52_50 n s.1 s.2) (C 0 0).toNat (fun i s => s.1 = iI (i : Int) ∧ RelX 52 (sdS C i E) (tt + (totS (srvS C i E) i - totS E i)) s.2 ∧ OnlyX 52 M s.2) (fun s => j_L_change_52_72 s.2) ?_ ?_ FW (FW_gt (by omega)) (iI 0, M2) ⟨rfl, by rw [show tt + (totS (srvS C 0 E) 0 - totS E 0) = tt by show tt + ((0 : Int) - 0) = tt; omega]; exact r2, o2⟩
  rotate_left
  · rintro n i ⟨x, M3⟩ hi ⟨ex, r3, o3⟩
    dsimp only at ex r3 o3
    subst ex
    have hik : (i : Int) < C 0 0 := by omega
    obtain ⟨k1, k2, k3, k4⟩ := Ek i
    have b4 := hB.2.2.2.1 i hik
    have hcb := cuA_bd hO i (S 14 0).toNat
    obtain ⟨M4, g1, g2, g3⟩ := X_deliver_52 (k := i) (o3.cfg (by decide) hC) hO r3 hik me.1 (by omega) (by omega) (by omega) (by omega) (by omega) (by omega)
    have et : tt + (totS (srvS C i E) i - totS E i) + dvS C E i = tt + (totS (srvS C (i + 1) E) (i + 1) - totS E (i + 1)) := by
      have t1 : totS (srvS C (i + 1) E) (i + 1) = totS (srvS C (i + 1) E) i + srvS C (i + 1) E 6 i := rfl
      have t2 : totS E (i + 1) = totS E i + E 6 i := rfl
      have t3 : srvS C (i + 1) E 6 i = E 6 i + dvS C E i := (srv_k (by omega)).2.1
      have t4 : ∀ m, m ≤ i → totS (srvS C (i + 1) E) m = totS (srvS C i E) m := by
        intro m
        induction m with
        | zero => intro _; rfl
        | succ m im =>
          intro hm
          show totS (srvS C (i + 1) E) m + srvS C (i + 1) E 6 m = totS (srvS C i E) m + srvS C i E 6 m
          rw [im (by omega), (srv_k (C := C) (S := E) (n := i + 1) (k := m) (by omega)).2.1, (srv_k (C := C) (S := E) (n := i) (k := m) (by omega)).2.1]
      rw [t1, t2, t3, t4 i (Nat.le_refl i)]
      omega
    rw [et] at g2
    refine ⟨(iI ((i + 1 : Nat) : Int), M4), ?_, rfl, g2, o3.tr g3⟩
    show blp_L_change_52_50 (lp_L_change_52_50 n) (iI (i : Int)) M3 = lp_L_change_52_50 n (iI ((i + 1 : Nat) : Int)) M4
    unfold blp_L_change_52_50
    have c0 : (iI (C 0 0) ≤ iI (i : Int)) ↔ C 0 0 ≤ (i : Int) := iI_le (by omega) (by omega) (by omega) (by omega)
    rw [(o3.cfg (by decide) hC).1, if_neg (fun q => by have := c0.mp q; omega), g1, Option.bind_some, l1, iI_add]
    rfl
  · rintro n ⟨x, M3⟩ ⟨ex, r3, o3⟩
    dsimp only at ex r3 o3
    subst ex
    show blp_L_change_52_50 (lp_L_change_52_50 n) (iI ((C 0 0).toNat : Int)) M3 = _
    unfold blp_L_change_52_50
    have c0 : (iI (C 0 0) ≤ iI ((C 0 0).toNat : Int)) ↔ C 0 0 ≤ ((C 0 0).toNat : Int) := iI_le (by omega) (by omega) (by omega) (by omega)
    rw [(o3.cfg (by decide) hC).1, if_pos (c0.mpr (by omega))]
  obtain ⟨⟨x3, M3⟩, ⟨-, r3, o3⟩, ev3⟩ := L3
  dsimp only at r3 o3 ev3
  have r3' : RelX 52 (srvS C (C 0 0).toNat E) (tt + (totS (srvS C (C 0 0).toNat E) (C 0 0).toNat - totS E (C 0 0).toNat)) M3 := r3.congr (fun i j hi hj => by
    rw [sdS_all hO i j (fun q => by rcases q with rfl | rfl | rfl <;> simp only [szX] at hj <;> first | exact hj | (exfalso; unfold fdX at hi; omega))])
  have ms := Me_srv (n := (C 0 0).toNat) hO me (by omega) hc
  have etE : ∀ m, totS E m = totS S m := by
    intro m
    induction m with
    | zero => rfl
    | succ m im => show totS E m + E 6 m = totS S m + S 6 m; rw [im, (Ek m).2.1]
  rw [etE] at r3'
  generalize hR : srvS C (C 0 0).toNat E = R at *
  obtain ⟨M4, ev4, r4, o4⟩ := X_dn_52 (S0 := S) (w := w) hC hO hw hW hT0 hT (C 0 1).toNat FW R M3 (by omega) (FW_gt (by omega)) ms r3' o3
  obtain ⟨md, df⟩ := dn_ph (w := w) hO hW (S0 := S) hT0 hT (C 0 1).toNat R (by omega) ms
  rw [← hchg0] at r4 df
  have etD : ∀ m, totS (chgS C w S) m = totS R m := by
    intro m
    induction m with
    | zero => rfl
    | succ m im => show totS (chgS C w S) m + chgS C w S 6 m = totS R m + R 6 m; rw [im, df 6 m (by decide) (by decide) (by decide) (by decide) (by decide) (by decide)]
  rw [← etD] at r4
  refine ⟨M4, ?_, r4, o4⟩
  have e0 : f_L_change_52 M = lp_L_change_52_2 FW (iI 0) M := by unfold f_L_change_52; rw [l0]
  rw [e0]
  refine Eq.trans ev1 ?_
  unfold j_L_change_52_24
  rw [l0]
  refine Eq.trans ev2 ?_
  unfold j_L_change_52_48
  rw [l0]
  refine Eq.trans ev3 ?_
  unfold j_L_change_52_72
  rw [(o3.cfg (by decide) hC).2.1, l1, iI_sub, show C 0 1 - 1 = ((C 0 1).toNat : Int) - 1 by omega]
  exact ev4

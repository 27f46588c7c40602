theorem M_deliv_15 {C S Q : SS} {M : Mm} (hO : CfgOk C) (hC : CfgM C M) (h : RelM 15 S Q M) : f_M_delivered_0_15 M = some (iI (totS S (C 0 0).toNat)) := by
  have hk1 := hO.1
  have hk3 := hO.2.1
  have loop := loop_up (σ := Int32 × Int32) (γ := Option Int32) (fun n s => lp_M_delivered_0_15_4 n s.1 s.2 M) (C 0 0).toNat (fun i s => s.1 = iI (totS S i) ∧ s.2 = iI (i : Int)) (fun s => some s.1) ?_ ?_ FW (FW_gt (by omega)) (iI 0, iI 0) ⟨rfl, rfl⟩
  · obtain ⟨s', hs, e⟩ := loop
    have e0 : f_M_delivered_0_15 M = lp_M_delivered_0_15_4 FW (iI 0) (iI 0) M := by unfold f_M_delivered_0_15; rw [l0]
    rw [e0]
    exact e.trans (by rw [hs.1])
  · rintro n i ⟨x3, x4⟩ hi ⟨e3, e4⟩
    dsimp only at e3 e4
    subst e3; subst e4
    refine ⟨(iI (totS S (i + 1)), iI ((i + 1 : Nat) : Int)), ?_, rfl, rfl⟩
    show blp_M_delivered_0_15_4 (lp_M_delivered_0_15_4 n) _ _ M = lp_M_delivered_0_15_4 n _ _ M
    unfold blp_M_delivered_0_15_4
    have c0 : (iI (C 0 0) ≤ iI (i : Int)) ↔ C 0 0 ≤ (i : Int) := iI_le (by omega) (by omega) (by omega) (by omega)
    have o1 : f_M_ofKind (iI (i : Int)) 1 = some (iI (75 + 5 * i + 1)) := by unfold f_M_ofKind; rw [l1, ix75]
    have r : rd (M.1 15) 99 (iI (75 + 5 * (i : Int) + 1)) = some (iI (S 6 i)) := rdM h 6 i (fd 6 rfl) (by simp only [szS]; omega) (by simp only [lyM]; omega)
    rw [hC.1, if_neg (fun q => by have := c0.mp q; omega), o1, Option.bind_some, r, Option.bind_some, iI_add, l1, iI_add]
    rfl
  · rintro n ⟨x3, x4⟩ ⟨e3, e4⟩
    dsimp only at e3 e4
    subst e3; subst e4
    show blp_M_delivered_0_15_4 (lp_M_delivered_0_15_4 n) _ _ M = _
    unfold blp_M_delivered_0_15_4
    have c0 : (iI (C 0 0) ≤ iI ((C 0 0).toNat : Int)) ↔ C 0 0 ≤ ((C 0 0).toNat : Int) := iI_le (by omega) (by omega) (by omega) (by omega)
    rw [hC.1, if_pos (c0.mpr (by omega))]
theorem M_deliv_16 {C S Q : SS} {M : Mm} (hO : CfgOk C) (hC : CfgM C M) (h : RelM 16 S Q M) : f_M_delivered_0_16 M = some (iI (totS S (C 0 0).toNat)) := by
  have hk1 := hO.1
  have hk3 := hO.2.1
  have loop := loop_up (σ := Int32 × Int32) (γ := Option Int32) (fun n s => lp_M_delivered_0_16_4 n s.1 s.2 M) (C 0 0).toNat (fun i s => s.1 = iI (totS S i) ∧ s.2 = iI (i : Int)) (fun s => some s.1) ?_ ?_ FW (FW_gt (by omega)) (iI 0, iI 0) ⟨rfl, rfl⟩
  · obtain ⟨s', hs, e⟩ := loop
    have e0 : f_M_delivered_0_16 M = lp_M_delivered_0_16_4 FW (iI 0) (iI 0) M := by unfold f_M_delivered_0_16; rw [l0]
    rw [e0]
    exact e.trans (by rw [hs.1])
  · rintro n i ⟨x3, x4⟩ hi ⟨e3, e4⟩
    dsimp only at e3 e4
    subst e3; subst e4
    refine ⟨(iI (totS S (i + 1)), iI ((i + 1 : Nat) : Int)), ?_, rfl, rfl⟩
    show blp_M_delivered_0_16_4 (lp_M_delivered_0_16_4 n) _ _ M = lp_M_delivered_0_16_4 n _ _ M
    unfold blp_M_delivered_0_16_4
    have c0 : (iI (C 0 0) ≤ iI (i : Int)) ↔ C 0 0 ≤ (i : Int) := iI_le (by omega) (by omega) (by omega) (by omega)
    have o1 : f_M_ofKind (iI (i : Int)) 1 = some (iI (75 + 5 * i + 1)) := by unfold f_M_ofKind; rw [l1, ix75]
    have r : rd (M.1 16) 99 (iI (75 + 5 * (i : Int) + 1)) = some (iI (S 6 i)) := rdM h 6 i (fd 6 rfl) (by simp only [szS]; omega) (by simp only [lyM]; omega)
    rw [hC.1, if_neg (fun q => by have := c0.mp q; omega), o1, Option.bind_some, r, Option.bind_some, iI_add, l1, iI_add]
    rfl
  · rintro n ⟨x3, x4⟩ ⟨e3, e4⟩
    dsimp only at e3 e4
    subst e3; subst e4
    show blp_M_delivered_0_16_4 (lp_M_delivered_0_16_4 n) _ _ M = _
    unfold blp_M_delivered_0_16_4
    have c0 : (iI (C 0 0) ≤ iI ((C 0 0).toNat : Int)) ↔ C 0 0 ≤ ((C 0 0).toNat : Int) := iI_le (by omega) (by omega) (by omega) (by omega)
    rw [hC.1, if_pos (c0.mpr (by omega))]
theorem totS_bd {C S : SS} (hO : CfgOk C) (hB : Bd C S) (hT : S 14 0 ≤ 9999) : ∀ n : Nat, (n : Int) ≤ C 0 0 → 0 ≤ totS S n ∧ totS S n ≤ 40000 * n
  | 0, _ => ⟨Int.le_refl _, Int.le_refl _⟩
  | n + 1, hn => by
    have ih := totS_bd hO hB hT n (by omega)
    have q := hB.2.2.2.1 n (by omega)
    have c := cuA_bd hO n (S 14 0).toNat
    have := hB.2.1
    show 0 ≤ totS S n + S 6 n ∧ totS S n + S 6 n ≤ _
    omega
/-- Euclid's steps: within 64 of them -/
theorem euc : ∀ (j : Nat) (x y : Int) (i fu fu2 : Nat), 0 ≤ x → x < 1000000 → 0 ≤ y → y < 2 ^ j → y < 1000000 → 0 < x ∨ 0 < y → i + 2 * j ≤ 60 → 2 * j + 1 < fu → 2 * j + 1 < fu2 → ∃ g : Int, 0 < g ∧ g < 1000000 ∧ lp_P_commonDivisor_7 fu (iI x) (iI y) (iI i) = some (iI g) ∧ lp_M_common_4 fu2 (iI x) (iI y) = some (iI g) := by
  have stop : ∀ (x : Int) (i fu fu2 : Nat), 0 < x → x < 1000000 → i < 64 → 0 < fu → 0 < fu2 → lp_P_commonDivisor_7 fu (iI x) (iI 0) (iI i) = some (iI x) ∧ lp_M_common_4 fu2 (iI x) (iI 0) = some (iI x) := by
    intro x i fu fu2 hx hx2 hi hf hf2
    obtain ⟨f, rfl⟩ : ∃ f, fu = f + 1 := ⟨fu - 1, by omega⟩
    obtain ⟨f2, rfl⟩ : ∃ f, fu2 = f + 1 := ⟨fu2 - 1, by omega⟩
    refine ⟨?_, ?_⟩
    · show blp_P_commonDivisor_7 (lp_P_commonDivisor_7 f) (iI x) (iI 0) (iI i) = _
      unfold blp_P_commonDivisor_7
      rw [← l0, if_pos rfl]
      split <;> rfl
    · show blp_M_common_4 (lp_M_common_4 f2) (iI x) (iI 0) = _
      unfold blp_M_common_4
      rw [← l0, if_pos rfl]
  have step : ∀ (x y : Int) (i f f2 : Nat), 0 ≤ x → x < 1000000 → 0 < y → y < 1000000 → i < 64 → lp_P_commonDivisor_7 (f + 1) (iI x) (iI y) (iI i) = lp_P_commonDivisor_7 f (iI y) (iI (x % y)) (iI ((i + 1 : Nat) : Int)) ∧ lp_M_common_4 (f2 + 1) (iI x) (iI y) = lp_M_common_4 f2 (iI y) (iI (x % y)) := by
    intro x y i f f2 hx hx2 hy hy2 hi
    have c0 : ¬ (iI y = 0) := by rw [l0, iI_eq (by omega) (by omega) (by omega) (by omega)]; omega
    have c1 : ¬ (64 ≤ iI (i : Int)) := by rw [show (64 : Int32) = iI 64 from rfl, iI_le (by omega) (by omega) (by omega) (by omega)]; omega
    refine ⟨?_, ?_⟩
    · show blp_P_commonDivisor_7 (lp_P_commonDivisor_7 f) (iI x) (iI y) (iI i) = _
      unfold blp_P_commonDivisor_7
      rw [if_neg c1, if_neg c0, P_rem hx (by omega) hy (by omega), Option.bind_some, l1, iI_add]
      rfl
    · show blp_M_common_4 (lp_M_common_4 f2) (iI x) (iI y) = _
      unfold blp_M_common_4
      rw [if_neg c0, rmI_iI hx (by omega) hy (by omega), Option.bind_some]
  intro j
  induction j with
  | zero =>
    intro x y i fu fu2 hx hx2 hy hy2 hy3 h hi hf hf2
    have : y = 0 := by omega
    subst this
    obtain ⟨s1, s2⟩ := stop x i fu fu2 (by omega) hx2 (by omega) (by omega) (by omega)
    exact ⟨x, by omega, hx2, s1, s2⟩
  | succ j ih =>
    intro x y i fu fu2 hx hx2 hy hy2 hy3 h hi hf hf2
    by_cases e : y = 0
    · subst e
      obtain ⟨s1, s2⟩ := stop x i fu fu2 (by omega) hx2 (by omega) (by omega) (by omega)
      exact ⟨x, by omega, hx2, s1, s2⟩
    · obtain ⟨f, rfl⟩ : ∃ f, fu = f + 1 + 1 := ⟨fu - 2, by omega⟩
      obtain ⟨f2, rfl⟩ : ∃ f, fu2 = f + 1 + 1 := ⟨fu2 - 2, by omega⟩
      have r0 := Int.emod_nonneg x e
      have r1 := Int.emod_lt_of_pos x (show 0 < y by omega)
      obtain ⟨a1, a2⟩ := step x y i (f + 1) (f2 + 1) hx hx2 (by omega) hy3 (by omega)
      generalize x % y = r at *
      by_cases er : r = 0
      · subst er
        obtain ⟨s1, s2⟩ := stop y (i + 1) (f + 1) (f2 + 1) (by omega) hy3 (by omega) (by omega) (by omega)
        exact ⟨y, by omega, hy3, a1.trans s1, a2.trans s2⟩
      · obtain ⟨b1, b2⟩ := step y r (i + 1) f f2 hy hy3 (by omega) (by omega) (by omega)
        have z0 := Int.emod_nonneg y er
        have z1 := Int.emod_lt_of_pos y (show 0 < r by omega)
        have z2 : 2 * (y % r) < y := by
          have d := Int.emod_add_mul_ediv y r
          have q1 : 1 ≤ y / r := (Int.le_ediv_iff_mul_le (by omega)).mpr (by omega)
          have : r * 1 ≤ r * (y / r) := Int.mul_le_mul_of_nonneg_left q1 (by omega)
          omega
        have p2 : (2 : Int) ^ (j + 1) = 2 ^ j * 2 := Int.pow_succ 2 j
        obtain ⟨g, g1, g2, g3, g4⟩ := ih r (y % r) (i + 1 + 1) f f2 (by omega) (by omega) z0 (by omega) (by omega) (by omega) (by omega) (by omega) (by omega)
        exact ⟨g, g1, g2, a1.trans (b1.trans g3), a2.trans (b2.trans g4)⟩
theorem R_rate {X M : Mm} (h0 : Rel X M) (p : Int32) : An (f_P_rate_0 p X) (f_M_rate_0 p M) := by
  unfold f_P_rate_0 f_M_rate_0
  rw [Option.bind_some]
  have h := h0.th 0
  generalize u1 M 0 0 0 = N at h
  rcases h.told with ⟨t1, t2⟩ | ⟨t1, t2, C, w, S, Q, T⟩
  · rw [if_pos t1, if_pos t2]; exact An_ref h 1
  · have hm := T.mi
    have hm0 := T.bd.2.1
    have hk1 := T.1.1
    have hk3 := T.1.2.1
    rw [if_neg t1, if_neg t2, in_wi]
    rcases wi (p := p) (n := 1) (by omega) (by omega) with ⟨c, rfl, hc, e⟩ | ⟨e, -⟩
    · rw [← l1] at e
      have v14 : X.1 35 14 = iI (S 14 0) := T.rx.1 14 0 (fx 14 rfl) (by decide)
      have v15 : X.1 35 15 = iI (totS S (C 0 0).toNat) := T.rx.2
      have m14 : rd (N.1 15) 99 0 = some (iI (S 14 0)) := by rw [l0]; exact rdM T.rm 14 0 (fd 14 rfl) (by decide) rfl
      have c0 : (iI (S 14 0) = 0) ↔ S 14 0 = 0 := by rw [l0]; exact iI_eq (by omega) (by omega) (by omega) (by omega)
      rw [e, Option.bind_some, Option.bind_some, if_neg n10, if_neg n10, m14, Option.bind_some, v14, v15]
      by_cases e0 : S 14 0 = 0
      · rw [if_pos (c0.mpr e0), if_pos (c0.mpr e0)]; exact An_ref h 5
      · have tb := totS_bd T.1 T.bd T.mi (C 0 0).toNat (by omega)
        obtain ⟨g, g1, g2, g3, g4⟩ := euc 14 (totS S (C 0 0).toNat) (S 14 0) 0 FW FW (by omega) (by omega) (by omega) (by omega) (by omega) (by omega) (by omega) (FW_gt (by omega)) (FW_gt (by omega))
        have g5 : f_P_commonDivisor (iI (totS S (C 0 0).toNat)) (iI (S 14 0)) = some (iI g) := g3
        have g6 : f_M_common (iI (totS S (C 0 0).toNat)) (iI (S 14 0)) = some (iI g) := g4
        have cg : ¬ (iI g ≤ 0) := by rw [l0, iI_le (by omega) (by omega) (by omega) (by omega)]; omega
        rw [if_neg (fun q => e0 (c0.mp q)), if_neg (fun q => e0 (c0.mp q)), M_deliv_15 T.1 T.2.2.1 T.rm, Option.bind_some, Option.bind_some, g5, g6, Option.bind_some, Option.bind_some, Option.bind_some]
        unfold j_P_rate_0_76 dvI
        have cz : ¬ (iI g = 0) := by rw [l0, iI_eq (by omega) (by omega) (by omega) (by omega)]; omega
        rw [if_neg cg, if_neg cg, if_neg cz, if_neg cz]
        exact An_if Iff.rfl (fun _ => An_good h _) (fun _ => An_good h _)
    · rw [← l1] at e
      rw [e, Option.bind_some, Option.bind_some, if_pos rfl, if_pos rfl]; exact An_ref h 1
/-! the told part changes, the rest stands -/
theorem Rel.upd {X M Y N : Mm} (h : Rel X M) (t1 : ¬ X.1 0 9 = 0) (x0 : Y.1 0 = X.1 0) (x1 : Y.1 1 = X.1 1) (m0 : ∀ i, i ≠ 35 → N.1 0 i = M.1 0 i) (m1 : N.1 1 = M.1 1) {C : SS} {w : Nat → Int} {S Q : SS} (T : Tld C w S Q Y N) : Rel Y N := by
  obtain ⟨⟨⟨n, n1, n2, n3⟩, tp, ht⟩, h1, h2, h3, h4⟩ := h
  refine ⟨⟨⟨n, n1, by rw [x0]; exact n2, by rw [m0 4 (by decide)]; exact n3⟩, tp, fun i hi => by rw [x1, m1]; exact ht i hi⟩, by rw [x0, m0 1 (by decide)]; exact h1, by rw [x0, m0 2 (by decide)]; exact h2, by rw [x0, m0 7 (by decide)]; exact h3, Or.inr ?_⟩
  rcases h4 with h4 | ⟨h4, h5, -⟩
  · exact absurd h4.1 t1
  · exact ⟨by rw [x0]; exact h4, by rw [m0 28 (by decide)]; exact h5, C, w, S, Q, T⟩
theorem Tld.run {C : SS} {w : Nat → Int} {S Q S2 Q2 : SS} {X M Y N : Mm} (T : Tld C w S Q X M) (oX : OnlyX 35 X Y) (oM : Only 15 M N) (hB : Bd C S2) (hQ : QBd C S2 Q2) (hT : S2 14 0 ≤ 9999) (rX : RelX 35 S2 (totS S2 (C 0 0).toNat) Y) (rM : RelM 15 S2 Q2 N) : Tld C w S2 Q2 Y N := by
  obtain ⟨h1, h2, h3, h4, h5, h6, h7, h8⟩ := T
  refine ⟨h1, oX.cfg (by decide) h2, oM.cfg (by decide) h3, ⟨h4.1, h4.2.1, hB, hQ, hT, oX.wy (by decide) h4.2.2.2.2.2.1, rX, ?_, rM⟩, h5.fr h1 (oX.1 9 (by decide)) (oX.1 10 (by decide)) (fun i _ => by rw [oM.2]) (fun i _ => by rw [oM.2]), h6.fr (oX.1 65 (by decide)) (oX.1 66 (by decide)) (oX.1 67 (by decide)) (by rw [oM.1 0 (by decide)]) (oM.1 13 (by decide)), ?_, ?_⟩
  · rw [oM.1 10 (by decide)]; exact h4.2.2.2.2.2.2.2.1
  · exact h7.fr (oX.1 69 (by decide)) (fun i _ _ => oX.1 i (by omega)) (fun i _ _ => oX.1 i (by omega)) (oM.1 18 (by decide)) (oM.1 17 (by decide)) (oM.1 14 (by decide))
  · exact h8.fr (oX.1 86 (by decide)) (fun i _ _ => oX.1 i (by omega)) (fun i _ _ => oX.1 i (by omega)) (oM.1 18 (by decide)) (oM.1 17 (by decide)) (oM.1 14 (by decide))
/-- n minutes -/
def itS (C : SS) (w : Nat → Int) : Nat → SS → SS
  | 0, S => S
  | n + 1, S => minS C w (itS C w n S)
theorem min_14 {C S : SS} {w : Nat → Int} : minS C w S 14 0 = S 14 0 + 1 := by unfold minS; rw [uS_eq]
theorem it_14 {C S : SS} {w : Nat → Int} : ∀ n : Nat, itS C w n S 14 0 = S 14 0 + n
  | 0 => by show S 14 0 = S 14 0 + 0; omega
  | n + 1 => by
    show minS C w (itS C w n S) 14 0 = _
    rw [min_14, it_14 n]; omega
theorem Bd_it {C S : SS} {w : Nat → Int} (hO : CfgOk C) (hW : WyOk C w) (hB : Bd C S) : ∀ n : Nat, S 14 0 + n ≤ 10000 → Bd C (itS C w n S)
  | 0, _ => hB
  | n + 1, h => Bd_min hO hW (Bd_it hO hW hB n (by omega)) (by rw [it_14]; omega)
theorem X_runs {C S : SS} {w : Nat → Int} {X : Mm} {n : Nat} {x2 : Int32} (hO : CfgOk C) (hC : CfgX C X) (h : RelX 35 S (totS S (C 0 0).toNat) X) (hw : WyX 32 w X) (hW : WyOk C w) (hB : Bd C S) (hn : S 14 0 + n ≤ 9999) : ∃ Y, lp_P_run_0_62 FW (iI n) x2 0 X = j_P_run_0_80 x2 Y ∧ RelX 35 (itS C w n S) (totS (itS C w n S) (C 0 0).toNat) Y ∧ OnlyX 35 X Y := by
  have hm0 := hB.2.1
  have loop := loop_up (σ := Int32 × Mm) (γ := Option (Int32 × Mm)) (fun f s => lp_P_run_0_62 f (iI n) x2 s.1 s.2) n (fun i s => s.1 = iI (i : Int) ∧ RelX 35 (itS C w i S) (totS (itS C w i S) (C 0 0).toNat) s.2 ∧ OnlyX 35 X s.2) (fun s => j_P_run_0_80 x2 s.2) ?_ ?_ FW (FW_gt (by omega)) (iI 0, X) ⟨rfl, h, OnlyX.rf⟩
  · obtain ⟨⟨x, Y⟩, ⟨-, r, o⟩, e⟩ := loop
    exact ⟨Y, by rw [l0]; exact e, r, o⟩
  · rintro f i ⟨x, Y⟩ hi ⟨ex, r, o⟩
    dsimp only at ex r o
    subst ex
    obtain ⟨Z, e, r2, o2⟩ := X_pass_35 (o.cfg (by decide) hC) hO r (o.wy (by decide) hw) hW (Bd_it hO hW hB i (by omega)) (by rw [it_14]; omega)
    refine ⟨(iI ((i + 1 : Nat) : Int), Z), ?_, rfl, ?_, o.tr o2⟩
    · show blp_P_run_0_62 (lp_P_run_0_62 f) (iI n) x2 (iI (i : Int)) Y = lp_P_run_0_62 f (iI n) x2 _ Z
      unfold blp_P_run_0_62
      have c0 : (iI (n : Int) ≤ iI (i : Int)) ↔ (n : Int) ≤ (i : Int) := iI_le (by omega) (by omega) (by omega) (by omega)
      rw [if_neg (fun q => by have := c0.mp q; omega), e, Option.bind_some, l1, iI_add]
      rfl
    · rw [show totS (itS C w i S) (C 0 0).toNat + (totS (minS C w (itS C w i S)) (C 0 0).toNat - totS (itS C w i S) (C 0 0).toNat) = totS (minS C w (itS C w i S)) (C 0 0).toNat by omega] at r2
      exact r2
  · rintro f ⟨x, Y⟩ ⟨ex, r, o⟩
    dsimp only at ex r o
    subst ex
    show blp_P_run_0_62 (lp_P_run_0_62 f) (iI n) x2 (iI (n : Int)) Y = _
    unfold blp_P_run_0_62
    have c0 : (iI (n : Int) ≤ iI (n : Int)) ↔ (n : Int) ≤ (n : Int) := iI_le (by omega) (by omega) (by omega) (by omega)
    rw [if_pos (c0.mpr (by omega))]
theorem M_runs {C S Q : SS} {w : Nat → Int} {M : Mm} {n : Nat} {x2 : Int32} (hO : CfgOk C) (hC : CfgM C M) (h : RelM 15 S Q M) (hw : WyM 10 w M) (hW : WyOk C w) (hB : Bd C S) (hQ : QBd C S Q) (hn : S 14 0 + n ≤ 9999) : ∃ N Q2, lp_M_run_0_66 FW (iI n) x2 0 M = j_M_run_0_89 x2 N ∧ RelM 15 (itS C w n S) Q2 N ∧ Only 15 M N ∧ QBd C (itS C w n S) Q2 := by
  have hm0 := hB.2.1
  have loop := loop_up (σ := Int32 × Mm) (γ := Option (Int32 × Mm)) (fun f s => lp_M_run_0_66 f (iI n) x2 s.1 s.2) n (fun i s => s.1 = iI (i : Int) ∧ ∃ Q2, RelM 15 (itS C w i S) Q2 s.2 ∧ Only 15 M s.2 ∧ QBd C (itS C w i S) Q2) (fun s => j_M_run_0_89 x2 s.2) ?_ ?_ FW (FW_gt (by omega)) (iI 0, M) ⟨rfl, Q, h, Only.rf, hQ⟩
  · obtain ⟨⟨x, Y⟩, ⟨-, Q2, r, o, q⟩, e⟩ := loop
    exact ⟨Y, Q2, by rw [l0]; exact e, r, o, q⟩
  · rintro f i ⟨x, Y⟩ hi ⟨ex, Q2, r, o, q⟩
    dsimp only at ex r o q
    subst ex
    obtain ⟨Z, Q3, e, r2, o2, q2⟩ := M_minute_15 (o.cfg (by decide) hC) hO r (o.wy (by decide) hw) hW (Bd_it hO hW hB i (by omega)) q (by rw [it_14]; omega)
    refine ⟨(iI ((i + 1 : Nat) : Int), Z), ?_, rfl, Q3, r2, o.tr o2, q2⟩
    show blp_M_run_0_66 (lp_M_run_0_66 f) (iI n) x2 (iI (i : Int)) Y = lp_M_run_0_66 f (iI n) x2 _ Z
    unfold blp_M_run_0_66
    have c0 : (iI (n : Int) ≤ iI (i : Int)) ↔ (n : Int) ≤ (i : Int) := iI_le (by omega) (by omega) (by omega) (by omega)
    rw [if_neg (fun q => by have := c0.mp q; omega), e, Option.bind_some, l1, iI_add]
    rfl
  · rintro f ⟨x, Y⟩ ⟨ex, Q2, r, o, q⟩
    dsimp only at ex r o q
    subst ex
    show blp_M_run_0_66 (lp_M_run_0_66 f) (iI n) x2 (iI (n : Int)) Y = _
    unfold blp_M_run_0_66
    have c0 : (iI (n : Int) ≤ iI (n : Int)) ↔ (n : Int) ≤ (n : Int) := iI_le (by omega) (by omega) (by omega) (by omega)
    rw [if_pos (c0.mpr (by omega))]
theorem R_run {X M : Mm} (h0 : Rel X M) (p : Int32) : An (f_P_run_0 p X) (f_M_run_0 p M) := by
  unfold f_P_run_0 f_M_run_0
  rw [Option.bind_some]
  have h := h0.th 0
  generalize u1 M 0 0 0 = N at h
  rcases h.told with ⟨t1, t2⟩ | ⟨t1, t2, C, w, S, Q, T⟩
  · rw [if_pos t1, if_pos t2]; exact An_ref h 1
  · have hm := T.mi
    have hm0 := T.bd.2.1
    have hk1 := T.1.1
    have hk3 := T.1.2.1
    rw [if_neg t1, if_neg t2]
    have e := iI_of p
    have b1 := Int32.le_toInt p
    have b2 := Int32.toInt_lt p
    generalize p.toInt = z at *
    subst e
    have c1 : (iI z < 1) ↔ z < 1 := by rw [l1]; exact iI_lt (by omega) (by omega) (by omega) (by omega)
    have c2 : (iI z ≤ 500) ↔ z ≤ 500 := by rw [show (500 : Int32) = iI 500 from rfl]; exact iI_le (by omega) (by omega) (by omega) (by omega)
    have c3 : (500 < iI z) ↔ 500 < z := by rw [show (500 : Int32) = iI 500 from rfl]; exact iI_lt (by omega) (by omega) (by omega) (by omega)
    unfold f_M_in
    by_cases e1 : z < 1
    · rw [if_pos (c1.mpr e1), if_pos (c1.mpr e1), Option.bind_some, if_pos rfl]; exact An_ref h 2
    · rw [if_neg (fun q => e1 (c1.mp q)), if_neg (fun q => e1 (c1.mp q))]
      by_cases e2 : z ≤ 500
      · have v14 : X.1 35 14 = iI (S 14 0) := T.rx.1 14 0 (fx 14 rfl) (by decide)
        have m14 : rd (N.1 15) 99 0 = some (iI (S 14 0)) := by rw [l0]; exact rdM T.rm 14 0 (fd 14 rfl) (by decide) rfl
        have c4 : (iI (S 14 0 + z) ≤ 9999) ↔ S 14 0 + z ≤ 9999 := by rw [show (9999 : Int32) = iI 9999 from rfl]; exact iI_le (by omega) (by omega) (by omega) (by omega)
        have c5 : ¬ (500 < iI z) := fun q => by have := c3.mp q; omega
        rw [if_pos (c2.mpr e2), if_neg c5, Option.bind_some, if_neg n10, m14, Option.bind_some, v14, iI_add]
        by_cases e3 : S 14 0 + z ≤ 9999
        · obtain ⟨n, rfl⟩ : ∃ n : Nat, z = (n : Int) := ⟨z.toNat, by omega⟩
          obtain ⟨Y, y1, y2, y3⟩ := X_runs (x2 := X.1 35 15) T.1 T.2.1 T.rx T.wx T.wo T.bd (n := n) (by omega)
          obtain ⟨O, Q2, o1, o2, o3, o4⟩ := M_runs (x2 := iI (totS S (C 0 0).toNat)) T.1 T.2.2.1 T.rm T.wm T.wo T.bd T.qb (n := n) (by omega)
          have T2 := T.run y3 o3 (Bd_it T.1 T.wo T.bd n (by omega)) o4 (by rw [it_14]; omega) y2 o2
          rw [if_pos (c4.mpr e3), if_pos (c4.mpr e3), M_deliv_15 T.1 T.2.2.1 T.rm, Option.bind_some, y1, o1]
          unfold j_P_run_0_80 j_M_run_0_89
          rw [M_deliv_15 T.1 T2.2.2.1 T2.rm, Option.bind_some]
          have v15 : X.1 35 15 = iI (totS S (C 0 0).toNat) := T.rx.2
          have y15 : Y.1 35 15 = iI (totS (itS C w n S) (C 0 0).toNat) := y2.2
          rw [v15, y15]
          exact An_good (h.upd t1 (y3.1 0 (by decide)) (y3.1 1 (by decide)) (fun i _ => by rw [o3.1 0 (by decide)]) (o3.1 1 (by decide)) T2) _
        · rw [if_neg (fun q => e3 (c4.mp q)), if_neg (fun q => e3 (c4.mp q))]; exact An_ref h 5
      · rw [if_neg (fun q => e2 (c2.mp q)), if_pos (c3.mpr (by omega)), Option.bind_some, if_pos rfl]; exact An_ref h 2

theorem X_allCards_49 {w : Nat → Int} {X : Mm} (h : WyX 49 w X) : f_V_allCards_49 X = some (iI (sm w 18)) := by
  have loop := loop_up (σ := Int32 × Int32) (γ := Option Int32) (fun n s => lp_V_allCards_49_4 n s.1 s.2 X) 18 (fun i s => s.1 = iI (sm w i) ∧ s.2 = iI (i : Int)) (fun s => some s.1) ?_ ?_ FW (FW_gt (by omega)) (iI 0, iI 0) ⟨rfl, rfl⟩
  · obtain ⟨s', hs, e⟩ := loop
    have e0 : f_V_allCards_49 X = lp_V_allCards_49_4 FW (iI 0) (iI 0) X := by unfold f_V_allCards_49; rw [l0]
    rw [e0]
    exact e.trans (by rw [hs.1])
  · rintro n i ⟨x3, x4⟩ hi ⟨e3, e4⟩
    dsimp only at e3 e4
    subst e3; subst e4
    refine ⟨(iI (sm w (i + 1)), iI ((i + 1 : Nat) : Int)), ?_, rfl, rfl⟩
    show blp_V_allCards_49_4 (lp_V_allCards_49_4 n) _ _ X = lp_V_allCards_49_4 n _ _ X
    unfold blp_V_allCards_49_4
    have c0 : (18 ≤ iI (i : Int)) ↔ 18 ≤ (i : Int) := by rw [show (18 : Int32) = iI 18 from rfl]; exact iI_le (by omega) (by omega) (by omega) (by omega)
    have r : rd (X.1 50) 18 (iI (i : Int)) = some (iI (w i)) := rdc h i hi rfl
    rw [if_neg (fun q => by have := c0.mp q; omega), r, Option.bind_some, iI_add, l1, iI_add]
    rfl
  · rintro n ⟨x3, x4⟩ ⟨e3, e4⟩
    dsimp only at e3 e4
    subst e3; subst e4
    rfl
theorem thin_in {C : SS} {w : Nat → Int} {M : Mm} {b : Nat} (hO : CfgOk C) (hC : CfgM C M) (hw : WyM 12 w M) (hb : b < 6) (rc : Int32 → Int32 → Mm → Option (Int32 × Mm)) (a : Int) : lp_M_thin_0_51 rc FW (iI a) (iI b) 0 M = rc (iI (a + smr w b (C 0 0).toNat)) (iI ((b + 1 : Nat) : Int)) M := by
  have hk1 := hO.1
  have hk3 := hO.2.1
  have loop := loop_up (σ := Int32 × Int32) (γ := Option (Int32 × Mm)) (fun n s => lp_M_thin_0_51 rc n s.1 (iI b) s.2 M) (C 0 0).toNat (fun i s => s.1 = iI (a + smr w b i) ∧ s.2 = iI (i : Int)) (fun s => rc s.1 (iI ((b + 1 : Nat) : Int)) M) ?_ ?_ FW (FW_gt (by omega)) (iI a, iI 0) ⟨by show iI a = iI (a + 0); rw [Int.add_zero], rfl⟩
  · obtain ⟨s', hs, e⟩ := loop
    rw [l0]
    exact e.trans (by rw [hs.1])
  · rintro n i ⟨x3, x4⟩ hi ⟨e3, e4⟩
    dsimp only at e3 e4
    subst e3; subst e4
    refine ⟨(iI (a + smr w b (i + 1)), iI ((i + 1 : Nat) : Int)), ?_, rfl, rfl⟩
    show blp_M_thin_0_51 rc (lp_M_thin_0_51 rc n) _ _ _ M = lp_M_thin_0_51 rc n _ _ _ M
    unfold blp_M_thin_0_51
    have c0 : (iI (C 0 0) ≤ iI (i : Int)) ↔ C 0 0 ≤ (i : Int) := iI_le (by omega) (by omega) (by omega) (by omega)
    have r : rd (M.1 12) 37 (iI (3 * (b : Int) + i)) = some (iI (w (3 * b + i))) := rdw hw (3 * b + i) (by omega) (by omega)
    rw [hC.1, if_neg (fun q => by have := c0.mp q; omega), ixc, r, Option.bind_some, iI_add, l1, iI_add, Int.add_assoc]
    rfl
  · rintro n ⟨x3, x4⟩ ⟨e3, e4⟩
    dsimp only at e3 e4
    subst e3; subst e4
    show blp_M_thin_0_51 rc (lp_M_thin_0_51 rc n) _ _ _ M = _
    unfold blp_M_thin_0_51
    have c0 : (iI (C 0 0) ≤ iI ((C 0 0).toNat : Int)) ↔ C 0 0 ≤ ((C 0 0).toNat : Int) := iI_le (by omega) (by omega) (by omega) (by omega)
    rw [hC.1, if_pos (c0.mpr (by omega))]
    unfold j_M_thin_0_80
    rw [l1, iI_add]
    rfl
theorem thin_sum {C : SS} {w : Nat → Int} {M : Mm} (hO : CfgOk C) (hC : CfgM C M) (hw : WyM 12 w M) : lp_M_thin_0_40 FW 0 0 M = (f_M_good_0 (iI (smB w (C 0 0).toNat (C 0 1).toNat)) M).bind fun q => some (q.1, q.2) := by
  have hb1 := hO.2.2.1
  have hb6 := hO.2.2.2.1
  have loop := loop_up (σ := Int32 × Int32) (γ := Option (Int32 × Mm)) (fun n s => lp_M_thin_0_40 n s.1 s.2 M) (C 0 1).toNat (fun i s => s.1 = iI (smB w (C 0 0).toNat i) ∧ s.2 = iI (i : Int)) (fun s => (f_M_good_0 s.1 M).bind fun q => some (q.1, q.2)) ?_ ?_ FW (FW_gt (by omega)) (iI 0, iI 0) ⟨rfl, rfl⟩
  · obtain ⟨s', hs, e⟩ := loop
    rw [l0]
    exact e.trans (by rw [hs.1])
  · rintro n i ⟨x3, x4⟩ hi ⟨e3, e4⟩
    dsimp only at e3 e4
    subst e3; subst e4
    refine ⟨(iI (smB w (C 0 0).toNat (i + 1)), iI ((i + 1 : Nat) : Int)), ?_, rfl, rfl⟩
    show blp_M_thin_0_40 (lp_M_thin_0_40 n) _ _ M = lp_M_thin_0_40 n _ _ M
    unfold blp_M_thin_0_40
    have c0 : (iI (C 0 1) ≤ iI (i : Int)) ↔ C 0 1 ≤ (i : Int) := iI_le (by omega) (by omega) (by omega) (by omega)
    rw [hC.2.1, if_neg (fun q => by have := c0.mp q; omega), thin_in hO hC hw (by omega)]
    rfl
  · rintro n ⟨x3, x4⟩ ⟨e3, e4⟩
    dsimp only at e3 e4
    subst e3; subst e4
    show blp_M_thin_0_40 (lp_M_thin_0_40 n) _ _ M = _
    unfold blp_M_thin_0_40
    have c0 : (iI (C 0 1) ≤ iI ((C 0 1).toNat : Int)) ↔ C 0 1 ≤ ((C 0 1).toNat : Int) := iI_le (by omega) (by omega) (by omega) (by omega)
    rw [hC.2.1, if_pos (c0.mpr (by omega))]
/-- both take out the same cards -/
theorem thin_both {C : SS} {w : Nat → Int} {S Q : SS} {X N : Mm} {t : Nat} (T : Tld C w S Q X N) (ht : t ≤ 2000) : ∃ u Y O, f_Q_takeOut_48 (iI t) X = some Y ∧ f_M_takesOut_0 (iI t) N = some O ∧ WyOk C u ∧ w0 C u ∧ WyX 49 u Y ∧ WyM 12 u O ∧ OnP X Y ∧ OnW N O := by
  unfold f_Q_takeOut_48 f_M_takesOut_0 f_Q_asNow_48 f_M_yieldNow_0
  obtain ⟨X1, x1, x2, x3, x4⟩ := X_Vcopy_49_32 T.wx
  obtain ⟨X2, y1, y2⟩ := X_tried (t := t) T.1 (T.2.1.fr (fun q _ _ => x3 q (by omega))) x2 T.wo T.w0 ht
  obtain ⟨M1, m1, m2, m3⟩ := M_papers T.wm
  obtain ⟨M2, n1, n2⟩ := M_yield (t := t) T.1 (m3.cfg (by decide) T.2.2.1) m2 T.wo ht
  have oX : OnP X X2 := ⟨fun q hq => by rw [y2.1 q (by omega), x3 q (by omega)], y2.2.trans x4⟩
  have oM : OnW N M2 := ⟨fun q a b => by rw [n2.1 q b, m3.1 q a], n2.2.trans m3.2⟩
  have yb := yi_bd (t := t) T.1 T.wo ht
  have ok : TOk C (w, yiS C w t, 1) := ⟨T.wo, T.w0, yb.1, yb.2, Or.inr rfl⟩
  have bd := ok.bd
  dsimp only at bd
  obtain ⟨u, Y, O, v1, o1, k1, k2, v2, o2, v3, o3⟩ := thin_R (t := t) T.1 ht 162 0 FW FW (w, yiS C w t, 1) X2 M2 ok rfl (by dsimp only; omega) (by omega) (FW_gt (by omega)) (FW_gt (by omega)) (oX.cfg T.2.1) (oM.cfg T.2.2.1) (y2.wy (by decide) x2) (n2.wy (by decide) m2)
  refine ⟨u, Y, O, ?_, ?_, k1, k2, v2, o2, oX.tr v3, oM.tr o3⟩
  · rw [x1, Option.bind_some, y1, Option.bind_some]
    exact v1
  · rw [m1, Option.bind_some, n1, Option.bind_some]
    exact o1
theorem R_thin {X M : Mm} (h0 : Rel X M) (p : Int32) : An (f_P_thin_0 p X) (f_M_thin_0 p M) := by
  unfold f_P_thin_0 f_M_thin_0
  rw [Option.bind_some]
  have h := h0.th 0
  generalize u1 M 0 0 0 = N at h
  rcases h.told with ⟨t1, t2⟩ | ⟨t1, t2, C, w, S, Q, T⟩
  · have e : f_P_refusesPaper_0 p X = (f_P_refused_0 1 X).bind fun q6 => some (1, q6.2) := by unfold f_P_refusesPaper_0; rw [if_pos t1]
    rw [e, if_pos t2]
    exact ⟨_, _, _, rfl, rfl, h.set 1 (-1)⟩
  · rw [if_neg t2]
    rcases papT p with ⟨t, rfl, ht1, ht2, e1, e2⟩ | ⟨e1, e2⟩
    · rw [e1, e2 X t1, Option.bind_some, Option.bind_some, if_pos rfl, if_neg n10]
      obtain ⟨u, Y, O, y1, o1, k1, k2, y2, o2, y3, o3⟩ := thin_both (t := t) T ht2
      have hb1 := T.1.2.2.1
      have hb6 := T.1.2.2.2.1
      have hk1 := T.1.1
      have hk3 := T.1.2.1
      have zw : ∀ b k, b < 6 → k < 3 → ¬ (b < (C 0 1).toNat ∧ k < (C 0 0).toNat) → u (3 * b + k) = 0 := fun b k h1 h2 h3 => (k2 b k h1 h2 (by omega)).1
      rw [y1, o1, Option.bind_some, Option.bind_some, X_allCards_49 y2, Option.bind_some, thin_sum T.1 (o3.cfg T.2.2.1) o2, smB_e (f := u) (B := (C 0 1).toNat) (K := (C 0 0).toNat) (by omega) (by omega) zw]
      exact An_good (h.pap y3.1 (fun q z1 z2 _ => o3.1 q z1 z2) o3.2) _
    · rw [e1, e2 X t1, Option.bind_some, if_pos rfl]
      exact ⟨_, _, _, rfl, rfl, h.set 2 (-1)⟩
theorem R_thinAt {X M : Mm} (h0 : Rel X M) (p p2 p3 : Int32) : An (f_P_thinAt_0 p p2 p3 X) (f_M_thinAt_0 p p2 p3 M) := by
  unfold f_P_thinAt_0 f_M_thinAt_0
  rw [Option.bind_some]
  have h := h0.th 0
  generalize u1 M 0 0 0 = N at h
  rcases h.bench p with ⟨e1, e2⟩ | ⟨C, w, S, Q, b, rfl, hb, e1, e2, t1, t2, T⟩
  · rw [e1, e2, Option.bind_some, Option.bind_some, if_pos rfl, if_pos rfl]; exact An_ref h 1
  · have hb6 := sz6 T.1 hb
    have hk3 := T.1.2.1
    rw [e1, e2, Option.bind_some, Option.bind_some, if_neg n10, if_neg n10]
    rcases isK p2 t1 t2 T.1 T.2.1 T.2.2.1 with ⟨e1, e2⟩ | ⟨k, rfl, hk, e1, e2⟩
    · rw [e1, e2, Option.bind_some, Option.bind_some, if_pos rfl, if_pos rfl]; exact An_ref h 1
    · rw [e1, e2, Option.bind_some, Option.bind_some, if_neg n10, if_neg n10]
      rcases papT p3 with ⟨t, rfl, ht1, ht2, e1, e2⟩ | ⟨e1, e2⟩
      · rw [e1, e2 X t1, Option.bind_some, Option.bind_some, if_pos rfl, if_neg n10]
        obtain ⟨u, Y, O, y1, o1, k1, k2, y2, o2, y3, o3⟩ := thin_both (t := t) T ht2
        have rc : f_P_cell (iI (b : Int)) (iI (k : Int)) = some (iI (3 * b + k)) := by unfold f_P_cell; rw [ixc]
        have rX : rd (Y.1 50) 18 (iI (3 * (b : Int) + k)) = some (iI (u (3 * b + k))) := rdc y2 (3 * b + k) (by omega) (by omega)
        have rM : rd (O.1 12) 37 (iI (3 * (b : Int) + k)) = some (iI (u (3 * b + k))) := rdw o2 (3 * b + k) (by omega) (by omega)
        rw [y1, o1, Option.bind_some, Option.bind_some, rc, Option.bind_some, ixc, rX, rM, Option.bind_some, Option.bind_some]
        exact An_good (h.pap y3.1 (fun q z1 z2 _ => o3.1 q z1 z2) o3.2) _
      · rw [e1, e2 X t1, Option.bind_some, if_pos rfl]
        exact ⟨_, _, _, rfl, rfl, h.set 2 (-1)⟩

theorem papT (p : Int32) : (∃ t : Nat, p = iI t ∧ 1 ≤ t ∧ t ≤ 2000 ∧ f_M_isTerm p = some 1 ∧ ∀ X : Mm, ¬ X.1 0 9 = 0 → f_P_refusesPaper_0 p X = some (0, X)) ∨ (f_M_isTerm p = some 0 ∧ ∀ X : Mm, ¬ X.1 0 9 = 0 → f_P_refusesPaper_0 p X = (f_P_refused_0 2 X).bind fun q => some (1, q.2)) := by
  have e := iI_of p
  have b1 := Int32.le_toInt p
  have b2 := Int32.toInt_lt p
  generalize p.toInt = z at *
  subst e
  have c1 : (iI z < 1) ↔ z < 1 := by rw [l1]; exact iI_lt (by omega) (by omega) (by omega) (by omega)
  have c2 : (iI z ≤ 2000) ↔ z ≤ 2000 := by rw [show (2000 : Int32) = iI 2000 from rfl]; exact iI_le (by omega) (by omega) (by omega) (by omega)
  have c3 : (2000 < iI z) ↔ 2000 < z := by rw [show (2000 : Int32) = iI 2000 from rfl]; exact iI_lt (by omega) (by omega) (by omega) (by omega)
  unfold f_M_isTerm f_M_in f_P_refusesPaper_0
  by_cases e1 : z < 1
  · right
    refine ⟨by rw [if_pos (c1.mpr e1)]; rfl, fun X hX => by rw [if_neg hX, if_pos (c1.mpr e1)]⟩
  · have n1 : ¬ (iI z < 1) := fun q => e1 (c1.mp q)
    by_cases e2 : z ≤ 2000
    · left
      have n3 : ¬ (2000 < iI z) := fun q => by have := c3.mp q; omega
      exact ⟨z.toNat, by congr 1; omega, by omega, by omega, by rw [if_neg n1, if_neg n3]; rfl, fun X hX => by rw [if_neg hX, if_neg n1, if_pos (c2.mpr e2)]⟩
    · right
      exact ⟨by rw [if_neg n1, if_pos (c3.mpr (by omega))]; rfl, fun X hX => by rw [if_neg hX, if_neg n1, if_neg (fun q => e2 (c2.mp q))]⟩
theorem Rel.pap {X M Y N : Mm} (h : Rel X M) (hX : ∀ q, q < 48 ∨ (64 < q ∧ q < 103) → Y.1 q = X.1 q) (hM : ∀ q, q ≠ 12 → q ≠ 16 → q ≠ 19 → N.1 q = M.1 q) (hM2 : N.2 = M.2) : Rel Y N := by
  obtain ⟨⟨⟨n, n1, n2, n3⟩, tp, ht⟩, h1, h2, h3, h4⟩ := h
  have x0 := hX 0 (by omega)
  have m0 := hM 0 (by decide) (by decide) (by decide)
  refine ⟨⟨⟨n, n1, by rw [x0]; exact n2, by rw [m0]; exact n3⟩, tp, fun i hi => by rw [hX 1 (by omega), hM 1 (by decide) (by decide) (by decide)]; exact ht i hi⟩, by rw [x0, m0]; exact h1, by rw [x0, m0]; exact h2, by rw [x0, m0]; exact h3, ?_⟩
  rw [x0, m0]
  rcases h4 with h4 | ⟨h4, h5, C, w, S, Q, T⟩
  · exact Or.inl h4
  · exact Or.inr ⟨h4, h5, C, w, S, Q, T.fr (fun q hq => hX q (by omega)) ⟨fun q hq => hM q (by omega) (by omega) (by omega), fun q i _ _ _ _ => by rw [hM q (by omega) (by omega) (by omega)], fun i _ => by rw [m0], fun i _ => by rw [hM2], fun i _ => by rw [hM2]⟩⟩
theorem M_papers {w : Nat → Int} {M : Mm} (hw : WyM 10 w M) : ∃ N, f_M_papers_0 M = some N ∧ WyM 12 w N ∧ Only 12 M N := by
  have loop := loop_up (σ := Int32 × Mm) (γ := Option Mm) (fun f s => lp_M_papers_0_2 f s.1 s.2) 37 (fun i s => s.1 = iI (i : Int) ∧ (∀ j, j < i → s.2.1 12 j = iI (w j)) ∧ Only 12 M s.2) (fun s => some s.2) ?_ ?_ FW (FW_gt (by omega)) (iI 0, M) ⟨rfl, fun j hj => absurd hj (by omega), Only.rf⟩
  · obtain ⟨⟨x, N⟩, ⟨-, a, o⟩, e⟩ := loop
    exact ⟨N, by unfold f_M_papers_0; rw [l0]; exact e, a, o⟩
  · rintro f i ⟨x, N⟩ hi ⟨ex, a, o⟩
    dsimp only at ex a o
    subst ex
    have r : rd (N.1 10) 37 (iI (i : Int)) = some (iI (w i)) := rdw (o.wy (by decide) hw) i hi rfl
    have w2 : wr N 12 37 (iI (i : Int)) (iI (w i)) = some (u1 N 12 i (iI (w i))) := by rw [wr_iI (by omega) (by omega) (by omega), Int.toNat_natCast]
    refine ⟨(iI ((i + 1 : Nat) : Int), u1 N 12 i (iI (w i))), ?_, rfl, fun j hj => ?_, o.u1⟩
    · show blp_M_papers_0_2 (lp_M_papers_0_2 f) (iI (i : Int)) N = lp_M_papers_0_2 f _ _
      unfold blp_M_papers_0_2
      have c0 : ¬ (37 ≤ iI (i : Int)) := by rw [show (37 : Int32) = iI 37 from rfl, iI_le (by omega) (by omega) (by omega) (by omega)]; omega
      rw [if_neg c0, r, Option.bind_some, w2, Option.bind_some, l1, iI_add]
      rfl
    · show (u1 N 12 i (iI (w i))).1 12 j = _
      rw [u1_at]
      by_cases e : j = i
      · rw [if_pos ⟨rfl, e⟩, e]
      · rw [if_neg (fun q => e q.2)]; exact a j (by omega)
  · rintro f ⟨x, N⟩ ⟨ex, a, o⟩
    dsimp only at ex a o
    subst ex
    rfl
theorem R_yields {X M : Mm} (h0 : Rel X M) (p : Int32) : An (f_P_yields_0 p X) (f_M_yields_0 p M) := by
  unfold f_P_yields_0 f_M_yields_0
  rw [Option.bind_some]
  have h := h0.th 0
  generalize u1 M 0 0 0 = N at h
  rcases h.told with ⟨t1, t2⟩ | ⟨t1, t2, C, w, S, Q, T⟩
  · have e : f_P_refusesPaper_0 p X = (f_P_refused_0 1 X).bind fun q6 => some (1, q6.2) := by unfold f_P_refusesPaper_0; rw [if_pos t1]
    rw [e, if_pos t2]
    exact ⟨_, _, _, rfl, rfl, h.set 1 (-1)⟩
  · rw [if_neg t2]
    rcases papT p with ⟨t, rfl, ht1, ht2, e1, e2⟩ | ⟨e1, e2⟩
    · rw [e1, e2 X t1, Option.bind_some, Option.bind_some, if_pos rfl, if_neg n10]
      unfold f_Q_asNow_48 f_M_yieldNow_0
      obtain ⟨X1, x1, x2, x3, x4⟩ := X_Vcopy_49_32 T.wx
      obtain ⟨X2, y1, y2⟩ := X_tried (t := t) T.1 (T.2.1.fr (fun q _ _ => x3 q (by omega))) x2 T.wo T.w0 ht2
      obtain ⟨M1, m1, m2, m3⟩ := M_papers T.wm
      obtain ⟨M2, n1, n2⟩ := M_yield (t := t) T.1 (m3.cfg (by decide) T.2.2.1) m2 T.wo ht2
      rw [x1, Option.bind_some, y1, Option.bind_some, m1, Option.bind_some, Option.bind_some, n1, Option.bind_some]
      exact An_good (h.pap (fun q hq => by rw [y2.1 q (by omega), x3 q (by omega)]) (fun q z1 z2 _ => by rw [n2.1 q z2, m3.1 q z1]) (n2.2.trans m3.2)) _
    · rw [e1, e2 X t1, Option.bind_some, if_pos rfl]
      exact ⟨_, _, _, rfl, rfl, h.set 2 (-1)⟩
theorem R_would {X M : Mm} (h0 : Rel X M) (p p2 p3 p4 : Int32) : An (f_P_would_0 p p2 p3 p4 X) (f_M_would_0 p p2 p3 p4 M) := by
  unfold f_P_would_0 f_M_would_0
  rw [Option.bind_some]
  have h := h0.th 0
  generalize u1 M 0 0 0 = N at h
  rcases h.bench p with ⟨e1, e2⟩ | ⟨C, w, S, Q, b, rfl, hb, e1, e2, t1, t2, T⟩
  · rw [e1, e2, Option.bind_some, Option.bind_some, if_pos rfl, if_pos rfl]; exact An_ref h 1
  · have hb6 := sz6 T.1 hb
    have hk3 := T.1.2.1
    rw [e1, e2, Option.bind_some, Option.bind_some, if_neg n10, if_neg n10]
    rcases isK p2 t1 t2 T.1 T.2.1 T.2.2.1 with ⟨e1, e2⟩ | ⟨k, rfl, hk, e1, e2⟩
    · rw [e1, e2, Option.bind_some, Option.bind_some, if_pos rfl, if_pos rfl]; exact An_ref h 1
    · rw [e1, e2, Option.bind_some, Option.bind_some, if_neg n10, if_neg n10, in_wi]
      rcases wi (p := p3) (n := 9) (by omega) (by omega) with ⟨c, rfl, hc, e⟩ | ⟨e, -⟩
      · rw [← l9] at e
        rw [e, Option.bind_some, Option.bind_some, if_neg n10, if_neg n10]
        rcases papT p4 with ⟨t, rfl, ht1, ht2, e1, e2⟩ | ⟨e1, e2⟩
        · have rc : f_P_cell (iI (b : Int)) (iI (k : Int)) = some (iI (3 * b + k)) := by unfold f_P_cell; rw [ixc]
          rw [e1, e2 X t1, Option.bind_some, Option.bind_some, if_pos rfl, if_neg n10, rc, Option.bind_some, ixc]
          unfold f_Q_withCards_48
          obtain ⟨X1, x1, x2, x3, x4⟩ := X_Vcopy_49_32 T.wx
          obtain ⟨M1, m1, m2, m3⟩ := M_papers T.wm
          have wX : wr X1 50 18 (iI (3 * (b : Int) + k)) (iI (c : Int)) = some (u1 X1 50 (3 * b + k) (iI (c : Int))) := by rw [wr_iI (by omega) (by omega) (by omega), show (3 * (b : Int) + k).toNat = 3 * b + k by omega]
          have wM : wr M1 12 37 (iI (3 * (b : Int) + k)) (iI (c : Int)) = some (u1 M1 12 (3 * b + k) (iI (c : Int))) := by rw [wr_iI (by omega) (by omega) (by omega), show (3 * (b : Int) + k).toNat = 3 * b + k by omega]
          have wx : WyX 49 (uw w (3 * b + k) c) (u1 X1 50 (3 * b + k) (iI (c : Int))) := by
            refine ⟨fun j hj => ?_, fun j hj => ?_, ?_⟩
            · rw [u1_at]
              by_cases ej : j = 3 * b + k
              · rw [if_pos ⟨rfl, ej⟩, ej, uw_eq]
              · rw [if_neg (fun q => ej q.2), uw_ne ej]; exact x2.1 j hj
            · rw [u1_ne (by decide), uw_ne (by omega)]; exact x2.2.1 j hj
            · rw [u1_ne (by decide), uw_ne (by omega)]; exact x2.2.2
          have wm : WyM 12 (uw w (3 * b + k) c) (u1 M1 12 (3 * b + k) (iI (c : Int))) := fun j hj => by
            rw [u1_at]
            by_cases ej : j = 3 * b + k
            · rw [if_pos ⟨rfl, ej⟩, ej, uw_eq]
            · rw [if_neg (fun q => ej q.2), uw_ne ej]; exact m2 j hj
          have ok : WyOk C (uw w (3 * b + k) c) := by
            refine ⟨fun b2 k2 hb2 hk2 => ?_, by rw [uw_ne (by omega)]; exact T.wo.2⟩
            have := T.wo.1 b2 k2 hb2 hk2
            have := sz6 T.1 hb2
            rw [uw_ne (c := 18 + (3 * b2 + k2)) (by omega)]
            unfold uw
            split <;> omega
          have oz : w0 C (uw w (3 * b + k) c) := fun b2 k2 hb2 hk2 hn => by
            have := T.w0 b2 k2 hb2 hk2 hn
            rw [uw_ne (c := 18 + (3 * b2 + k2)) (by omega), uw_ne (c := 3 * b2 + k2) (fun q => hn (by
              have : b2 = b := by omega
              have : k2 = k := by omega
              omega))]
            exact this
          obtain ⟨X2, y1, y2⟩ := X_tried (t := t) T.1 (T.2.1.fr (fun q _ _ => by rw [u1_ne (by omega)]; exact x3 q (by omega))) wx ok oz ht2
          obtain ⟨M2, n1, n2⟩ := M_yield (t := t) T.1 (T.2.2.1.fr (fun i _ => by rw [u1_ne (by decide), m3.1 0 (by decide)]) (fun q i _ _ _ _ => by rw [u1_ne (by omega), m3.1 q (by omega)])) wm ok ht2
          rw [x1, Option.bind_some, wX, Option.bind_some, y1, Option.bind_some, m1, Option.bind_some, Option.bind_some, wM, Option.bind_some, n1, Option.bind_some]
          exact An_good (h.pap (fun q hq => by rw [y2.1 q (by omega), u1_ne (by omega), x3 q (by omega)]) (fun q z1 z2 _ => by rw [n2.1 q z2, u1_ne z1, m3.1 q z1]) (n2.2.trans m3.2)) _
        · rw [e1, e2 X t1, Option.bind_some, if_pos rfl]
          exact ⟨_, _, _, rfl, rfl, h.set 2 (-1)⟩
      · rw [← l9] at e
        rw [e, Option.bind_some, Option.bind_some, if_pos rfl, if_pos rfl]; exact An_ref h 2

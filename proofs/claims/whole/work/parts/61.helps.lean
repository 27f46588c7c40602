theorem ho_X {C : SS} {w : Nat → Int} {X : Mm} {t : Nat} {p : Int × Int} (hO : CfgOk C) (hC : CfgX C X) (hw : WyX 32 w X) (hW : WyOk C w) (h0 : w0 C w) (ht : t ≤ 2000) (hp : 0 ≤ p.1 ∧ p.1 ≤ 120000) : ∃ Y, lp_Q_bestCardMore_48_12 FW (iI t) (iI p.1) (iI p.2) 0 X = some (iI (hoS w (fun c => yiS C (uw w c (w c + 1)) t) (C 0 0).toNat p (C 0 1).toNat).2, Y) ∧ OnP X Y := by
  have hb1 := hO.2.2.1
  have hb6 := hO.2.2.2.1
  have loop := loop_up (σ := Int32 × Int32 × Int32 × Mm) (γ := Option (Int32 × Mm)) (fun f s => lp_Q_bestCardMore_48_12 f (iI t) s.1 s.2.1 s.2.2.1 s.2.2.2) (C 0 1).toNat (fun i s => s.1 = iI (hoS w (fun c => yiS C (uw w c (w c + 1)) t) (C 0 0).toNat p i).1 ∧ s.2.1 = iI (hoS w (fun c => yiS C (uw w c (w c + 1)) t) (C 0 0).toNat p i).2 ∧ s.2.2.1 = iI (i : Int) ∧ OnP X s.2.2.2 ∧ 0 ≤ (hoS w (fun c => yiS C (uw w c (w c + 1)) t) (C 0 0).toNat p i).1 ∧ (hoS w (fun c => yiS C (uw w c (w c + 1)) t) (C 0 0).toNat p i).1 ≤ 120000) (fun s => some (s.2.1, s.2.2.2)) ?_ ?_ FW (FW_gt (by omega)) (iI p.1, iI p.2, iI 0, X) ⟨rfl, rfl, rfl, OnP.rf, hp⟩
  · obtain ⟨⟨a, b, c, Y⟩, ⟨-, e2, -, o, -⟩, ev⟩ := loop
    dsimp only at e2 o ev
    exact ⟨Y, by rw [l0, ← e2]; exact ev, o⟩
  · rintro f i ⟨a, b, c, Y⟩ hi ⟨ea, eb, ec, o, q⟩
    dsimp only at ea eb ec o
    subst ea; subst eb; subst ec
    have wY : WyX 32 w Y := ⟨fun c hc => by rw [o.1 33 (by omega)]; exact hw.1 c hc, fun c hc => by rw [o.1 34 (by omega)]; exact hw.2.1 c hc, by rw [o.1 32 (by omega)]; exact hw.2.2⟩
    obtain ⟨Z, z1, z2, z3⟩ := help_X (t := t) (b := i) (lp_Q_bestCardMore_48_12 f) hO (o.cfg hC) wY hW h0 ht (by omega) q
    refine ⟨(_, _, _, Z), ?_, rfl, rfl, rfl, o.tr z2, z3⟩
    show blp_Q_bestCardMore_48_12 (lp_Q_bestCardMore_48_12 f) _ _ _ _ _ = _
    unfold blp_Q_bestCardMore_48_12
    have c0 : ¬ (iI (C 0 1) ≤ iI (i : Int)) := by rw [iI_le (by omega) (by omega) (by omega) (by omega)]; omega
    rw [(o.cfg hC).2.1, if_neg c0, z1]
    rfl
  · rintro f ⟨a, b, c, Y⟩ ⟨ea, eb, ec, o, q⟩
    dsimp only at ea eb ec o
    subst ea; subst eb; subst ec
    show blp_Q_bestCardMore_48_12 (lp_Q_bestCardMore_48_12 f) _ _ _ _ _ = _
    unfold blp_Q_bestCardMore_48_12
    have c0 : iI (C 0 1) ≤ iI ((C 0 1).toNat : Int) := (iI_le (by omega) (by omega) (by omega) (by omega)).mpr (by omega)
    rw [(o.cfg hC).2.1, if_pos c0]
theorem ho_M {C : SS} {w : Nat → Int} {M : Mm} {t : Nat} {p : Int × Int} (hO : CfgOk C) (hC : CfgM C M) (hw : WyM 10 w M) (hW : WyOk C w) (h0 : w0 C w) (ht : t ≤ 2000) (hp : 0 ≤ p.1 ∧ p.1 ≤ 120000) (hX : ∀ i, i ≤ (C 0 1).toNat → 0 ≤ (hoS w (fun c => yiS C (uw w c (w c + 1)) t) (C 0 0).toNat p i).1 ∧ (hoS w (fun c => yiS C (uw w c (w c + 1)) t) (C 0 0).toNat p i).1 ≤ 120000) : ∃ N, lp_M_helps_0_43 FW (iI t) (iI p.1) (iI p.2) 0 M = ((f_M_good_0 (iI (hoS w (fun c => yiS C (uw w c (w c + 1)) t) (C 0 0).toNat p (C 0 1).toNat).2) N).bind fun q => some (q.1, q.2)) ∧ (∀ q, q ≠ 12 → q ≠ 16 → N.1 q = M.1 q) ∧ N.2 = M.2 := by
  have hb1 := hO.2.2.1
  have hb6 := hO.2.2.2.1
  have cfg : ∀ N : Mm, (∀ q, q ≠ 12 → q ≠ 16 → N.1 q = M.1 q) → CfgM C N := fun N o => hC.fr (fun i _ => by rw [o 0 (by decide) (by decide)]) (fun q i _ _ _ _ => by rw [o q (by omega) (by omega)])
  have loop := loop_up (σ := Int32 × Int32 × Int32 × Mm) (γ := Option (Int32 × Mm)) (fun f s => lp_M_helps_0_43 f (iI t) s.1 s.2.1 s.2.2.1 s.2.2.2) (C 0 1).toNat (fun i s => s.1 = iI (hoS w (fun c => yiS C (uw w c (w c + 1)) t) (C 0 0).toNat p i).1 ∧ s.2.1 = iI (hoS w (fun c => yiS C (uw w c (w c + 1)) t) (C 0 0).toNat p i).2 ∧ s.2.2.1 = iI (i : Int) ∧ (∀ q, q ≠ 12 → q ≠ 16 → s.2.2.2.1 q = M.1 q) ∧ s.2.2.2.2 = M.2) (fun s => (f_M_good_0 s.2.1 s.2.2.2).bind fun q => some (q.1, q.2)) ?_ ?_ FW (FW_gt (by omega)) (iI p.1, iI p.2, iI 0, M) ⟨rfl, rfl, rfl, fun _ _ _ => rfl, rfl⟩
  · obtain ⟨⟨a, b, c, Y⟩, ⟨-, e2, -, o, o2⟩, ev⟩ := loop
    dsimp only at e2 o o2 ev
    exact ⟨Y, by rw [l0, ← e2]; exact ev, o, o2⟩
  · rintro f i ⟨a, b, c, Y⟩ hi ⟨ea, eb, ec, o, o2⟩
    dsimp only at ea eb ec o o2
    subst ea; subst eb; subst ec
    obtain ⟨Z, z1, z2, z3⟩ := help_M (M := Y) (t := t) (b := i) (lp_M_helps_0_43 f) hO (cfg Y o) (fun c hc => by rw [o 10 (by decide) (by decide)]; exact hw c hc) hW h0 ht (by omega) (hX i (by omega))
    refine ⟨(_, _, _, Z), ?_, rfl, rfl, rfl, fun q a b => (z2 q a b).trans (o q a b), z3.trans o2⟩
    show blp_M_helps_0_43 (lp_M_helps_0_43 f) _ _ _ _ _ = _
    unfold blp_M_helps_0_43
    have c0 : ¬ (iI (C 0 1) ≤ iI (i : Int)) := by rw [iI_le (by omega) (by omega) (by omega) (by omega)]; omega
    rw [(cfg Y o).2.1, if_neg c0, z1]
    rfl
  · rintro f ⟨a, b, c, Y⟩ ⟨ea, eb, ec, o, o2⟩
    dsimp only at ea eb ec o
    subst ea; subst eb; subst ec
    show blp_M_helps_0_43 (lp_M_helps_0_43 f) _ _ _ _ _ = _
    unfold blp_M_helps_0_43
    have c0 : iI (C 0 1) ≤ iI ((C 0 1).toNat : Int) := (iI_le (by omega) (by omega) (by omega) (by omega)).mpr (by omega)
    rw [(cfg Y o).2.1, if_pos c0]
theorem ho_bd {C : SS} {w : Nat → Int} {t : Nat} {p : Int × Int} (hO : CfgOk C) (hW : WyOk C w) (h0 : w0 C w) (ht : t ≤ 2000) (hp : 0 ≤ p.1 ∧ p.1 ≤ 120000) : ∀ i, i ≤ (C 0 1).toNat → 0 ≤ (hoS w (fun c => yiS C (uw w c (w c + 1)) t) (C 0 0).toNat p i).1 ∧ (hoS w (fun c => yiS C (uw w c (w c + 1)) t) (C 0 0).toNat p i).1 ≤ 120000 := by
  have inn : ∀ (b : Nat) (r : Int × Int), (b : Int) < C 0 1 → 0 ≤ r.1 ∧ r.1 ≤ 120000 → ∀ k, k ≤ (C 0 0).toNat → 0 ≤ (hiS w (fun c => yiS C (uw w c (w c + 1)) t) b r k).1 ∧ (hiS w (fun c => yiS C (uw w c (w c + 1)) t) b r k).1 ≤ 120000 := by
    intro b r hb hr k
    induction k with
    | zero => intro _; exact hr
    | succ k ih =>
      intro hk
      refine hp_bd (ih (by omega)) (fun h9 => ?_)
      have := hW.1 b k hb (by omega)
      exact (yi_bd hO (uw_ok hO hW h0 hb (by omega) (by omega) (by omega)).1 ht).2
  intro i
  induction i with
  | zero => intro _; exact hp
  | succ i ih => intro hi; exact inn i _ (by omega) (ih (by omega)) _ (Nat.le_refl _)
theorem R_helps {X M : Mm} (h0 : Rel X M) (p : Int32) : An (f_P_helps_0 p X) (f_M_helps_0 p M) := by
  unfold f_P_helps_0 f_M_helps_0
  rw [Option.bind_some]
  have h := h0.th 0
  generalize u1 M 0 0 0 = N at h
  rcases h.told with ⟨t1, t2⟩ | ⟨t1, t2, C, w, S, Q, T⟩
  · have e : f_P_refusesPaper_0 p X = (f_P_refused_0 1 X).bind fun q6 => some (1, q6.2) := by unfold f_P_refusesPaper_0; rw [if_pos t1]
    rw [e, if_pos t2]
    exact ⟨_, _, _, rfl, rfl, h.set 1 (-1)⟩
  · rw [if_neg t2]
    rcases papT p with ⟨t, rfl, ht1, ht2, e1, e2⟩ | ⟨e1, e2⟩
    · rw [e1, e2 X t1, Option.bind_some, Option.bind_some, if_pos rfl, if_neg n10]
      unfold f_Q_bestCardMore_48 f_Q_asNow_48 f_M_yieldNow_0
      obtain ⟨X1, x1, x2, x3, x4⟩ := X_Vcopy_49_32 T.wx
      obtain ⟨X2, y1, y2⟩ := X_tried (t := t) T.1 (T.2.1.fr (fun q _ _ => x3 q (by omega))) x2 T.wo T.w0 ht2
      obtain ⟨M1, m1, m2, m3⟩ := M_papers T.wm
      obtain ⟨M2, n1, n2⟩ := M_yield (t := t) T.1 (m3.cfg (by decide) T.2.2.1) m2 T.wo ht2
      have oX : OnP X X2 := ⟨fun q hq => by rw [y2.1 q (by omega), x3 q (by omega)], y2.2.trans x4⟩
      have oM : ∀ q, q ≠ 12 → q ≠ 16 → M2.1 q = N.1 q := fun q a b => by rw [n2.1 q b, m3.1 q a]
      have yb := yi_bd (t := t) T.1 T.wo ht2
      have wx2 : WyX 32 w X2 := ⟨fun c hc => by rw [oX.1 33 (by omega)]; exact T.wx.1 c hc, fun c hc => by rw [oX.1 34 (by omega)]; exact T.wx.2.1 c hc, by rw [oX.1 32 (by omega)]; exact T.wx.2.2⟩
      obtain ⟨Y, v1, v2⟩ := ho_X (t := t) (p := (yiS C w t, -2)) T.1 (oX.cfg T.2.1) wx2 T.wo T.w0 ht2 yb
      obtain ⟨O, o1, o2, o3⟩ := ho_M (M := M2) (t := t) (p := (yiS C w t, -2)) T.1 (T.2.2.1.fr (fun i _ => by rw [oM 0 (by decide) (by decide)]) (fun q i _ _ _ _ => by rw [oM q (by omega) (by omega)])) (fun c hc => by rw [oM 10 (by decide) (by decide)]; exact T.wm c hc) T.wo T.w0 ht2 yb (ho_bd T.1 T.wo T.w0 ht2 yb)
      dsimp only at v1 o1
      rw [x1, Option.bind_some, y1, Option.bind_some, Option.bind_some, m1, Option.bind_some, n1, Option.bind_some, Option.bind_some]
      dsimp only
      rw [lm2, v1, o1]
      exact An_good (h.pap (oX.tr v2).1 (fun q z1 z2 _ => (o2 q z1 z2).trans (oM q z1 z2)) (o3.trans (n2.2.trans m3.2))) _
    · rw [e1, e2 X t1, Option.bind_some, if_pos rfl]
      exact ⟨_, _, _, rfl, rfl, h.set 2 (-1)⟩

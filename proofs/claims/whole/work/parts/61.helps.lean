theorem ho_X {C : SS} {w : Nat → Int} {X : Mm} {t : Nat} {p : Int × Int} (hO : CfgOk C) (hC : CfgX C X) (hw : WyX 32 w X) (hW : WyOk C w) (h0 : w0 C w) (ht : t ≤ 2000) (hp : 0 ≤ p.1 ∧ p.1 ≤ 120000) : ∃ Y, lp_Q_bestCardMore_48_12 FW (iI t) (iI p.1) (iI p.2) 0 X = some (iI (hoS w (fun c => yiS C (uw w c (w c + 1)) t) (C 0 0).toNat p (C 0 1).toNat).2, Y) ∧ OnP X Y := by
  have hb1 := hO.2.2.1
  have hb6 := hO.2.2.2.1
  have loop := loop_up (σ := Int32 × Int32 × Int32 × Mm) (γ := Option (Int32 × Mm)) (fun f s => lp_Q_bestCardMore_48_12 f (iI t) s.1 s.2.1 s.2.2.1 s.2.2.2) (C 0 1).toNat (fun i s => s.1 = iI (hoS w (fun c => yiS C (uw w c (w c + 1)) t) (C 0 0).toNat p i).1 ∧ s.2.1 = iI (hoS w (fun c => yiS C (uw w c (w c + 1)) t) (C 0 0).toNat p i).2 ∧ s.2.2.1 = iI (i : Int) ∧ OnP X s.2.2.2 ∧ 0 ≤ (hoS w (fun c => yiS C (uw w c (w c + 1)) t) (C 0 0).toNat p i).1 ∧ (hoS w (fun c => yiS C (uw w c (w c + 1)) t) (C 0 0).toNat p i).1 ≤ 120000) (fun s => some (s.2.1, s.2.2.2)) ?_ ?_ FW (FW_gt (by omega)) (iI p.1, iI p.2, iI 0, X) ⟨rfl, rfl, rfl, OnP.rf, hp⟩
  · obtain ⟨⟨a, b, c, Y⟩, ⟨-, e2, -, o, -⟩, ev⟩ := loop
    dsimp only at e2 o ev
    exact ⟨Y, by rw [l0, ← e2]; exact ev, o⟩
  · rintro f i ⟨a, b, c, Y⟩ hi ⟨ea, eb, ec, o, q⟩
    dsimp only at ea eb ec o
    subst ea; subst eb; subst ec
    have wY : WyX 32 w Y := ⟨fun c hc => by rw [o.1 33 (by omega)]; exact hw.1 c hc, fun c hc => by rw [o.1 34 (by omega)]; exact hw.2.1 c hc, by rw [o.1 32 (by omega)]; exact hw.2.2⟩
    obtain ⟨Z, z1, z2, z3⟩ := help_X (t := t) (b := i) (lp_Q_bestCardMore_48_12 f) hO (o.cfg hC) wY hW h0 ht (by omega) q
    refine ⟨(_, _, _, Z), ?_, rfl, rfl, rfl, o.tr z2, z3⟩
    show blp_Q_bestCardMore_48_12 (lp_Q_bestCardMore_48_12 f) _ _ _ _ _ = _
    unfold blp_Q_bestCardMore_48_12
    have c0 : ¬ (iI (C 0 1) ≤ iI (i : Int)) := by rw [iI_le (by omega) (by omega) (by omega) (by omega)]; omega
    rw [(o.cfg hC).2.1, if_neg c0, z1]
    rfl
  · rintro f ⟨a, b, c, Y⟩ ⟨ea, eb, ec, o, q⟩
    dsimp only at ea eb ec o
    subst ea; subst eb; subst ec
    show blp_Q_bestCardMore_48_12 (lp_Q_bestCardMore_48_12 f) _ _ _ _ _ = _
    unfold blp_Q_bestCardMore_48_12
    have c0 : iI (C 0 1) ≤ iI ((C 0 1).toNat : Int) := (iI_le (by omega) (by omega) (by omega) (by omega)).mpr (by omega)
    rw [(o.cfg hC).2.1, if_pos c0]
theorem ho_M {C : SS} {w : Nat → Int} {M : Mm} {t : Nat} {p : Int × Int} (hO : CfgOk C) (hC : CfgM C M) (hw : WyM 10 w M) (hW : WyOk C w) (h0 : w0 C w) (ht : t ≤ 2000) (hp : 0 ≤ p.1 ∧ p.1 ≤ 120000) (hX : ∀ i, i ≤ (C 0 1).toNat → 0 ≤ (hoS w (fun c => yiS C (uw w c (w c + 1)) t) (C 0 0).toNat p i).1 ∧ (hoS w (fun c => yiS C (uw w c (w c + 1)) t) (C 0 0).toNat p i).1 ≤ 120000) : ∃ N, lp_M_helps_0_43 FW (iI t) (iI p.1) (iI p.2) 0 M = ((f_M_good_0 (iI (hoS w (fun c => yiS C (uw w c (w c + 1)) t) (C 0 0).toNat p (C 0 1).toNat).2) N).bind fun q => some (q.1, q.2)) ∧ (∀ q, q ≠ 12 → q ≠ 16 → N.1 q = M.1 q) ∧ N.2 = M.2 := by
  have hb1 := hO.2.2.1
  have hb6 := hO.2.2.2.1
  have cfg : ∀ N : Mm, (∀ q, q ≠ 12 → q ≠ 16 → N.1 q = M.1 q) → CfgM C N := fun N o => hC.fr (fun i _ => by rw [o 0 (by decide) (by decide)]) (fun q i _ _ _ _ => by rw [o q (by omega) (by omega)])
  have loop := loop_up (σ := Int32 × Int32 × Int32 × Mm) (γ := Option (Int32 × Mm)) (fun f s => lp_M_helps_0_43 f (iI t) s.1 s.2.1 s.2.2.1 s.2.2.2) (C 0 1).toNat (fun i s => s.1 = iI (hoS w (fun c => yiS C (uw w c (w c + 1)) t) (C 0 0).toNat p i).1 ∧ s.2.1 = iI (hoS w (fun c => yiS C (uw w c (w c + 1)) t) (C 0 0).toNat p i).2 ∧ s.2.2.1 = iI (i : Int) ∧ (∀ q, q ≠ 12 → q ≠ 16 → s.2.2.2.1 q = M.1 q) ∧ s.2.2.2.2 = M.2) (fun s => (f_M_good_0 s.2.1 s.2.2.2).bind fun q => some (q.1, q.2)) ?_ ?_ FW (FW_gt (by omega)) (iI p.1, iI p.2, iI 0, M) ⟨rfl, rfl, rfl, fun _ _ _ => rfl, rfl⟩
  · obtain ⟨⟨a, b, c, Y⟩, ⟨-, e2, -, o, o2⟩, ev⟩ := loop
    dsimp only at e2 o o2 ev
    exact ⟨Y, by rw [l0, ← e2]; exact ev, o, o2⟩
  · rintro f i ⟨a, b, c, Y⟩ hi ⟨ea, eb, ec, o, o2⟩
    dsimp only at ea eb ec o o2
    subst ea; subst eb; subst ec
    obtain ⟨Z, z1, z2, z3⟩ := help_M (M := Y) (t := t) (b := i) (lp_M_helps_0_43 f) hO (cfg Y o) (fun c hc => by rw [o 10 (by decide) (by decide)]; exact hw c hc) hW h0 ht (by omega) (hX i (by omega))
    refine ⟨(_, _, _, Z), ?_, rfl, rfl, rfl, fun q a b => (z2 q a b).trans (o q a b), z3.trans o2⟩
    show blp_M_helps_0_43 (lp_M_helps_0_43 f) _ _ _ _ _ = _
    unfold blp_M_helps_0_43
    have c0 : ¬ (iI (C 0 1) ≤ iI (i : Int)) := by rw [iI_le (by omega) (by omega) (by omega) (by omega)]; omega
    rw [(cfg Y o).2.1, if_neg c0, z1]
    rfl
  · rintro f ⟨a, b, c, Y⟩ ⟨ea, eb, ec, o, o2⟩
    dsimp only at ea eb ec o
    subst ea; subst eb; subst ec
    show blp_M_helps_0_43 (lp_M_helps_0_43 f) _ _ _ _ _ = _
    unfold blp_M_helps_0_43
    have c0 : iI (C 0 1) ≤ iI ((C 0 1).toNat : Int) := (iI_le (by omega) (by omega) (by omega) (by omega)).mpr (by omega)
    rw [(cfg Y o).2.1, if_pos c0]

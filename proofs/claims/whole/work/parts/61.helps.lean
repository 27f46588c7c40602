theorem ho_X {C : SS} {w : Nat → Int} {X : Mm} {t : Nat} {p : Int × Int} (hO : CfgOk C) (hC : CfgX C X) (hw : WyX 32 w X) (hW : WyOk C w) (h0 : w0 C w) (ht : t ≤ 2000) (hp : 0 ≤ p.1 ∧ p.1 ≤ 120000) : ∃ Y, lp_Q_bestCardMore_48_12 FW (iI t) (iI p.1) (iI p.2) 0 X = some (iI (hoS w (fun c => yiS C (uw w c (w c + 1)) t) (C 0 0).toNat p (C 0 1).toNat).2, Y) ∧ OnP X Y := by
  have hb1 := hO.2.2.1
  have hb6 := hO.2.2.2.1
  have loop := loop_up (σ := Int32 × Int32 × Int32 × Mm) (γ := Option (Int32 × Mm)) (fun f s => lp_Q_bestCardMore_48_12 f (iI t) s.1 s.2.1 s.2.2.1 s.2.2.2) (C 0 1).toNat (fun i s => s.1 = iI (hoS w (fun c => yiS C (uw w c (w c + 1)) t) (C 0 0).toNat p i).1 ∧ s.2.1 = iI (hoS w (fun c => yiS C (uw w c (w c + 1)) t) (C 0 0).toNat p i).2 ∧ s.2.2.1 = iI (i : Int) ∧ OnP X s.2.2.2 ∧ 0 ≤ (hoS w (fun c => yiS C (uw w c (w c + 1)) t) (C 0 0).toNat p i).1 ∧ (hoS w (fun c => yiS C (uw w c (w c + 1)) t) (C 0 0).toNat p i).1 ≤ 120000) (fun s => some (s.2.1, s.2.2.2)) ?_ ?_ FW (FW_gt (by omega)) (iI p.1, iI p.2, iI 0, X) ⟨rfl, rfl, rfl, OnP.rf, hp⟩
  · obtain ⟨⟨a, b, c, Y⟩, ⟨-, e2, -, o, -⟩, ev⟩ := loop
    dsimp only at e2 o ev
    exact ⟨Y, by rw [l0, ← e2]; exact ev, o⟩
  · rintro f i ⟨a, b, c, Y⟩ hi ⟨ea, eb, ec, o, q⟩
    dsimp only at ea eb ec o
    subst ea; subst eb; subst ec
    have wY : WyX 32 w Y := ⟨fun c hc => by rw [o.1 33 (by omega)]; exact hw.1 c hc, fun c hc => by rw [o.1 34 (by omega)]; exact hw.2.1 c hc, by rw [o.1 32 (by omega)]; exact hw.2.2⟩
    obtain ⟨Z, z1, z2, z3⟩ := help_X (t := t) (b := i) (lp_Q_bestCardMore_48_12 f) hO (o.cfg hC) wY hW h0 ht (by omega) q
    refine ⟨(_, _, _, Z), ?_, rfl, rfl, rfl, o.tr z2, z3⟩
    show blp_Q_bestCardMore_48_12 (lp_Q_bestCardMore_48_12 f) _ _ _ _ _ = _
    unfold blp_Q_bestCardMore_48_12
    have c0 : ¬ (iI (C 0 1) ≤ iI (i : Int)) := by rw [iI_le (by omega) (by omega) (by omega) (by omega)]; omega
    rw [(o.cfg hC).2.1, if_neg c0, z1]
    rfl
  · rintro f ⟨a, b, c, Y⟩ ⟨ea, eb, ec, o, q⟩
    dsimp only at ea eb ec o
    subst ea; subst eb; subst ec
    show blp_Q_bestCardMore_48_12 (lp_Q_bestCardMore_48_12 f) _ _ _ _ _ = _
    unfold blp_Q_bestCardMore_48_12
    have c0 : iI (C 0 1) ≤ iI ((C 0 1).toNat : Int) := (iI_le (by omega) (by omega) (by omega) (by omega)).mpr (by omega)
    rw [(o.cfg hC).2.1, if_pos c0]

/-- times of bench b, the first m kinds: 1 -/
def thS (w : Nat → Int) (b m : Nat) (c : Nat) : Int := if 18 + 3 * b ≤ c ∧ c < 18 + 3 * b + m then 1 else w c
def hbS (y : Nat → Int) : Nat → Int × Int
  | 0 => (-1, 0)
  | b + 1 => if y b ≤ (hbS y b).1 then hbS y b else (y b, (b : Int))
theorem hold_X {C : SS} {w : Nat → Int} {X : Mm} {b : Nat} {x1 x2 x3 : Int32} (rc : Int32 → Int32 → Int32 → Int32 → Mm → Option (Int32 × Mm)) (hO : CfgOk C) (hC : CfgX C X) (hb : b < 6) (h : WyX 49 w X) : ∃ Y, lp_Q_bestSwiftBench_48_33 rc FW x1 x2 x3 (iI b) 0 X = j_Q_bestSwiftBench_48_67 rc x1 x2 x3 (iI b) Y ∧ WyX 49 (thS w b (C 0 0).toNat) Y ∧ OnP X Y := by
  have hk1 := hO.1
  have hk3 := hO.2.1
  have loop := loop_up (σ := Int32 × Mm) (γ := Option (Int32 × Mm)) (fun f s => lp_Q_bestSwiftBench_48_33 rc f x1 x2 x3 (iI b) s.1 s.2) (C 0 0).toNat (fun i s => s.1 = iI (i : Int) ∧ WyX 49 (thS w b i) s.2 ∧ OnP X s.2) (fun s => j_Q_bestSwiftBench_48_67 rc x1 x2 x3 (iI b) s.2) ?_ ?_ FW (FW_gt (by omega)) (iI 0, X) ⟨rfl, WyX_congr h (fun c _ => by unfold thS; rw [if_neg (by omega)]), OnP.rf⟩
  · obtain ⟨⟨x, Y⟩, ⟨-, r, o⟩, e⟩ := loop
    exact ⟨Y, by rw [l0]; exact e, r, o⟩
  · rintro f i ⟨x, Y⟩ hi ⟨ex, r, o⟩
    dsimp only at ex r o
    subst ex
    have rc' : f_P_cell (iI (b : Int)) (iI (i : Int)) = some (iI (3 * b + i)) := by unfold f_P_cell; rw [ixc]
    have w2 : wr Y 51 18 (iI (3 * (b : Int) + i)) 1 = some (u1 Y 51 (3 * b + i) 1) := by rw [wr_iI (by omega) (by omega) (by omega), show (3 * (b : Int) + i).toNat = 3 * b + i by omega]
    refine ⟨(iI ((i + 1 : Nat) : Int), u1 Y 51 (3 * b + i) 1), ?_, rfl, ⟨fun c hc => ?_, fun c hc => ?_, ?_⟩, o.u (by omega)⟩
    · show blp_Q_bestSwiftBench_48_33 rc (lp_Q_bestSwiftBench_48_33 rc f) x1 x2 x3 (iI b) (iI (i : Int)) Y = lp_Q_bestSwiftBench_48_33 rc f x1 x2 x3 (iI b) _ _
      unfold blp_Q_bestSwiftBench_48_33
      have c0 : ¬ (iI (C 0 0) ≤ iI (i : Int)) := by rw [iI_le (by omega) (by omega) (by omega) (by omega)]; omega
      rw [(o.cfg hC).1, if_neg c0, rc', Option.bind_some, w2, Option.bind_some, show iI (i : Int) + 1 = iI ((i + 1 : Nat) : Int) by rw [l1, iI_add]; rfl]
    · show (u1 Y 51 (3 * b + i) 1).1 50 c = _
      rw [u1_ne (by decide)]
      have rc := r.1 c hc
      unfold thS at rc ⊢
      rw [if_neg (by omega)] at rc ⊢
      exact rc
    · show (u1 Y 51 (3 * b + i) 1).1 51 c = _
      rw [u1_at]
      have rc := r.2.1 c hc
      unfold thS at rc ⊢
      by_cases e : c = 3 * b + i
      · rw [if_pos ⟨rfl, e⟩, if_pos (by omega)]; exact l1
      · rw [if_neg (fun q => e q.2)]
        refine Eq.trans rc ?_
        by_cases e1 : 18 + 3 * b ≤ 18 + c ∧ 18 + c < 18 + 3 * b + i
        · rw [if_pos e1, if_pos (by omega)]
        · rw [if_neg e1, if_neg (by omega)]
    · show (u1 Y 51 (3 * b + i) 1).1 49 2 = _
      rw [u1_ne (by decide)]
      have rc := r.2.2
      unfold thS at rc ⊢
      rw [if_neg (by omega)] at rc ⊢
      exact rc
  · rintro f ⟨x, Y⟩ ⟨ex, r, o⟩
    dsimp only at ex r o
    subst ex
    show blp_Q_bestSwiftBench_48_33 rc (lp_Q_bestSwiftBench_48_33 rc f) x1 x2 x3 (iI b) (iI ((C 0 0).toNat : Int)) Y = _
    unfold blp_Q_bestSwiftBench_48_33
    have c0 : iI (C 0 0) ≤ iI ((C 0 0).toNat : Int) := (iI_le (by omega) (by omega) (by omega) (by omega)).mpr (by omega)
    rw [(o.cfg hC).1, if_pos c0]
theorem hold_M {C : SS} {w : Nat → Int} {M : Mm} {b : Nat} {x1 x2 x3 : Int32} (rc : Int32 → Int32 → Int32 → Int32 → Mm → Option (Int32 × Mm)) (hO : CfgOk C) (hC : CfgM C M) (hb : b < 6) (h : WyM 12 w M) : ∃ N, lp_M_holds_0_54 rc FW x1 x2 x3 (iI b) 0 M = j_M_holds_0_85 rc x1 x2 x3 (iI b) N ∧ WyM 12 (thS w b (C 0 0).toNat) N ∧ Only 12 M N := by
  have hk1 := hO.1
  have hk3 := hO.2.1
  have loop := loop_up (σ := Int32 × Mm) (γ := Option (Int32 × Mm)) (fun f s => lp_M_holds_0_54 rc f x1 x2 x3 (iI b) s.1 s.2) (C 0 0).toNat (fun i s => s.1 = iI (i : Int) ∧ WyM 12 (thS w b i) s.2 ∧ Only 12 M s.2) (fun s => j_M_holds_0_85 rc x1 x2 x3 (iI b) s.2) ?_ ?_ FW (FW_gt (by omega)) (iI 0, M) ⟨rfl, fun c hc => by unfold thS; rw [if_neg (by omega)]; exact h c hc, Only.rf⟩
  · obtain ⟨⟨x, Y⟩, ⟨-, r, o⟩, e⟩ := loop
    exact ⟨Y, by rw [l0]; exact e, r, o⟩
  · rintro f i ⟨x, Y⟩ hi ⟨ex, r, o⟩
    dsimp only at ex r o
    subst ex
    have w2 : wr Y 12 37 (iI (18 + 3 * (b : Int) + i)) 1 = some (u1 Y 12 (18 + 3 * b + i) 1) := by rw [wr_iI (by omega) (by omega) (by omega), show (18 + 3 * (b : Int) + i).toNat = 18 + 3 * b + i by omega]
    refine ⟨(iI ((i + 1 : Nat) : Int), u1 Y 12 (18 + 3 * b + i) 1), ?_, rfl, fun c hc => ?_, o.u1⟩
    · show blp_M_holds_0_54 rc (lp_M_holds_0_54 rc f) x1 x2 x3 (iI b) (iI (i : Int)) Y = lp_M_holds_0_54 rc f x1 x2 x3 (iI b) _ _
      unfold blp_M_holds_0_54
      have c0 : ¬ (iI (C 0 0) ≤ iI (i : Int)) := by rw [iI_le (by omega) (by omega) (by omega) (by omega)]; omega
      rw [(o.cfg (by decide) hC).1, if_neg c0, show (18 : Int32) = iI 18 from rfl, l3, iI_mul, iI_add, iI_add, w2, Option.bind_some, show iI (i : Int) + 1 = iI ((i + 1 : Nat) : Int) by rw [l1, iI_add]; rfl]
    · show (u1 Y 12 (18 + 3 * b + i) 1).1 12 c = _
      rw [u1_at]
      have rc := r c hc
      unfold thS at rc ⊢
      by_cases e : c = 18 + 3 * b + i
      · rw [if_pos ⟨rfl, e⟩, if_pos (by omega)]; exact l1
      · rw [if_neg (fun q => e q.2)]
        refine Eq.trans rc ?_
        by_cases e1 : 18 + 3 * b ≤ c ∧ c < 18 + 3 * b + i
        · rw [if_pos e1, if_pos (by omega)]
        · rw [if_neg e1, if_neg (by omega)]
  · rintro f ⟨x, Y⟩ ⟨ex, r, o⟩
    dsimp only at ex r o
    subst ex
    show blp_M_holds_0_54 rc (lp_M_holds_0_54 rc f) x1 x2 x3 (iI b) (iI ((C 0 0).toNat : Int)) Y = _
    unfold blp_M_holds_0_54
    have c0 : iI (C 0 0) ≤ iI ((C 0 0).toNat : Int) := (iI_le (by omega) (by omega) (by omega) (by omega)).mpr (by omega)
    rw [(o.cfg (by decide) hC).1, if_pos c0]
theorem th_ok {C : SS} {w : Nat → Int} {b : Nat} (hO : CfgOk C) (hW : WyOk C w) (h0 : w0 C w) (hb : (b : Int) < C 0 1) : WyOk C (thS w b (C 0 0).toNat) ∧ w0 C (thS w b (C 0 0).toNat) := by
  have hb6 := hO.2.2.2.1
  have hk3 := hO.2.1
  refine ⟨⟨fun b2 k2 hb2 hk2 => ?_, ?_⟩, fun b2 k2 hb2 hk2 hn => ?_⟩
  · have := hW.1 b2 k2 hb2 hk2
    unfold thS
    rw [if_neg (by omega)]
    split <;> omega
  · unfold thS; rw [if_neg (by omega)]; exact hW.2
  · unfold thS
    rw [if_neg (by omega), if_neg (by omega)]
    exact h0 b2 k2 hb2 hk2 hn
theorem hb_bd {y : Nat → Int} : ∀ n : Nat, (∀ b, b < n → 0 ≤ y b ∧ y b ≤ 120000) → -1 ≤ (hbS y n).1 ∧ (hbS y n).1 ≤ 120000
  | 0, _ => ⟨Int.le_refl _, (by decide : (-1 : Int) ≤ 120000)⟩
  | n + 1, h => by
    have ih := hb_bd n (fun b hb => h b (by omega))
    have q := h n (by omega)
    unfold hbS
    split
    · exact ih
    · exact ⟨by omega, q.2⟩
theorem holds_X {C : SS} {w : Nat → Int} {X : Mm} {t : Nat} (hO : CfgOk C) (hC : CfgX C X) (hw : WyX 32 w X) (hW : WyOk C w) (h0 : w0 C w) (ht : t ≤ 2000) : ∃ Y, f_Q_bestSwiftBench_48 (iI t) X = some (iI (hbS (fun b => yiS C (thS w b (C 0 0).toNat) t) (C 0 1).toNat).2, Y) ∧ OnP X Y := by
  have hb1 := hO.2.2.1
  have hb6 := hO.2.2.2.1
  have yb : ∀ b : Nat, (b : Int) < C 0 1 → 0 ≤ yiS C (thS w b (C 0 0).toNat) t ∧ yiS C (thS w b (C 0 0).toNat) t ≤ 120000 := fun b hb => yi_bd hO (th_ok hO hW h0 hb).1 ht
  have loop := loop_up (σ := Int32 × Int32 × Int32 × Mm) (γ := Option (Int32 × Mm)) (fun f s => lp_Q_bestSwiftBench_48_7 f (iI t) s.1 s.2.1 s.2.2.1 s.2.2.2) (C 0 1).toNat (fun i s => s.1 = iI (hbS (fun b => yiS C (thS w b (C 0 0).toNat) t) i).1 ∧ s.2.1 = iI (hbS (fun b => yiS C (thS w b (C 0 0).toNat) t) i).2 ∧ s.2.2.1 = iI (i : Int) ∧ OnP X s.2.2.2) (fun s => some (s.2.1, s.2.2.2)) ?_ ?_ FW (FW_gt (by omega)) (iI (-1), iI 0, iI 0, X) ⟨rfl, rfl, rfl, OnP.rf⟩
  · obtain ⟨⟨a, b, c, Y⟩, ⟨-, e2, -, o⟩, ev⟩ := loop
    dsimp only at e2 o ev
    have e0 : f_Q_bestSwiftBench_48 (iI t) X = lp_Q_bestSwiftBench_48_7 FW (iI t) (iI (-1)) (iI 0) (iI 0) X := by unfold f_Q_bestSwiftBench_48; rw [lm1, l0]
    exact ⟨Y, by rw [e0, ← e2]; exact ev, o⟩
  · rintro f i ⟨a, b, c, Y⟩ hi ⟨ea, eb, ec, o⟩
    dsimp only at ea eb ec o
    subst ea; subst eb; subst ec
    have hib : (i : Int) < C 0 1 := by omega
    obtain ⟨Y1, y1, y2, y3, y4⟩ := X_Vcopy_49_32 (X := Y) (w := w) ⟨fun c hc => by rw [o.1 33 (by omega)]; exact hw.1 c hc, fun c hc => by rw [o.1 34 (by omega)]; exact hw.2.1 c hc, by rw [o.1 32 (by omega)]; exact hw.2.2⟩
    have o1 : OnP X Y1 := o.tr ⟨fun q hq => y3 q (by omega), y4⟩
    obtain ⟨Y2, z1, z2, z3⟩ := hold_X (x1 := iI t) (x2 := iI (hbS (fun b => yiS C (thS w b (C 0 0).toNat) t) i).1) (x3 := iI (hbS (fun b => yiS C (thS w b (C 0 0).toNat) t) i).2) (lp_Q_bestSwiftBench_48_7 f) hO (o1.cfg hC) (b := i) (by omega) y2
    obtain ⟨ok, oz⟩ := th_ok hO hW h0 hib
    obtain ⟨Y3, v1, v2⟩ := X_tried (t := t) hO (z3.cfg (o1.cfg hC)) z2 ok oz ht
    have hbi := hb_bd (y := fun b => yiS C (thS w b (C 0 0).toNat) t) i (fun b hb => yb b (by omega))
    have ybi := yb i hib
    have c0 : ¬ (iI (C 0 1) ≤ iI (i : Int)) := by rw [iI_le (by omega) (by omega) (by omega) (by omega)]; omega
    have c1 : (iI (yiS C (thS w i (C 0 0).toNat) t) ≤ iI (hbS (fun b => yiS C (thS w b (C 0 0).toNat) t) i).1) ↔ yiS C (thS w i (C 0 0).toNat) t ≤ (hbS (fun b => yiS C (thS w b (C 0 0).toNat) t) i).1 := iI_le (by omega) (by omega) (by omega) (by omega)
    have oz3 : OnP X Y3 := (o1.tr z3).tr v2.p
    have ei : iI (i : Int) + 1 = iI ((i + 1 : Nat) : Int) := by rw [l1, iI_add]; rfl
    have ev : lp_Q_bestSwiftBench_48_7 (f + 1) (iI t) (iI (hbS (fun b => yiS C (thS w b (C 0 0).toNat) t) i).1) (iI (hbS (fun b => yiS C (thS w b (C 0 0).toNat) t) i).2) (iI (i : Int)) Y = if iI (yiS C (thS w i (C 0 0).toNat) t) ≤ iI (hbS (fun b => yiS C (thS w b (C 0 0).toNat) t) i).1 then lp_Q_bestSwiftBench_48_7 f (iI t) (iI (hbS (fun b => yiS C (thS w b (C 0 0).toNat) t) i).1) (iI (hbS (fun b => yiS C (thS w b (C 0 0).toNat) t) i).2) (iI ((i + 1 : Nat) : Int)) Y3 else lp_Q_bestSwiftBench_48_7 f (iI t) (iI (yiS C (thS w i (C 0 0).toNat) t)) (iI (i : Int)) (iI ((i + 1 : Nat) : Int)) Y3 := by
      show blp_Q_bestSwiftBench_48_7 (lp_Q_bestSwiftBench_48_7 f) _ _ _ _ _ = _
      unfold blp_Q_bestSwiftBench_48_7
      rw [(o.cfg hC).2.1, if_neg c0, y1, Option.bind_some, z1]
      unfold j_Q_bestSwiftBench_48_67
      rw [v1, Option.bind_some]
      unfold j_Q_bestSwiftBench_48_86
      rw [ei]
    have eh : hbS (fun b => yiS C (thS w b (C 0 0).toNat) t) (i + 1) = if yiS C (thS w i (C 0 0).toNat) t ≤ (hbS (fun b => yiS C (thS w b (C 0 0).toNat) t) i).1 then hbS (fun b => yiS C (thS w b (C 0 0).toNat) t) i else (yiS C (thS w i (C 0 0).toNat) t, (i : Int)) := rfl
    by_cases e : yiS C (thS w i (C 0 0).toNat) t ≤ (hbS (fun b => yiS C (thS w b (C 0 0).toNat) t) i).1
    · rw [if_pos e] at eh
      refine ⟨(_, _, _, Y3), ev.trans (if_pos (c1.mpr e)), by rw [eh]; rfl, by rw [eh]; rfl, rfl, oz3⟩
    · rw [if_neg e] at eh
      refine ⟨(_, _, _, Y3), ev.trans (if_neg (fun q => e (c1.mp q))), by rw [eh]; rfl, by rw [eh]; rfl, rfl, oz3⟩
  · rintro f ⟨a, b, c, Y⟩ ⟨ea, eb, ec, o⟩
    dsimp only at ea eb ec o
    subst ea; subst eb; subst ec
    show blp_Q_bestSwiftBench_48_7 (lp_Q_bestSwiftBench_48_7 f) _ _ _ _ _ = _
    unfold blp_Q_bestSwiftBench_48_7
    have c0 : iI (C 0 1) ≤ iI ((C 0 1).toNat : Int) := (iI_le (by omega) (by omega) (by omega) (by omega)).mpr (by omega)
    rw [(o.cfg hC).2.1, if_pos c0]
theorem holds_M {C : SS} {w : Nat → Int} {M : Mm} {t : Nat} (hO : CfgOk C) (hC : CfgM C M) (hw : WyM 10 w M) (hW : WyOk C w) (h0 : w0 C w) (ht : t ≤ 2000) : ∃ N, lp_M_holds_0_38 FW (iI t) (-1) 0 0 M = ((f_M_good_0 (iI (hbS (fun b => yiS C (thS w b (C 0 0).toNat) t) (C 0 1).toNat).2) N).bind fun q => some (q.1, q.2)) ∧ (∀ q, q ≠ 12 → q ≠ 16 → N.1 q = M.1 q) ∧ N.2 = M.2 := by
  have hb1 := hO.2.2.1
  have hb6 := hO.2.2.2.1
  have yb : ∀ b : Nat, (b : Int) < C 0 1 → 0 ≤ yiS C (thS w b (C 0 0).toNat) t ∧ yiS C (thS w b (C 0 0).toNat) t ≤ 120000 := fun b hb => yi_bd hO (th_ok hO hW h0 hb).1 ht
  have cfg : ∀ N : Mm, (∀ q, q ≠ 12 → q ≠ 16 → N.1 q = M.1 q) → CfgM C N := fun N o => hC.fr (fun i _ => by rw [o 0 (by decide) (by decide)]) (fun q i _ _ _ _ => by rw [o q (by omega) (by omega)])
  have loop := loop_up (σ := Int32 × Int32 × Int32 × Mm) (γ := Option (Int32 × Mm)) (fun f s => lp_M_holds_0_38 f (iI t) s.1 s.2.1 s.2.2.1 s.2.2.2) (C 0 1).toNat (fun i s => s.1 = iI (hbS (fun b => yiS C (thS w b (C 0 0).toNat) t) i).1 ∧ s.2.1 = iI (hbS (fun b => yiS C (thS w b (C 0 0).toNat) t) i).2 ∧ s.2.2.1 = iI (i : Int) ∧ (∀ q, q ≠ 12 → q ≠ 16 → s.2.2.2.1 q = M.1 q) ∧ s.2.2.2.2 = M.2) (fun s => (f_M_good_0 s.2.1 s.2.2.2).bind fun q => some (q.1, q.2)) ?_ ?_ FW (FW_gt (by omega)) (iI (-1), iI 0, iI 0, M) ⟨rfl, rfl, rfl, fun _ _ _ => rfl, rfl⟩
  · obtain ⟨⟨a, b, c, Y⟩, ⟨-, e2, -, o, o2⟩, ev⟩ := loop
    dsimp only at e2 o o2 ev
    exact ⟨Y, by rw [lm1, l0, ← e2]; exact ev, o, o2⟩
  · rintro f i ⟨a, b, c, Y⟩ hi ⟨ea, eb, ec, o, o2⟩
    dsimp only at ea eb ec o o2
    subst ea; subst eb; subst ec
    have hib : (i : Int) < C 0 1 := by omega
    obtain ⟨Y1, y1, y2, y3⟩ := M_papers (M := Y) (w := w) (fun c hc => by rw [o 10 (by decide) (by decide)]; exact hw c hc)
    have o1 : ∀ q, q ≠ 12 → q ≠ 16 → Y1.1 q = M.1 q := fun q a b => (y3.1 q a).trans (o q a b)
    obtain ⟨Y2, z1, z2, z3⟩ := hold_M (x1 := iI t) (x2 := iI (hbS (fun b => yiS C (thS w b (C 0 0).toNat) t) i).1) (x3 := iI (hbS (fun b => yiS C (thS w b (C 0 0).toNat) t) i).2) (lp_M_holds_0_38 f) hO (cfg Y1 o1) (b := i) (by omega) y2
    obtain ⟨ok, oz⟩ := th_ok hO hW h0 hib
    have o3 : ∀ q, q ≠ 12 → q ≠ 16 → Y2.1 q = M.1 q := fun q a b => (z3.1 q a).trans (o1 q a b)
    obtain ⟨Y3, v1, v2⟩ := M_yield (t := t) hO (cfg Y2 o3) z2 ok ht
    have o4 : ∀ q, q ≠ 12 → q ≠ 16 → Y3.1 q = M.1 q := fun q a b => (v2.1 q b).trans (o3 q a b)
    have o5 : Y3.2 = M.2 := v2.2.trans (z3.2.trans (y3.2.trans o2))
    have hbi := hb_bd (y := fun b => yiS C (thS w b (C 0 0).toNat) t) i (fun b hb => yb b (by omega))
    have ybi := yb i hib
    have c0 : ¬ (iI (C 0 1) ≤ iI (i : Int)) := by rw [iI_le (by omega) (by omega) (by omega) (by omega)]; omega
    have c1 : (iI (hbS (fun b => yiS C (thS w b (C 0 0).toNat) t) i).1 < iI (yiS C (thS w i (C 0 0).toNat) t)) ↔ (hbS (fun b => yiS C (thS w b (C 0 0).toNat) t) i).1 < yiS C (thS w i (C 0 0).toNat) t := iI_lt (by omega) (by omega) (by omega) (by omega)
    have ei : iI (i : Int) + 1 = iI ((i + 1 : Nat) : Int) := by rw [l1, iI_add]; rfl
    have ev : lp_M_holds_0_38 (f + 1) (iI t) (iI (hbS (fun b => yiS C (thS w b (C 0 0).toNat) t) i).1) (iI (hbS (fun b => yiS C (thS w b (C 0 0).toNat) t) i).2) (iI (i : Int)) Y = if iI (hbS (fun b => yiS C (thS w b (C 0 0).toNat) t) i).1 < iI (yiS C (thS w i (C 0 0).toNat) t) then lp_M_holds_0_38 f (iI t) (iI (yiS C (thS w i (C 0 0).toNat) t)) (iI (i : Int)) (iI ((i + 1 : Nat) : Int)) Y3 else lp_M_holds_0_38 f (iI t) (iI (hbS (fun b => yiS C (thS w b (C 0 0).toNat) t) i).1) (iI (hbS (fun b => yiS C (thS w b (C 0 0).toNat) t) i).2) (iI ((i + 1 : Nat) : Int)) Y3 := by
      show blp_M_holds_0_38 (lp_M_holds_0_38 f) _ _ _ _ _ = _
      unfold blp_M_holds_0_38
      rw [(cfg Y o).2.1, if_neg c0, y1, Option.bind_some, z1]
      unfold j_M_holds_0_85
      rw [v1, Option.bind_some]
      unfold j_M_holds_0_107
      rw [ei]
    have eh : hbS (fun b => yiS C (thS w b (C 0 0).toNat) t) (i + 1) = if yiS C (thS w i (C 0 0).toNat) t ≤ (hbS (fun b => yiS C (thS w b (C 0 0).toNat) t) i).1 then hbS (fun b => yiS C (thS w b (C 0 0).toNat) t) i else (yiS C (thS w i (C 0 0).toNat) t, (i : Int)) := rfl
    by_cases e : yiS C (thS w i (C 0 0).toNat) t ≤ (hbS (fun b => yiS C (thS w b (C 0 0).toNat) t) i).1
    · rw [if_pos e] at eh
      refine ⟨(_, _, _, Y3), ev.trans (if_neg (fun q => by have := c1.mp q; omega)), by rw [eh]; rfl, by rw [eh]; rfl, rfl, o4, o5⟩
    · rw [if_neg e] at eh
      refine ⟨(_, _, _, Y3), ev.trans (if_pos (c1.mpr (by omega))), by rw [eh]; rfl, by rw [eh]; rfl, rfl, o4, o5⟩
  · rintro f ⟨a, b, c, Y⟩ ⟨ea, eb, ec, o, o2⟩
    dsimp only at ea eb ec o
    subst ea; subst eb; subst ec
    show blp_M_holds_0_38 (lp_M_holds_0_38 f) _ _ _ _ _ = _
    unfold blp_M_holds_0_38
    have c0 : iI (C 0 1) ≤ iI ((C 0 1).toNat : Int) := (iI_le (by omega) (by omega) (by omega) (by omega)).mpr (by omega)
    rw [(cfg Y o).2.1, if_pos c0]
theorem R_holds {X M : Mm} (h0 : Rel X M) (p : Int32) : An (f_P_holds_0 p X) (f_M_holds_0 p M) := by
  unfold f_P_holds_0 f_M_holds_0
  rw [Option.bind_some]
  have h := h0.th 0
  generalize u1 M 0 0 0 = N at h
  rcases h.told with ⟨t1, t2⟩ | ⟨t1, t2, C, w, S, Q, T⟩
  · have e : f_P_refusesPaper_0 p X = (f_P_refused_0 1 X).bind fun q6 => some (1, q6.2) := by unfold f_P_refusesPaper_0; rw [if_pos t1]
    rw [e, if_pos t2]
    exact ⟨_, _, _, rfl, rfl, h.set 1 (-1)⟩
  · rw [if_neg t2]
    rcases papT p with ⟨t, rfl, ht1, ht2, e1, e2⟩ | ⟨e1, e2⟩
    · obtain ⟨Y, y1, y2⟩ := holds_X (t := t) T.1 T.2.1 T.wx T.wo T.w0 ht2
      obtain ⟨O, o1, o2, o3⟩ := holds_M (t := t) T.1 T.2.2.1 T.wm T.wo T.w0 ht2
      rw [e1, e2 X t1, Option.bind_some, Option.bind_some, if_pos rfl, if_neg n10, y1, o1]
      exact An_good (h.pap y2.1 (fun q z1 z2 _ => o2 q z1 z2) o3) _
    · rw [e1, e2 X t1, Option.bind_some, if_pos rfl]
      exact ⟨_, _, _, rfl, rfl, h.set 2 (-1)⟩

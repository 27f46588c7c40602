/-- times of bench b, the first m kinds: 1 -/
def thS (w : Nat → Int) (b m : Nat) (c : Nat) : Int := if 18 + 3 * b ≤ c ∧ c < 18 + 3 * b + m then 1 else w c
def hbS (y : Nat → Int) : Nat → Int × Int
  | 0 => (-1, 0)
  | b + 1 => if y b ≤ (hbS y b).1 then hbS y b else (y b, (b : Int))
theorem hold_X {C : SS} {w : Nat → Int} {X : Mm} {b : Nat} {x1 x2 x3 : Int32} (rc : Int32 → Int32 → Int32 → Int32 → Mm → Option (Int32 × Mm)) (hO : CfgOk C) (hC : CfgX C X) (hb : b < 6) (h : WyX 49 w X) : ∃ Y, lp_Q_bestSwiftBench_48_33 rc FW x1 x2 x3 (iI b) 0 X = j_Q_bestSwiftBench_48_67 rc x1 x2 x3 (iI b) Y ∧ WyX 49 (thS w b (C 0 0).toNat) Y ∧ OnP X Y := by
  have hk1 := hO.1
  have hk3 := hO.2.1
  have loop := loop_up (σ := Int32 × Mm) (γ := Option (Int32 × Mm)) (fun f s => lp_Q_bestSwiftBench_48_33 rc f x1 x2 x3 (iI b) s.1 s.2) (C 0 0).toNat (fun i s => s.1 = iI (i : Int) ∧ WyX 49 (thS w b i) s.2 ∧ OnP X s.2) (fun s => j_Q_bestSwiftBench_48_67 rc x1 x2 x3 (iI b) s.2) ?_ ?_ FW (FW_gt (by omega)) (iI 0, X) ⟨rfl, WyX_congr h (fun c _ => by unfold thS; rw [if_neg (by omega)]), OnP.rf⟩
  · obtain ⟨⟨x, Y⟩, ⟨-, r, o⟩, e⟩ := loop
    exact ⟨Y, by rw [l0]; exact e, r, o⟩
  · rintro f i ⟨x, Y⟩ hi ⟨ex, r, o⟩
    dsimp only at ex r o
    subst ex
    have rc' : f_P_cell (iI (b : Int)) (iI (i : Int)) = some (iI (3 * b + i)) := by unfold f_P_cell; rw [ixc]
    have w2 : wr Y 51 18 (iI (3 * (b : Int) + i)) 1 = some (u1 Y 51 (3 * b + i) 1) := by rw [wr_iI (by omega) (by omega) (by omega), show (3 * (b : Int) + i).toNat = 3 * b + i by omega]
    refine ⟨(iI ((i + 1 : Nat) : Int), u1 Y 51 (3 * b + i) 1), ?_, rfl, ⟨fun c hc => ?_, fun c hc => ?_, ?_⟩, o.u (by omega)⟩
    · show blp_Q_bestSwiftBench_48_33 rc (lp_Q_bestSwiftBench_48_33 rc f) x1 x2 x3 (iI b) (iI (i : Int)) Y = lp_Q_bestSwiftBench_48_33 rc f x1 x2 x3 (iI b) _ _
      unfold blp_Q_bestSwiftBench_48_33
      have c0 : ¬ (iI (C 0 0) ≤ iI (i : Int)) := by rw [iI_le (by omega) (by omega) (by omega) (by omega)]; omega
      rw [(o.cfg hC).1, if_neg c0, rc', Option.bind_some, w2, Option.bind_some, show iI (i : Int) + 1 = iI ((i + 1 : Nat) : Int) by rw [l1, iI_add]; rfl]
    · show (u1 Y 51 (3 * b + i) 1).1 50 c = _
      rw [u1_ne (by decide)]
      have rc := r.1 c hc
      unfold thS at rc ⊢
      rw [if_neg (by omega)] at rc ⊢
      exact rc
    · show (u1 Y 51 (3 * b + i) 1).1 51 c = _
      rw [u1_at]
      have rc := r.2.1 c hc
      unfold thS at rc ⊢
      by_cases e : c = 3 * b + i
      · rw [if_pos ⟨rfl, e⟩, if_pos (by omega)]; exact l1
      · rw [if_neg (fun q => e q.2)]
        refine Eq.trans rc ?_
        by_cases e1 : 18 + 3 * b ≤ 18 + c ∧ 18 + c < 18 + 3 * b + i
        · rw [if_pos e1, if_pos (by omega)]
        · rw [if_neg e1, if_neg (by omega)]
    · show (u1 Y 51 (3 * b + i) 1).1 49 2 = _
      rw [u1_ne (by decide)]
      have rc := r.2.2
      unfold thS at rc ⊢
      rw [if_neg (by omega)] at rc ⊢
      exact rc
  · rintro f ⟨x, Y⟩ ⟨ex, r, o⟩
    dsimp only at ex r o
    subst ex
    show blp_Q_bestSwiftBench_48_33 rc (lp_Q_bestSwiftBench_48_33 rc f) x1 x2 x3 (iI b) (iI ((C 0 0).toNat : Int)) Y = _
    unfold blp_Q_bestSwiftBench_48_33
    have c0 : iI (C 0 0) ≤ iI ((C 0 0).toNat : Int) := (iI_le (by omega) (by omega) (by omega) (by omega)).mpr (by omega)
    rw [(o.cfg hC).1, if_pos c0]
theorem hold_M {C : SS} {w : Nat → Int} {M : Mm} {b : Nat} {x1 x2 x3 : Int32} (rc : Int32 → Int32 → Int32 → Int32 → Mm → Option (Int32 × Mm)) (hO : CfgOk C) (hC : CfgM C M) (hb : b < 6) (h : WyM 12 w M) : ∃ N, lp_M_holds_0_54 rc FW x1 x2 x3 (iI b) 0 M = j_M_holds_0_85 rc x1 x2 x3 (iI b) N ∧ WyM 12 (thS w b (C 0 0).toNat) N ∧ Only 12 M N := by
  have hk1 := hO.1
  have hk3 := hO.2.1
  have loop := loop_up (σ := Int32 × Mm) (γ := Option (Int32 × Mm)) (fun f s => lp_M_holds_0_54 rc f x1 x2 x3 (iI b) s.1 s.2) (C 0 0).toNat (fun i s => s.1 = iI (i : Int) ∧ WyM 12 (thS w b i) s.2 ∧ Only 12 M s.2) (fun s => j_M_holds_0_85 rc x1 x2 x3 (iI b) s.2) ?_ ?_ FW (FW_gt (by omega)) (iI 0, M) ⟨rfl, fun c hc => by unfold thS; rw [if_neg (by omega)]; exact h c hc, Only.rf⟩
  · obtain ⟨⟨x, Y⟩, ⟨-, r, o⟩, e⟩ := loop
    exact ⟨Y, by rw [l0]; exact e, r, o⟩
  · rintro f i ⟨x, Y⟩ hi ⟨ex, r, o⟩
    dsimp only at ex r o
    subst ex
    have w2 : wr Y 12 37 (iI (18 + 3 * (b : Int) + i)) 1 = some (u1 Y 12 (18 + 3 * b + i) 1) := by rw [wr_iI (by omega) (by omega) (by omega), show (18 + 3 * (b : Int) + i).toNat = 18 + 3 * b + i by omega]
    refine ⟨(iI ((i + 1 : Nat) : Int), u1 Y 12 (18 + 3 * b + i) 1), ?_, rfl, fun c hc => ?_, o.u1⟩
    · show blp_M_holds_0_54 rc (lp_M_holds_0_54 rc f) x1 x2 x3 (iI b) (iI (i : Int)) Y = lp_M_holds_0_54 rc f x1 x2 x3 (iI b) _ _
      unfold blp_M_holds_0_54
      have c0 : ¬ (iI (C 0 0) ≤ iI (i : Int)) := by rw [iI_le (by omega) (by omega) (by omega) (by omega)]; omega
      rw [(o.cfg (by decide) hC).1, if_neg c0, show (18 : Int32) = iI 18 from rfl, l3, iI_mul, iI_add, iI_add, w2, Option.bind_some, show iI (i : Int) + 1 = iI ((i + 1 : Nat) : Int) by rw [l1, iI_add]; rfl]
    · show (u1 Y 12 (18 + 3 * b + i) 1).1 12 c = _
      rw [u1_at]
      have rc := r c hc
      unfold thS at rc ⊢
      by_cases e : c = 18 + 3 * b + i
      · rw [if_pos ⟨rfl, e⟩, if_pos (by omega)]; exact l1
      · rw [if_neg (fun q => e q.2)]
        refine Eq.trans rc ?_
        by_cases e1 : 18 + 3 * b ≤ c ∧ c < 18 + 3 * b + i
        · rw [if_pos e1, if_pos (by omega)]
        · rw [if_neg e1, if_neg (by omega)]
  · rintro f ⟨x, Y⟩ ⟨ex, r, o⟩
    dsimp only at ex r o
    subst ex
    show blp_M_holds_0_54 rc (lp_M_holds_0_54 rc f) x1 x2 x3 (iI b) (iI ((C 0 0).toNat : Int)) Y = _
    unfold blp_M_holds_0_54
    have c0 : iI (C 0 0) ≤ iI ((C 0 0).toNat : Int) := (iI_le (by omega) (by omega) (by omega) (by omega)).mpr (by omega)
    rw [(o.cfg (by decide) hC).1, if_pos c0]

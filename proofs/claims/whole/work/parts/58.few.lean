/-- cells that are told, below m -/
def ctX (C : SS) (w : Nat → Int) (n : Int) (m : Nat) (c : Nat) : Int := if c < m ∧ c < 18 ∧ c % 3 < (C 0 0).toNat then n else w c
def ctM (w : Nat → Int) (n : Int) (m : Nat) (c : Nat) : Int := if c < m ∧ c < 18 then n else w c
def OnP (X Y : Mm) : Prop := (∀ q, q < 48 ∨ (64 < q ∧ q < 103) → Y.1 q = X.1 q) ∧ Y.2 = X.2
theorem OnP.rf {X : Mm} : OnP X X := ⟨fun _ _ => rfl, rfl⟩
theorem OnP.tr {X Y Z : Mm} (h : OnP X Y) (h2 : OnP Y Z) : OnP X Z := ⟨fun q hq => (h2.1 q hq).trans (h.1 q hq), h2.2.trans h.2⟩
theorem OnP.u {X Y : Mm} {q i : Nat} {x : Int32} (h : OnP X Y) (hq : 48 ≤ q ∧ q ≤ 64) : OnP X (u1 Y q i x) := h.tr ⟨fun r hr => u1_ne (by omega), rfl⟩
theorem OnP.cfg {X Y : Mm} {C : SS} (h : OnP X Y) (hC : CfgX C X) : CfgX C Y := hC.fr (fun q _ _ => h.1 q (by omega))
theorem OnlyX.p {X Y : Mm} (h : OnlyX 52 X Y) : OnP X Y := ⟨fun q hq => h.1 q (by omega), h.2⟩
theorem few_in {C : SS} {w : Nat → Int} {X : Mm} {b : Nat} {n : Int} {x1 x2 : Int32} (rc : Int32 → Int32 → Int32 → Int32 → Mm → Option (Int32 × Mm)) (hO : CfgOk C) (hC : CfgX C X) (hb : b < 6) (h : WyX 49 (ctX C w n (3 * b)) X) : ∃ Y, lp_Q_fewestFor_48_37 rc FW x1 x2 (iI n) (iI b) 0 X = rc x1 x2 (iI n) (iI ((b + 1 : Nat) : Int)) Y ∧ WyX 49 (ctX C w n (3 * (b + 1))) Y ∧ OnP X Y := by
  have hk1 := hO.1
  have hk3 := hO.2.1
  have loop := loop_up (σ := Int32 × Mm) (γ := Option (Int32 × Mm)) (fun f s => lp_Q_fewestFor_48_37 rc f x1 x2 (iI n) (iI b) s.1 s.2) (C 0 0).toNat (fun i s => s.1 = iI (i : Int) ∧ WyX 49 (ctX C w n (3 * b + i)) s.2 ∧ OnP X s.2) (fun s => rc x1 x2 (iI n) (iI ((b + 1 : Nat) : Int)) s.2) ?_ ?_ FW (FW_gt (by omega)) (iI 0, X) ⟨rfl, h, OnP.rf⟩
  · obtain ⟨⟨x, Y⟩, ⟨-, r, o⟩, e⟩ := loop
    refine ⟨Y, by rw [l0]; exact e, WyX_congr r (fun c hc => ?_), o⟩
    unfold ctX
    by_cases e1 : c < 3 * b + (C 0 0).toNat ∧ c < 18 ∧ c % 3 < (C 0 0).toNat
    · rw [if_pos e1, if_pos (by omega)]
    · rw [if_neg e1, if_neg (by omega)]
  · rintro f i ⟨x, Y⟩ hi ⟨ex, r, o⟩
    dsimp only at ex r o
    subst ex
    have rc' : f_P_cell (iI (b : Int)) (iI (i : Int)) = some (iI (3 * b + i)) := by unfold f_P_cell; rw [ixc]
    have w2 : wr Y 50 18 (iI (3 * (b : Int) + i)) (iI n) = some (u1 Y 50 (3 * b + i) (iI n)) := by rw [wr_iI (by omega) (by omega) (by omega), show (3 * (b : Int) + i).toNat = 3 * b + i by omega]
    refine ⟨(iI ((i + 1 : Nat) : Int), u1 Y 50 (3 * b + i) (iI n)), ?_, rfl, ⟨fun c hc => ?_, fun c hc => ?_, ?_⟩, o.u (by omega)⟩
    · show blp_Q_fewestFor_48_37 rc (lp_Q_fewestFor_48_37 rc f) x1 x2 (iI n) (iI b) (iI (i : Int)) Y = lp_Q_fewestFor_48_37 rc f x1 x2 (iI n) (iI b) _ _
      unfold blp_Q_fewestFor_48_37
      have c0 : ¬ (iI (C 0 0) ≤ iI (i : Int)) := by rw [iI_le (by omega) (by omega) (by omega) (by omega)]; omega
      rw [(o.cfg hC).1, if_neg c0, rc', Option.bind_some, w2, Option.bind_some, l1, iI_add]
      rfl
    · show (u1 Y 50 (3 * b + i) (iI n)).1 50 c = _
      rw [u1_at]
      have rc := r.1 c hc
      unfold ctX at rc ⊢
      by_cases e : c = 3 * b + i
      · rw [if_pos ⟨rfl, e⟩, if_pos (by omega)]
      · rw [if_neg (fun q => e q.2)]
        refine Eq.trans rc ?_
        by_cases e1 : c < 3 * b + i ∧ c < 18 ∧ c % 3 < (C 0 0).toNat
        · rw [if_pos e1, if_pos (by omega)]
        · rw [if_neg e1, if_neg (by omega)]
    · show (u1 Y 50 (3 * b + i) (iI n)).1 51 c = _
      rw [u1_ne (by decide)]
      have rc := r.2.1 c hc
      unfold ctX at rc ⊢
      rw [if_neg (by omega)] at rc ⊢
      exact rc
    · show (u1 Y 50 (3 * b + i) (iI n)).1 49 2 = _
      rw [u1_ne (by decide)]
      have rc := r.2.2
      unfold ctX at rc ⊢
      rw [if_neg (by omega)] at rc ⊢
      exact rc
  · rintro f ⟨x, Y⟩ ⟨ex, r, o⟩
    dsimp only at ex r o
    subst ex
    show blp_Q_fewestFor_48_37 rc (lp_Q_fewestFor_48_37 rc f) x1 x2 (iI n) (iI b) (iI ((C 0 0).toNat : Int)) Y = _
    unfold blp_Q_fewestFor_48_37
    have c0 : iI (C 0 0) ≤ iI ((C 0 0).toNat : Int) := (iI_le (by omega) (by omega) (by omega) (by omega)).mpr (by omega)
    rw [(o.cfg hC).1, if_pos c0]
    unfold j_Q_fewestFor_48_71
    rw [l1, iI_add]
    rfl
theorem few_mid {C : SS} {w : Nat → Int} {X : Mm} {n : Int} {x1 x2 : Int32} (rc : Int32 → Int32 → Int32 → Mm → Option (Int32 × Mm)) (hO : CfgOk C) (hC : CfgX C X) (h : WyX 49 w X) : ∃ Y, lp_Q_fewestFor_48_22 rc FW x1 x2 (iI n) 0 X = j_Q_fewestFor_48_77 rc x1 x2 (iI n) Y ∧ WyX 49 (ctX C w n (3 * (C 0 1).toNat)) Y ∧ OnP X Y := by
  have hb1 := hO.2.2.1
  have hb6 := hO.2.2.2.1
  have loop := loop_up (σ := Int32 × Mm) (γ := Option (Int32 × Mm)) (fun f s => lp_Q_fewestFor_48_22 rc f x1 x2 (iI n) s.1 s.2) (C 0 1).toNat (fun i s => s.1 = iI (i : Int) ∧ WyX 49 (ctX C w n (3 * i)) s.2 ∧ OnP X s.2) (fun s => j_Q_fewestFor_48_77 rc x1 x2 (iI n) s.2) ?_ ?_ FW (FW_gt (by omega)) (iI 0, X) ⟨rfl, WyX_congr h (fun c _ => by unfold ctX; rw [if_neg (by omega)]), OnP.rf⟩
  · obtain ⟨⟨x, Y⟩, ⟨-, r, o⟩, e⟩ := loop
    exact ⟨Y, by rw [l0]; exact e, r, o⟩
  · rintro f i ⟨x, Y⟩ hi ⟨ex, r, o⟩
    dsimp only at ex r o
    subst ex
    obtain ⟨Z, z1, z2, z3⟩ := few_in (x1 := x1) (x2 := x2) (lp_Q_fewestFor_48_22 rc f) hO (o.cfg hC) (by omega) r
    refine ⟨(iI ((i + 1 : Nat) : Int), Z), ?_, rfl, z2, o.tr z3⟩
    show blp_Q_fewestFor_48_22 rc (lp_Q_fewestFor_48_22 rc f) x1 x2 (iI n) (iI (i : Int)) Y = lp_Q_fewestFor_48_22 rc f x1 x2 (iI n) _ Z
    unfold blp_Q_fewestFor_48_22
    have c0 : ¬ (iI (C 0 1) ≤ iI (i : Int)) := by rw [iI_le (by omega) (by omega) (by omega) (by omega)]; omega
    rw [(o.cfg hC).2.1, if_neg c0, z1]
  · rintro f ⟨x, Y⟩ ⟨ex, r, o⟩
    dsimp only at ex r o
    subst ex
    show blp_Q_fewestFor_48_22 rc (lp_Q_fewestFor_48_22 rc f) x1 x2 (iI n) (iI ((C 0 1).toNat : Int)) Y = _
    unfold blp_Q_fewestFor_48_22
    have c0 : iI (C 0 1) ≤ iI ((C 0 1).toNat : Int) := (iI_le (by omega) (by omega) (by omega) (by omega)).mpr (by omega)
    rw [(o.cfg hC).2.1, if_pos c0]
theorem few_M {w : Nat → Int} {M : Mm} {n : Int} {x1 x2 : Int32} (rc : Int32 → Int32 → Int32 → Mm → Option (Int32 × Mm)) (h : WyM 12 w M) : ∃ N, lp_M_fewest_0_57 rc FW x1 x2 (iI n) 0 M = j_M_fewest_0_78 rc x1 x2 (iI n) N ∧ WyM 12 (ctM w n 18) N ∧ Only 12 M N := by
  have loop := loop_up (σ := Int32 × Mm) (γ := Option (Int32 × Mm)) (fun f s => lp_M_fewest_0_57 rc f x1 x2 (iI n) s.1 s.2) 18 (fun i s => s.1 = iI (i : Int) ∧ WyM 12 (ctM w n i) s.2 ∧ Only 12 M s.2) (fun s => j_M_fewest_0_78 rc x1 x2 (iI n) s.2) ?_ ?_ FW (FW_gt (by omega)) (iI 0, M) ⟨rfl, fun c hc => by unfold ctM; rw [if_neg (by omega)]; exact h c hc, Only.rf⟩
  · obtain ⟨⟨x, Y⟩, ⟨-, r, o⟩, e⟩ := loop
    exact ⟨Y, by rw [l0]; exact e, r, o⟩
  · rintro f i ⟨x, Y⟩ hi ⟨ex, r, o⟩
    dsimp only at ex r o
    subst ex
    have w2 : wr Y 12 37 (iI (i : Int)) (iI n) = some (u1 Y 12 i (iI n)) := by rw [wr_iI (by omega) (by omega) (by omega), Int.toNat_natCast]
    refine ⟨(iI ((i + 1 : Nat) : Int), u1 Y 12 i (iI n)), ?_, rfl, fun c hc => ?_, o.u1⟩
    · show blp_M_fewest_0_57 rc (lp_M_fewest_0_57 rc f) x1 x2 (iI n) (iI (i : Int)) Y = lp_M_fewest_0_57 rc f x1 x2 (iI n) _ _
      unfold blp_M_fewest_0_57
      have c0 : ¬ (18 ≤ iI (i : Int)) := by rw [show (18 : Int32) = iI 18 from rfl, iI_le (by omega) (by omega) (by omega) (by omega)]; omega
      rw [if_neg c0, w2, Option.bind_some, l1, iI_add]
      rfl
    · show (u1 Y 12 i (iI n)).1 12 c = _
      rw [u1_at]
      have rc := r c hc
      unfold ctM at rc ⊢
      by_cases e : c = i
      · rw [if_pos ⟨rfl, e⟩, if_pos (by omega)]
      · rw [if_neg (fun q => e q.2)]
        refine Eq.trans rc ?_
        by_cases e1 : c < i ∧ c < 18
        · rw [if_pos e1, if_pos (by omega)]
        · rw [if_neg e1, if_neg (by omega)]
  · rintro f ⟨x, Y⟩ ⟨ex, r, o⟩
    dsimp only at ex r o
    subst ex
    rfl
/-- from n on: the first number of cards that is enough -/
def fwS (y : Int → Int) (d : Int) (n : Int) : Nat → Int
  | 0 => -2
  | k + 1 => if y n < d then fwS y d (n + 1) k else n

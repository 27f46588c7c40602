/-- cells that are told, below m -/
def ctX (C : SS) (w : Nat → Int) (n : Int) (m : Nat) (c : Nat) : Int := if c < m ∧ c < 18 ∧ c % 3 < (C 0 0).toNat then n else w c
def ctM (w : Nat → Int) (n : Int) (m : Nat) (c : Nat) : Int := if c < m ∧ c < 18 then n else w c
def OnP (X Y : Mm) : Prop := (∀ q, q < 48 ∨ (64 < q ∧ q < 103) → Y.1 q = X.1 q) ∧ Y.2 = X.2
theorem OnP.rf {X : Mm} : OnP X X := ⟨fun _ _ => rfl, rfl⟩
theorem OnP.tr {X Y Z : Mm} (h : OnP X Y) (h2 : OnP Y Z) : OnP X Z := ⟨fun q hq => (h2.1 q hq).trans (h.1 q hq), h2.2.trans h.2⟩
theorem OnP.u {X Y : Mm} {q i : Nat} {x : Int32} (h : OnP X Y) (hq : 48 ≤ q ∧ q ≤ 64) : OnP X (u1 Y q i x) := h.tr ⟨fun r hr => u1_ne (by omega), rfl⟩
theorem OnP.cfg {X Y : Mm} {C : SS} (h : OnP X Y) (hC : CfgX C X) : CfgX C Y := hC.fr (fun q _ _ => h.1 q (by omega))
theorem OnlyX.p {X Y : Mm} (h : OnlyX 52 X Y) : OnP X Y := ⟨fun q hq => h.1 q (by omega), h.2⟩
theorem few_in {C : SS} {w : Nat → Int} {X : Mm} {b : Nat} {n : Int} {x1 x2 : Int32} (rc : Int32 → Int32 → Int32 → Int32 → Mm → Option (Int32 × Mm)) (hO : CfgOk C) (hC : CfgX C X) (hb : b < 6) (h : WyX 49 (ctX C w n (3 * b)) X) : ∃ Y, lp_Q_fewestFor_48_37 rc FW x1 x2 (iI n) (iI b) 0 X = rc x1 x2 (iI n) (iI ((b + 1 : Nat) : Int)) Y ∧ WyX 49 (ctX C w n (3 * (b + 1))) Y ∧ OnP X Y := by
  have hk1 := hO.1
  have hk3 := hO.2.1
  have loop := loop_up (σ := Int32 × Mm) (γ := Option (Int32 × Mm)) (fun f s => lp_Q_fewestFor_48_37 rc f x1 x2 (iI n) (iI b) s.1 s.2) (C 0 0).toNat (fun i s => s.1 = iI (i : Int) ∧ WyX 49 (ctX C w n (3 * b + i)) s.2 ∧ OnP X s.2) (fun s => rc x1 x2 (iI n) (iI ((b + 1 : Nat) : Int)) s.2) ?_ ?_ FW (FW_gt (by omega)) (iI 0, X) ⟨rfl, h, OnP.rf⟩
  · obtain ⟨⟨x, Y⟩, ⟨-, r, o⟩, e⟩ := loop
    refine ⟨Y, by rw [l0]; exact e, WyX_congr r (fun c hc => ?_), o⟩
    unfold ctX
    by_cases e1 : c < 3 * b + (C 0 0).toNat ∧ c < 18 ∧ c % 3 < (C 0 0).toNat
    · rw [if_pos e1, if_pos (by omega)]
    · rw [if_neg e1, if_neg (by omega)]
  · rintro f i ⟨x, Y⟩ hi ⟨ex, r, o⟩
    dsimp only at ex r o
    subst ex
    have rc' : f_P_cell (iI (b : Int)) (iI (i : Int)) = some (iI (3 * b + i)) := by unfold f_P_cell; rw [ixc]
    have w2 : wr Y 50 18 (iI (3 * (b : Int) + i)) (iI n) = some (u1 Y 50 (3 * b + i) (iI n)) := by rw [wr_iI (by omega) (by omega) (by omega), show (3 * (b : Int) + i).toNat = 3 * b + i by omega]
    refine ⟨(iI ((i + 1 : Nat) : Int), u1 Y 50 (3 * b + i) (iI n)), ?_, rfl, ⟨fun c hc => ?_, fun c hc => ?_, ?_⟩, o.u (by omega)⟩
    · show blp_Q_fewestFor_48_37 rc (lp_Q_fewestFor_48_37 rc f) x1 x2 (iI n) (iI b) (iI (i : Int)) Y = lp_Q_fewestFor_48_37 rc f x1 x2 (iI n) (iI b) _ _
      unfold blp_Q_fewestFor_48_37
      have c0 : ¬ (iI (C 0 0) ≤ iI (i : Int)) := by rw [iI_le (by omega) (by omega) (by omega) (by omega)]; omega
      rw [(o.cfg hC).1, if_neg c0, rc', Option.bind_some, w2, Option.bind_some, l1, iI_add]
      rfl
    · show (u1 Y 50 (3 * b + i) (iI n)).1 50 c = _
      rw [u1_at]
      have rc := r.1 c hc
      unfold ctX at rc ⊢
      by_cases e : c = 3 * b + i
      · rw [if_pos ⟨rfl, e⟩, if_pos (by omega)]
      · rw [if_neg (fun q => e q.2)]
        refine Eq.trans rc ?_
        by_cases e1 : c < 3 * b + i ∧ c < 18 ∧ c % 3 < (C 0 0).toNat
        · rw [if_pos e1, if_pos (by omega)]
        · rw [if_neg e1, if_neg (by omega)]
    · show (u1 Y 50 (3 * b + i) (iI n)).1 51 c = _
      rw [u1_ne (by decide)]
      have rc := r.2.1 c hc
      unfold ctX at rc ⊢
      rw [if_neg (by omega)] at rc ⊢
      exact rc
    · show (u1 Y 50 (3 * b + i) (iI n)).1 49 2 = _
      rw [u1_ne (by decide)]
      have rc := r.2.2
      unfold ctX at rc ⊢
      rw [if_neg (by omega)] at rc ⊢
      exact rc
  · rintro f ⟨x, Y⟩ ⟨ex, r, o⟩
    dsimp only at ex r o
    subst ex
    show blp_Q_fewestFor_48_37 rc (lp_Q_fewestFor_48_37 rc f) x1 x2 (iI n) (iI b) (iI ((C 0 0).toNat : Int)) Y = _
    unfold blp_Q_fewestFor_48_37
    have c0 : iI (C 0 0) ≤ iI ((C 0 0).toNat : Int) := (iI_le (by omega) (by omega) (by omega) (by omega)).mpr (by omega)
    rw [(o.cfg hC).1, if_pos c0]
    unfold j_Q_fewestFor_48_71
    rw [l1, iI_add]
    rfl
theorem few_mid {C : SS} {w : Nat → Int} {X : Mm} {n : Int} {x1 x2 : Int32} (rc : Int32 → Int32 → Int32 → Mm → Option (Int32 × Mm)) (hO : CfgOk C) (hC : CfgX C X) (h : WyX 49 w X) : ∃ Y, lp_Q_fewestFor_48_22 rc FW x1 x2 (iI n) 0 X = j_Q_fewestFor_48_77 rc x1 x2 (iI n) Y ∧ WyX 49 (ctX C w n (3 * (C 0 1).toNat)) Y ∧ OnP X Y := by
  have hb1 := hO.2.2.1
  have hb6 := hO.2.2.2.1
  have loop := loop_up (σ := Int32 × Mm) (γ := Option (Int32 × Mm)) (fun f s => lp_Q_fewestFor_48_22 rc f x1 x2 (iI n) s.1 s.2) (C 0 1).toNat (fun i s => s.1 = iI (i : Int) ∧ WyX 49 (ctX C w n (3 * i)) s.2 ∧ OnP X s.2) (fun s => j_Q_fewestFor_48_77 rc x1 x2 (iI n) s.2) ?_ ?_ FW (FW_gt (by omega)) (iI 0, X) ⟨rfl, WyX_congr h (fun c _ => by unfold ctX; rw [if_neg (by omega)]), OnP.rf⟩
  · obtain ⟨⟨x, Y⟩, ⟨-, r, o⟩, e⟩ := loop
    exact ⟨Y, by rw [l0]; exact e, r, o⟩
  · rintro f i ⟨x, Y⟩ hi ⟨ex, r, o⟩
    dsimp only at ex r o
    subst ex
    obtain ⟨Z, z1, z2, z3⟩ := few_in (x1 := x1) (x2 := x2) (lp_Q_fewestFor_48_22 rc f) hO (o.cfg hC) (by omega) r
    refine ⟨(iI ((i + 1 : Nat) : Int), Z), ?_, rfl, z2, o.tr z3⟩
    show blp_Q_fewestFor_48_22 rc (lp_Q_fewestFor_48_22 rc f) x1 x2 (iI n) (iI (i : Int)) Y = lp_Q_fewestFor_48_22 rc f x1 x2 (iI n) _ Z
    unfold blp_Q_fewestFor_48_22
    have c0 : ¬ (iI (C 0 1) ≤ iI (i : Int)) := by rw [iI_le (by omega) (by omega) (by omega) (by omega)]; omega
    rw [(o.cfg hC).2.1, if_neg c0, z1]
  · rintro f ⟨x, Y⟩ ⟨ex, r, o⟩
    dsimp only at ex r o
    subst ex
    show blp_Q_fewestFor_48_22 rc (lp_Q_fewestFor_48_22 rc f) x1 x2 (iI n) (iI ((C 0 1).toNat : Int)) Y = _
    unfold blp_Q_fewestFor_48_22
    have c0 : iI (C 0 1) ≤ iI ((C 0 1).toNat : Int) := (iI_le (by omega) (by omega) (by omega) (by omega)).mpr (by omega)
    rw [(o.cfg hC).2.1, if_pos c0]
theorem few_M {w : Nat → Int} {M : Mm} {n : Int} {x1 x2 : Int32} (rc : Int32 → Int32 → Int32 → Mm → Option (Int32 × Mm)) (h : WyM 12 w M) : ∃ N, lp_M_fewest_0_57 rc FW x1 x2 (iI n) 0 M = j_M_fewest_0_78 rc x1 x2 (iI n) N ∧ WyM 12 (ctM w n 18) N ∧ Only 12 M N := by
  have loop := loop_up (σ := Int32 × Mm) (γ := Option (Int32 × Mm)) (fun f s => lp_M_fewest_0_57 rc f x1 x2 (iI n) s.1 s.2) 18 (fun i s => s.1 = iI (i : Int) ∧ WyM 12 (ctM w n i) s.2 ∧ Only 12 M s.2) (fun s => j_M_fewest_0_78 rc x1 x2 (iI n) s.2) ?_ ?_ FW (FW_gt (by omega)) (iI 0, M) ⟨rfl, fun c hc => by unfold ctM; rw [if_neg (by omega)]; exact h c hc, Only.rf⟩
  · obtain ⟨⟨x, Y⟩, ⟨-, r, o⟩, e⟩ := loop
    exact ⟨Y, by rw [l0]; exact e, r, o⟩
  · rintro f i ⟨x, Y⟩ hi ⟨ex, r, o⟩
    dsimp only at ex r o
    subst ex
    have w2 : wr Y 12 37 (iI (i : Int)) (iI n) = some (u1 Y 12 i (iI n)) := by rw [wr_iI (by omega) (by omega) (by omega), Int.toNat_natCast]
    refine ⟨(iI ((i + 1 : Nat) : Int), u1 Y 12 i (iI n)), ?_, rfl, fun c hc => ?_, o.u1⟩
    · show blp_M_fewest_0_57 rc (lp_M_fewest_0_57 rc f) x1 x2 (iI n) (iI (i : Int)) Y = lp_M_fewest_0_57 rc f x1 x2 (iI n) _ _
      unfold blp_M_fewest_0_57
      have c0 : ¬ (18 ≤ iI (i : Int)) := by rw [show (18 : Int32) = iI 18 from rfl, iI_le (by omega) (by omega) (by omega) (by omega)]; omega
      rw [if_neg c0, w2, Option.bind_some, l1, iI_add]
      rfl
    · show (u1 Y 12 i (iI n)).1 12 c = _
      rw [u1_at]
      have rc := r c hc
      unfold ctM at rc ⊢
      by_cases e : c = i
      · rw [if_pos ⟨rfl, e⟩, if_pos (by omega)]
      · rw [if_neg (fun q => e q.2)]
        refine Eq.trans rc ?_
        by_cases e1 : c < i ∧ c < 18
        · rw [if_pos e1, if_pos (by omega)]
        · rw [if_neg e1, if_neg (by omega)]
  · rintro f ⟨x, Y⟩ ⟨ex, r, o⟩
    dsimp only at ex r o
    subst ex
    rfl
/-- from n on: the first number of cards that is enough -/
def fwS (y : Int → Int) (d : Int) (n : Int) : Nat → Int
  | 0 => -2
  | k + 1 => if y n < d then fwS y d (n + 1) k else n
theorem yi_bd {C : SS} {w : Nat → Int} {t : Nat} (hO : CfgOk C) (hW : WyOk C w) (ht : t ≤ 2000) : 0 ≤ yiS C w t ∧ yiS C w t ≤ 120000 := by
  obtain ⟨b1, b2, b3, b4⟩ := Bd_bg hO (aOk_0 C)
  have hk1 := hO.1
  have hk3 := hO.2.1
  have := totS_bd hO (Bd_it hO hW b1 t (by rw [b3]; omega)) (by rw [it_14, b3]; omega) (C 0 0).toNat (by omega)
  unfold yiS
  omega
theorem ct_ok {C : SS} {w : Nat → Int} {n : Int} (hO : CfgOk C) (hW : WyOk C w) (h0 : w0 C w) (h1 : 1 ≤ n) (h9 : n ≤ 9) : WyOk C (ctX C w n (3 * (C 0 1).toNat)) ∧ w0 C (ctX C w n (3 * (C 0 1).toNat)) := by
  have hb6 := hO.2.2.2.1
  have hk3 := hO.2.1
  refine ⟨⟨fun b k hb hk => ?_, ?_⟩, fun b k hb hk hn => ?_⟩
  · have := hW.1 b k hb hk
    unfold ctX
    rw [if_pos (by omega), if_neg (by omega)]
    omega
  · unfold ctX; rw [if_neg (by omega)]; exact hW.2
  · unfold ctX
    rw [if_neg (by omega), if_neg (by omega)]
    exact h0 b k hb hk hn
theorem few_X {C : SS} {w : Nat → Int} {d : Int} {t : Nat} (hO : CfgOk C) (hW : WyOk C w) (h0 : w0 C w) (ht : t ≤ 2000) (hd : 0 ≤ d) (hd9 : d ≤ 9999) : ∀ (k : Nat) (n : Int) (fu : Nat) (X : Mm) (u : Nat → Int), n + k = 10 → 1 ≤ n → k < fu → CfgX C X → WyX 49 u X → (∀ c, c < 37 → ¬ (c < 3 * (C 0 1).toNat ∧ c < 18 ∧ c % 3 < (C 0 0).toNat) → u c = w c) → ∃ Y, lp_Q_fewestFor_48_13 fu (iI d) (iI t) (iI n) X = some (iI (fwS (fun n => yiS C (ctX C w n (3 * (C 0 1).toNat)) t) d n k), Y) ∧ OnP X Y := by
  intro k
  induction k with
  | zero =>
    intro n fu X u hn h1 hf hC hu ha
    obtain ⟨f, rfl⟩ : ∃ f, fu = f + 1 := ⟨fu - 1, by omega⟩
    refine ⟨X, ?_, OnP.rf⟩
    show blp_Q_fewestFor_48_13 (lp_Q_fewestFor_48_13 f) (iI d) (iI t) (iI n) X = _
    unfold blp_Q_fewestFor_48_13
    have c : 9 < iI n := by rw [l9]; exact (iI_lt (by omega) (by omega) (by omega) (by omega)).mpr (by omega)
    rw [if_pos c, lm2]
    rfl
  | succ k ih =>
    intro n fu X u hn h1 hf hC hu ha
    obtain ⟨f, rfl⟩ : ∃ f, fu = f + 1 := ⟨fu - 1, by omega⟩
    obtain ⟨ok, oz⟩ := ct_ok hO hW h0 h1 (show n ≤ 9 by omega)
    obtain ⟨Y, y1, y2, y3⟩ := few_mid (n := n) (x1 := iI d) (x2 := iI t) (lp_Q_fewestFor_48_13 f) hO hC hu
    have y4 : WyX 49 (ctX C w n (3 * (C 0 1).toNat)) Y := WyX_congr y2 (fun c hc => by
      unfold ctX
      by_cases e : c < 3 * (C 0 1).toNat ∧ c < 18 ∧ c % 3 < (C 0 0).toNat
      · rw [if_pos e, if_pos e]
      · rw [if_neg e, if_neg e, ha c hc e])
    obtain ⟨Z, z1, z2⟩ := X_tried (t := t) hO (y3.cfg hC) y4 ok oz ht
    have yb := yi_bd (t := t) hO ok ht
    have c : ¬ (9 < iI n) := by rw [l9, iI_lt (by omega) (by omega) (by omega) (by omega)]; omega
    have cd : (iI (yiS C (ctX C w n (3 * (C 0 1).toNat)) t) < iI d) ↔ yiS C (ctX C w n (3 * (C 0 1).toNat)) t < d := iI_lt (by omega) (by omega) (by omega) (by omega)
    have ev : lp_Q_fewestFor_48_13 (f + 1) (iI d) (iI t) (iI n) X = if iI (yiS C (ctX C w n (3 * (C 0 1).toNat)) t) < iI d then lp_Q_fewestFor_48_13 f (iI d) (iI t) (iI n + 1) Z else some (iI n, Z) := by
      show blp_Q_fewestFor_48_13 (lp_Q_fewestFor_48_13 f) (iI d) (iI t) (iI n) X = _
      unfold blp_Q_fewestFor_48_13
      rw [if_neg c, y1]
      unfold j_Q_fewestFor_48_77
      rw [z1, Option.bind_some]
    have ef : fwS (fun n => yiS C (ctX C w n (3 * (C 0 1).toNat)) t) d n (k + 1) = if yiS C (ctX C w n (3 * (C 0 1).toNat)) t < d then fwS (fun n => yiS C (ctX C w n (3 * (C 0 1).toNat)) t) d (n + 1) k else n := rfl
    rw [ev, ef]
    by_cases e : yiS C (ctX C w n (3 * (C 0 1).toNat)) t < d
    · rw [if_pos (cd.mpr e), if_pos e, l1, iI_add]
      obtain ⟨V, v1, v2⟩ := ih (n + 1) f Z (ctX C w n (3 * (C 0 1).toNat)) (by omega) (by omega) (by omega) (z2.p.cfg (y3.cfg hC)) (z2.wy (by decide) y4) (fun c _ hn => by unfold ctX; rw [if_neg hn])
      exact ⟨V, v1, (y3.tr z2.p).tr v2⟩
    · rw [if_neg (fun q => e (cd.mp q)), if_neg e]
      exact ⟨Z, rfl, y3.tr z2.p⟩
theorem few_Ml {C : SS} {w : Nat → Int} {d : Int} {t : Nat} (hO : CfgOk C) (hW : WyOk C w) (h0 : w0 C w) (ht : t ≤ 2000) (hd : 0 ≤ d) (hd9 : d ≤ 9999) : ∀ (k : Nat) (n : Int) (fu : Nat) (M : Mm) (u : Nat → Int), n + k = 10 → 1 ≤ n → k < fu → CfgM C M → WyM 12 u M → (∀ c, c < 37 → 18 ≤ c → u c = w c) → ∃ N, lp_M_fewest_0_48 fu (iI d) (iI t) (iI n) M = ((f_M_good_0 (iI (fwS (fun n => yiS C (ctX C w n (3 * (C 0 1).toNat)) t) d n k)) N).bind fun q => some (q.1, q.2)) ∧ (∀ q, q ≠ 12 → q ≠ 16 → N.1 q = M.1 q) ∧ N.2 = M.2 := by
  have hb6 := hO.2.2.2.1
  have hk3 := hO.2.1
  intro k
  induction k with
  | zero =>
    intro n fu M u hn h1 hf hC hu ha
    obtain ⟨f, rfl⟩ : ∃ f, fu = f + 1 := ⟨fu - 1, by omega⟩
    refine ⟨M, ?_, fun _ _ _ => rfl, rfl⟩
    show blp_M_fewest_0_48 (lp_M_fewest_0_48 f) (iI d) (iI t) (iI n) M = _
    unfold blp_M_fewest_0_48
    have c : 9 < iI n := by rw [l9]; exact (iI_lt (by omega) (by omega) (by omega) (by omega)).mpr (by omega)
    rw [if_pos c, lm2]
    rfl
  | succ k ih =>
    intro n fu M u hn h1 hf hC hu ha
    obtain ⟨f, rfl⟩ : ∃ f, fu = f + 1 := ⟨fu - 1, by omega⟩
    obtain ⟨ok, oz⟩ := ct_ok hO hW h0 h1 (show n ≤ 9 by omega)
    obtain ⟨Y, y1, y2, y3⟩ := few_M (n := n) (x1 := iI d) (x2 := iI t) (lp_M_fewest_0_48 f) hu
    have q : wQ C (ctX C w n (3 * (C 0 1).toNat)) (ctM u n 18) := by
      refine ⟨fun b k hb hk => ⟨?_, ?_⟩, ?_⟩
      · unfold ctM ctX; rw [if_pos (by omega), if_pos (by omega)]
      · unfold ctM ctX; rw [if_neg (by omega), if_neg (by omega)]; exact ha _ (by omega) (by omega)
      · unfold ctM ctX; rw [if_neg (by omega), if_neg (by omega)]; exact ha 36 (by omega) (by omega)
    have okM : WyOk C (ctM u n 18) := by
      refine ⟨fun b k hb hk => ?_, by rw [q.2]; exact ok.2⟩
      rw [(q.1 b k hb hk).1, (q.1 b k hb hk).2]
      exact ok.1 b k hb hk
    obtain ⟨Z, z1, z2⟩ := M_yield (t := t) hO (y3.cfg (by decide) hC) y2 okM ht
    rw [wQ_yi hO q t] at z1
    have yb := yi_bd (t := t) hO ok ht
    have c : ¬ (9 < iI n) := by rw [l9, iI_lt (by omega) (by omega) (by omega) (by omega)]; omega
    have cd : (iI (yiS C (ctX C w n (3 * (C 0 1).toNat)) t) < iI d) ↔ yiS C (ctX C w n (3 * (C 0 1).toNat)) t < d := iI_lt (by omega) (by omega) (by omega) (by omega)
    have ev : lp_M_fewest_0_48 (f + 1) (iI d) (iI t) (iI n) M = if iI (yiS C (ctX C w n (3 * (C 0 1).toNat)) t) < iI d then lp_M_fewest_0_48 f (iI d) (iI t) (iI n + 1) Z else (f_M_good_0 (iI n) Z).bind fun q3 => some (q3.1, q3.2) := by
      show blp_M_fewest_0_48 (lp_M_fewest_0_48 f) (iI d) (iI t) (iI n) M = _
      unfold blp_M_fewest_0_48
      rw [if_neg c, y1]
      unfold j_M_fewest_0_78
      rw [z1, Option.bind_some]
    have ef : fwS (fun n => yiS C (ctX C w n (3 * (C 0 1).toNat)) t) d n (k + 1) = if yiS C (ctX C w n (3 * (C 0 1).toNat)) t < d then fwS (fun n => yiS C (ctX C w n (3 * (C 0 1).toNat)) t) d (n + 1) k else n := rfl
    rw [ev, ef]
    have oZ : ∀ q, q ≠ 12 → q ≠ 16 → Z.1 q = M.1 q := fun q a b => by rw [z2.1 q b, y3.1 q a]
    by_cases e : yiS C (ctX C w n (3 * (C 0 1).toNat)) t < d
    · rw [if_pos (cd.mpr e), if_pos e, l1, iI_add]
      obtain ⟨V, v1, v2, v3⟩ := ih (n + 1) f Z (ctM u n 18) (by omega) (by omega) (by omega) (z2.cfg (by decide) (y3.cfg (by decide) hC)) (z2.wy (by decide) y2) (fun c hc h18 => by unfold ctM; rw [if_neg (by omega)]; exact ha c hc h18)
      exact ⟨V, v1, fun q a b => (v2 q a b).trans (oZ q a b), v3.trans (z2.2.trans y3.2)⟩
    · rw [if_neg (fun q => e (cd.mp q)), if_neg e]
      exact ⟨Z, rfl, oZ, z2.2.trans y3.2⟩
theorem R_fewest {X M : Mm} (h0 : Rel X M) (p p2 : Int32) : An (f_P_fewest_0 p p2 X) (f_M_fewest_0 p p2 M) := by
  unfold f_P_fewest_0 f_M_fewest_0
  rw [Option.bind_some]
  have h := h0.th 0
  generalize u1 M 0 0 0 = N at h
  rcases h.told with ⟨t1, t2⟩ | ⟨t1, t2, C, w, S, Q, T⟩
  · have e : f_P_refusesPaper_0 p2 X = (f_P_refused_0 1 X).bind fun q6 => some (1, q6.2) := by unfold f_P_refusesPaper_0; rw [if_pos t1]
    rw [e, if_pos t2]
    exact ⟨_, _, _, rfl, rfl, h.set 1 (-1)⟩
  · rw [if_neg t2, in_wi]
    rcases papT p2 with ⟨t, rfl, ht1, ht2, e1, e2⟩ | ⟨e1, e2⟩
    · rw [e2 X t1, Option.bind_some, if_pos rfl]
      rcases wi (p := p) (n := 9999) (by omega) (by omega) with ⟨d, rfl, hd, e⟩ | ⟨e, -⟩
      · have e' : f_P_within (iI (d : Int)) 9999 = some 1 := e
        rw [e', e1, Option.bind_some, Option.bind_some, if_neg n10, if_neg n10, Option.bind_some, if_neg n10]
        unfold f_Q_fewestFor_48
        obtain ⟨X1, x1, x2, x3, x4⟩ := X_Vcopy_49_32 T.wx
        obtain ⟨M1, m1, m2, m3⟩ := M_papers T.wm
        obtain ⟨Y, y1, y2⟩ := few_X (d := (d : Int)) (t := t) T.1 T.wo T.w0 ht2 (by omega) hd 9 1 FW X1 w (by omega) (by omega) (FW_gt (by omega)) (T.2.1.fr (fun q _ _ => x3 q (by omega))) x2 (fun _ _ _ => rfl)
        obtain ⟨O, o1, o2, o3⟩ := few_Ml (d := (d : Int)) (t := t) T.1 T.wo T.w0 ht2 (by omega) hd 9 1 FW M1 w (by omega) (by omega) (FW_gt (by omega)) (m3.cfg (by decide) T.2.2.1) m2 (fun _ _ _ => rfl)
        rw [← l1] at y1 o1
        rw [x1, Option.bind_some, y1, m1, Option.bind_some, Option.bind_some, o1]
        exact An_good (h.pap (fun q hq => by rw [y2.1 q hq, x3 q (by omega)]) (fun q z1 z2 _ => by rw [o2 q z1 z2, m3.1 q z1]) (o3.trans m3.2)) _
      · have e' : f_P_within p 9999 = some 0 := e
        rw [e', Option.bind_some, Option.bind_some, if_pos rfl, if_pos rfl]; exact An_ref h 2
    · rw [e2 X t1, e1]
      rcases wi (p := p) (n := 9999) (by omega) (by omega) with ⟨d, rfl, hd, e⟩ | ⟨e, -⟩
      · have e' : f_P_within (iI (d : Int)) 9999 = some 1 := e
        rw [e', Option.bind_some, if_neg n10]
        exact ⟨_, _, _, rfl, rfl, h.set 2 (-1)⟩
      · have e' : f_P_within p 9999 = some 0 := e
        rw [e']
        exact ⟨_, _, _, rfl, rfl, h.set 2 (-1)⟩

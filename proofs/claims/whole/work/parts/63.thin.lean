theorem uw_back {u : Nat → Int} {c : Nat} {v : Int} (hv : v = u c) (x : Int) : uw (uw u c x) c v = u := by
  funext j
  unfold uw
  split
  · rename_i h; rw [h, hv]
  · rfl
theorem WyX_put {u : Nat → Int} {X : Mm} {c : Nat} {v : Int} (h : WyX 49 u X) (hc : c < 18) : WyX 49 (uw u c v) (u1 X 50 c (iI v)) := by
  refine ⟨fun j hj => ?_, fun j hj => ?_, ?_⟩
  · show (u1 X 50 c (iI v)).1 50 j = _
    rw [u1_at]
    by_cases ej : j = c
    · rw [if_pos ⟨rfl, ej⟩, ej, uw_eq]
    · rw [if_neg (fun q => ej q.2), uw_ne ej]; exact h.1 j hj
  · show (u1 X 50 c (iI v)).1 51 j = _
    rw [u1_ne (by decide), uw_ne (by omega)]; exact h.2.1 j hj
  · rw [u1_ne (by decide), uw_ne (by omega)]; exact h.2.2
theorem thin_X {C : SS} {s : TS} {X : Mm} {t : Nat} {x4 : Int32} (rc : Int32 → Int32 → Int32 → Int32 → Mm → Option Mm) (hO : CfgOk C) (hC : CfgX C X) (ht : t ≤ 2000) (hs : TOk C s) (h : WyX 49 s.1 X) : ∃ Y, lp_Q_takeOut_48_28 rc FW (iI t) (iI s.2.1) (iI s.2.2) x4 0 X = rc (iI t) (iI (psS C t s 18).2.1) (iI (psS C t s 18).2.2) (x4 + 1) Y ∧ WyX 49 (psS C t s 18).1 Y ∧ OnP X Y := by
  have loop := loop_up (σ := Int32 × Int32 × Int32 × Mm) (γ := Option Mm) (fun f z => lp_Q_takeOut_48_28 rc f (iI t) z.1 z.2.1 x4 z.2.2.1 z.2.2.2) 18 (fun i z => z.1 = iI (psS C t s i).2.1 ∧ z.2.1 = iI (psS C t s i).2.2 ∧ z.2.2.1 = iI (i : Int) ∧ WyX 49 (psS C t s i).1 z.2.2.2 ∧ OnP X z.2.2.2) (fun z => rc (iI t) z.1 z.2.1 (x4 + 1) z.2.2.2) ?_ ?_ FW (FW_gt (by omega)) (iI s.2.1, iI s.2.2, iI 0, X) ⟨rfl, rfl, rfl, h, OnP.rf⟩
  · obtain ⟨⟨a, b, c, Y⟩, ⟨e1, e2, -, r, o⟩, ev⟩ := loop
    dsimp only at e1 e2 r o ev
    exact ⟨Y, by rw [l0, ← e1, ← e2]; exact ev, r, o⟩
  · rintro f i ⟨a, b, c, Y⟩ hi ⟨ea, eb, ec, r, o⟩
    dsimp only at ea eb ec r o
    subst ea; subst eb; subst ec
    have ok := ps_ok hO ht hs i (by omega)
    have ep : psS C t s (i + 1) = tkS C t i (psS C t s i) := rfl
    obtain ⟨ok2, key⟩ := tk_ok hO ht ok hi
    rw [ep]
    generalize psS C t s i = g at r ok ok2 key ⊢
    have c0 : ¬ (18 ≤ iI (i : Int)) := by rw [show (18 : Int32) = iI 18 from rfl, iI_le (by omega) (by omega) (by omega) (by omega)]; omega
    have rr : ∀ (u : Nat → Int) (Z : Mm), WyX 49 u Z → rd (Z.1 50) 18 (iI (i : Int)) = some (iI (u i)) := fun u Z hZ => rdc hZ i hi rfl
    have ei : iI (i : Int) + 1 = iI ((i + 1 : Nat) : Int) := by rw [l1, iI_add]; rfl
    by_cases e0 : g.1 i = 0
    · have et : tkS C t i g = g := if_pos e0
      rw [et]
      refine ⟨(iI g.2.1, iI g.2.2, iI ((i + 1 : Nat) : Int), Y), ?_, rfl, rfl, rfl, r, o⟩
      show blp_Q_takeOut_48_28 rc (lp_Q_takeOut_48_28 rc f) _ _ _ _ _ Y = _
      unfold blp_Q_takeOut_48_28 j_Q_takeOut_48_97
      rw [if_neg c0, rr _ _ r, Option.bind_some, if_pos (by rw [e0, ← l0]; exact Int32.le_refl 0), ei]
    · obtain ⟨k1, k2, k3, k4⟩ := key e0
      have cz : ¬ (iI (g.1 i) ≤ 0) := by rw [l0, iI_le (by omega) (by omega) (by omega) (by omega)]; omega
      have w1 : wr Y 50 18 (iI (i : Int)) (iI (g.1 i - 1)) = some (u1 Y 50 i (iI (g.1 i - 1))) := by rw [wr_iI (by omega) (by omega) (by omega), Int.toNat_natCast]
      have r1 := WyX_put (v := g.1 i - 1) r hi
      have o1 : OnP X (u1 Y 50 i (iI (g.1 i - 1))) := o.u (by omega)
      obtain ⟨Z, z1, z2⟩ := X_tried (t := t) hO (o1.cfg hC) r1 k1 k2 ht
      have yb := yi_bd (t := t) hO k1 ht
      have rZ : WyX 49 (uw g.1 i (g.1 i - 1)) Z := z2.wy (by decide) r1
      have oZ : OnP X Z := o1.tr z2.p
      have c1 : (iI g.2.1 ≤ iI (yiS C (uw g.1 i (g.1 i - 1)) t)) ↔ g.2.1 ≤ yiS C (uw g.1 i (g.1 i - 1)) t := by
        have := ok.2.2.1; have := ok.2.2.2.1
        exact iI_le (by omega) (by omega) (by omega) (by omega)
      have w2 : wr Z 50 18 (iI (i : Int)) (iI (g.1 i)) = some (u1 Z 50 i (iI (g.1 i))) := by rw [wr_iI (by omega) (by omega) (by omega), Int.toNat_natCast]
      have ev : lp_Q_takeOut_48_28 rc (f + 1) (iI t) (iI g.2.1) (iI g.2.2) x4 (iI (i : Int)) Y = if iI g.2.1 ≤ iI (yiS C (uw g.1 i (g.1 i - 1)) t) then lp_Q_takeOut_48_28 rc f (iI t) (iI (yiS C (uw g.1 i (g.1 i - 1)) t)) (iI 1) x4 (iI ((i + 1 : Nat) : Int)) Z else lp_Q_takeOut_48_28 rc f (iI t) (iI g.2.1) (iI g.2.2) x4 (iI ((i + 1 : Nat) : Int)) (u1 Z 50 i (iI (g.1 i))) := by
        show blp_Q_takeOut_48_28 rc (lp_Q_takeOut_48_28 rc f) _ _ _ _ _ Y = _
        unfold blp_Q_takeOut_48_28 j_Q_takeOut_48_97
        rw [if_neg c0, rr _ _ r, Option.bind_some, if_neg cz, Option.bind_some, show iI (g.1 i) - 1 = iI (g.1 i - 1) by rw [l1, iI_sub], w1, Option.bind_some, z1, Option.bind_some]
        dsimp only
        rw [rr _ _ rZ, Option.bind_some, uw_eq, show iI (g.1 i - 1) + 1 = iI (g.1 i) by rw [l1, iI_add, show g.1 i - 1 + 1 = g.1 i by omega], w2, Option.bind_some, ei, ← l1]
      by_cases e1 : g.2.1 ≤ yiS C (uw g.1 i (g.1 i - 1)) t
      · have et : tkS C t i g = (uw g.1 i (g.1 i - 1), yiS C (uw g.1 i (g.1 i - 1)) t, 1) := by unfold tkS; rw [if_neg e0, if_pos e1]
        rw [et]
        exact ⟨(_, _, _, Z), ev.trans (if_pos (c1.mpr e1)), rfl, rfl, rfl, rZ, oZ⟩
      · have et : tkS C t i g = g := by unfold tkS; rw [if_neg e0, if_neg e1]
        rw [et]
        refine ⟨(_, _, _, _), ev.trans (if_neg (fun q => e1 (c1.mp q))), rfl, rfl, rfl, ?_, oZ.u (by omega)⟩
        have := WyX_put (v := g.1 i) rZ hi
        rw [uw_back rfl] at this
        exact this
  · rintro f ⟨a, b, c, Y⟩ ⟨ea, eb, ec, r, o⟩
    dsimp only at ea eb ec r o
    subst ea; subst eb; subst ec
    rfl

theorem X_with {C : SS} {w : Nat → Int} {X : Mm} {t L : Nat} {v : Int} (hO : CfgOk C) (hC : CfgX C X) (hw : WyX 32 w X) (hL : L < 18) (ok : WyOk C (uw w L v)) (oz : w0 C (uw w L v)) (ht : t ≤ 2000) : ∃ Y, f_Q_withCards_48 (iI L) (iI v) (iI t) X = some (iI (yiS C (uw w L v) t), Y) ∧ OnP X Y := by
  obtain ⟨X1, x1, x2, x3, x4⟩ := X_Vcopy_49_32 hw
  have wX : wr X1 50 18 (iI (L : Int)) (iI v) = some (u1 X1 50 L (iI v)) := by rw [wr_iI (by omega) (by omega) (by omega), Int.toNat_natCast]
  have wx : WyX 49 (uw w L v) (u1 X1 50 L (iI v)) := by
    refine ⟨fun j hj => ?_, fun j hj => ?_, ?_⟩
    · rw [u1_at]
      by_cases ej : j = L
      · rw [if_pos ⟨rfl, ej⟩, ej, uw_eq]
      · rw [if_neg (fun q => ej q.2), uw_ne ej]; exact x2.1 j hj
    · rw [u1_ne (by decide), uw_ne (by omega)]; exact x2.2.1 j hj
    · rw [u1_ne (by decide), uw_ne (by omega)]; exact x2.2.2
  obtain ⟨X2, y1, y2⟩ := X_tried (t := t) hO (hC.fr (fun q _ _ => by rw [u1_ne (by omega)]; exact x3 q (by omega))) wx ok oz ht
  refine ⟨X2, ?_, fun q hq => by rw [y2.1 q (by omega), u1_ne (by omega), x3 q (by omega)], y2.2.trans x4⟩
  unfold f_Q_withCards_48
  rw [x1, Option.bind_some, wX, Option.bind_some, y1, Option.bind_some]
theorem M_with {C : SS} {w : Nat → Int} {M : Mm} {t L : Nat} {v : Int} (hO : CfgOk C) (hC : CfgM C M) (hw : WyM 10 w M) (hL : L < 18) (ok : WyOk C (uw w L v)) (ht : t ≤ 2000) : ∃ N1 N, f_M_papers_0 M = some N1 ∧ rd (N1.1 12) 37 (iI L) = some (iI (w L)) ∧ ∃ N2, wr N1 12 37 (iI L) (iI v) = some N2 ∧ f_M_yieldOf_0 (iI t) N2 = some (iI (yiS C (uw w L v) t), N) ∧ (∀ q, q ≠ 12 → q ≠ 16 → N.1 q = M.1 q) ∧ N.2 = M.2 := by
  obtain ⟨M1, m1, m2, m3⟩ := M_papers hw
  have wM : wr M1 12 37 (iI (L : Int)) (iI v) = some (u1 M1 12 L (iI v)) := by rw [wr_iI (by omega) (by omega) (by omega), Int.toNat_natCast]
  have wm : WyM 12 (uw w L v) (u1 M1 12 L (iI v)) := fun j hj => by
    rw [u1_at]
    by_cases ej : j = L
    · rw [if_pos ⟨rfl, ej⟩, ej, uw_eq]
    · rw [if_neg (fun q => ej q.2), uw_ne ej]; exact m2 j hj
  obtain ⟨M2, n1, n2⟩ := M_yield (t := t) hO (hC.fr (fun i _ => by rw [u1_ne (by decide), m3.1 0 (by decide)]) (fun q i _ _ _ _ => by rw [u1_ne (by omega), m3.1 q (by omega)])) wm ok ht
  exact ⟨M1, M2, m1, rdw m2 L (by omega) rfl, _, wM, n1, fun q a b => by rw [n2.1 q b, u1_ne a, m3.1 q a], n2.2.trans m3.2⟩
def hpS (w y : Nat → Int) (c : Nat) (p : Int × Int) : Int × Int := if w c = 9 then p else if y c ≤ p.1 then p else (y c, (c : Int))
def hiS (w y : Nat → Int) (b : Nat) (p : Int × Int) : Nat → Int × Int
  | 0 => p
  | k + 1 => hpS w y (3 * b + k) (hiS w y b p k)
def hoS (w y : Nat → Int) (K : Nat) (p : Int × Int) : Nat → Int × Int
  | 0 => p
  | b + 1 => hiS w y b (hoS w y K p b) K
theorem hp_bd {w y : Nat → Int} {c : Nat} {p : Int × Int} (hp : 0 ≤ p.1 ∧ p.1 ≤ 120000) (hy : w c ≠ 9 → y c ≤ 120000) : 0 ≤ (hpS w y c p).1 ∧ (hpS w y c p).1 ≤ 120000 := by
  unfold hpS
  split
  · exact hp
  · rename_i h
    split
    · exact hp
    · exact ⟨by omega, hy h⟩
theorem uw_ok {C : SS} {w : Nat → Int} {b k : Nat} {v : Int} (hO : CfgOk C) (hW : WyOk C w) (h0 : w0 C w) (hb : (b : Int) < C 0 1) (hk : (k : Int) < C 0 0) (h1 : 0 ≤ v) (h9 : v ≤ 9) : WyOk C (uw w (3 * b + k) v) ∧ w0 C (uw w (3 * b + k) v) := by
  have hb6 := sz6 hO hb
  have hk3 := hO.2.1
  refine ⟨⟨fun b2 k2 hb2 hk2 => ?_, by rw [uw_ne (by omega)]; exact hW.2⟩, fun b2 k2 hb2 hk2 hn => ?_⟩
  · have := hW.1 b2 k2 hb2 hk2
    have := sz6 hO hb2
    rw [uw_ne (c := 18 + (3 * b2 + k2)) (by omega)]
    unfold uw
    split <;> omega
  · have := h0 b2 k2 hb2 hk2 hn
    rw [uw_ne (c := 18 + (3 * b2 + k2)) (by omega), uw_ne (c := 3 * b2 + k2) (fun q => hn (by
      have : b2 = b := by omega
      have : k2 = k := by omega
      omega))]
    exact this
theorem help_X {C : SS} {w : Nat → Int} {X : Mm} {t b : Nat} {p : Int × Int} (rc : Int32 → Int32 → Int32 → Int32 → Mm → Option (Int32 × Mm)) (hO : CfgOk C) (hC : CfgX C X) (hw : WyX 32 w X) (hW : WyOk C w) (h0 : w0 C w) (ht : t ≤ 2000) (hb : (b : Int) < C 0 1) (hp : 0 ≤ p.1 ∧ p.1 ≤ 120000) : ∃ Y, lp_Q_bestCardMore_48_27 rc FW (iI t) (iI p.1) (iI p.2) (iI b) 0 X = rc (iI t) (iI (hiS w (fun c => yiS C (uw w c (w c + 1)) t) b p (C 0 0).toNat).1) (iI (hiS w (fun c => yiS C (uw w c (w c + 1)) t) b p (C 0 0).toNat).2) (iI ((b + 1 : Nat) : Int)) Y ∧ OnP X Y ∧ 0 ≤ (hiS w (fun c => yiS C (uw w c (w c + 1)) t) b p (C 0 0).toNat).1 ∧ (hiS w (fun c => yiS C (uw w c (w c + 1)) t) b p (C 0 0).toNat).1 ≤ 120000 := by
  have hk1 := hO.1
  have hk3 := hO.2.1
  have hb6 := sz6 hO hb
  generalize hy : (fun c => yiS C (uw w c (w c + 1)) t) = y
  have loop := loop_up (σ := Int32 × Int32 × Int32 × Mm) (γ := Option (Int32 × Mm)) (fun f s => lp_Q_bestCardMore_48_27 rc f (iI t) s.1 s.2.1 (iI b) s.2.2.1 s.2.2.2) (C 0 0).toNat (fun i s => s.1 = iI (hiS w y b p i).1 ∧ s.2.1 = iI (hiS w y b p i).2 ∧ s.2.2.1 = iI (i : Int) ∧ OnP X s.2.2.2 ∧ 0 ≤ (hiS w y b p i).1 ∧ (hiS w y b p i).1 ≤ 120000) (fun s => rc (iI t) s.1 s.2.1 (iI ((b + 1 : Nat) : Int)) s.2.2.2) ?_ ?_ FW (FW_gt (by omega)) (iI p.1, iI p.2, iI 0, X) ⟨rfl, rfl, rfl, OnP.rf, hp⟩
  · obtain ⟨⟨a, b', c, Y⟩, ⟨e1, e2, -, o, q⟩, ev⟩ := loop
    dsimp only at e1 e2 o ev
    exact ⟨Y, by rw [l0, ← e1, ← e2]; exact ev, o, q⟩
  · rintro f i ⟨a, b', c, Y⟩ hi ⟨ea, eb, ec, o, q⟩
    dsimp only at ea eb ec o
    subst ea; subst eb; subst ec
    have hik : (i : Int) < C 0 0 := by omega
    obtain ⟨w1, w2, -, -⟩ := hW.1 b i hb hik
    have rc' : f_P_cell (iI (b : Int)) (iI (i : Int)) = some (iI (3 * b + i)) := by unfold f_P_cell; rw [ixc]
    have wY : WyX 32 w Y := ⟨fun c hc => by rw [o.1 33 (by omega)]; exact hw.1 c hc, fun c hc => by rw [o.1 34 (by omega)]; exact hw.2.1 c hc, by rw [o.1 32 (by omega)]; exact hw.2.2⟩
    have r : rd (Y.1 33) 18 (iI (3 * (b : Int) + i)) = some (iI (w (3 * b + i))) := rdc wY (3 * b + i) (by omega) (by omega)
    have c0 : ¬ (iI (C 0 0) ≤ iI (i : Int)) := by rw [iI_le (by omega) (by omega) (by omega) (by omega)]; omega
    have c9 : (9 ≤ iI (w (3 * b + i))) ↔ 9 ≤ w (3 * b + i) := by rw [l9]; exact iI_le (by omega) (by omega) (by omega) (by omega)
    have ei : iI (i : Int) + 1 = iI ((i + 1 : Nat) : Int) := by rw [l1, iI_add]; rfl
    have eh : hiS w y b p (i + 1) = hpS w y (3 * b + i) (hiS w y b p i) := rfl
    by_cases e9 : w (3 * b + i) = 9
    · have eh2 : hiS w y b p (i + 1) = hiS w y b p i := by rw [eh]; unfold hpS; rw [if_pos e9]
      refine ⟨(iI (hiS w y b p i).1, iI (hiS w y b p i).2, iI ((i + 1 : Nat) : Int), Y), ?_, by rw [eh2], by rw [eh2], rfl, o, by rw [eh2]; exact q⟩
      show blp_Q_bestCardMore_48_27 rc (lp_Q_bestCardMore_48_27 rc f) _ _ _ _ _ Y = _
      unfold blp_Q_bestCardMore_48_27 j_Q_bestCardMore_48_82 j_Q_bestCardMore_48_96
      have cz : (0 : Int32) ≤ iI (hiS w y b p i).1 := by rw [l0]; exact (iI_le (by omega) (by omega) (by omega) (by omega)).mpr q.1
      rw [(o.cfg hC).1, if_neg c0, rc', Option.bind_some, r, Option.bind_some, if_pos (c9.mpr (by omega)), if_pos cz, ei]
    · obtain ⟨ok, oz⟩ := uw_ok (v := w (3 * b + i) + 1) hO hW h0 hb hik (by omega) (by omega)
      obtain ⟨Z, z1, z2⟩ := X_with (t := t) (L := 3 * b + i) (v := w (3 * b + i) + 1) hO (o.cfg hC) wY (by omega) ok oz ht
      have yb := yi_bd (t := t) hO ok ht
      have ey : yiS C (uw w (3 * b + i) (w (3 * b + i) + 1)) t = y (3 * b + i) := by rw [← hy]
      rw [ey] at z1 yb
      have z1' : f_Q_withCards_48 (iI (3 * (b : Int) + i)) (iI (w (3 * b + i)) + 1) (iI t) Y = some (iI (y (3 * b + i)), Z) := by rw [l1, iI_add]; exact z1
      have c1 : (iI (y (3 * b + i)) ≤ iI (hiS w y b p i).1) ↔ y (3 * b + i) ≤ (hiS w y b p i).1 := iI_le (by omega) (by omega) (by omega) (by omega)
      have ev : lp_Q_bestCardMore_48_27 rc (f + 1) (iI t) (iI (hiS w y b p i).1) (iI (hiS w y b p i).2) (iI b) (iI (i : Int)) Y = if iI (y (3 * b + i)) ≤ iI (hiS w y b p i).1 then lp_Q_bestCardMore_48_27 rc f (iI t) (iI (hiS w y b p i).1) (iI (hiS w y b p i).2) (iI b) (iI ((i + 1 : Nat) : Int)) Z else lp_Q_bestCardMore_48_27 rc f (iI t) (iI (y (3 * b + i))) (iI (3 * (b : Int) + i)) (iI b) (iI ((i + 1 : Nat) : Int)) Z := by
        show blp_Q_bestCardMore_48_27 rc (lp_Q_bestCardMore_48_27 rc f) _ _ _ _ _ Y = _
        unfold blp_Q_bestCardMore_48_27
        rw [(o.cfg hC).1, if_neg c0, rc', Option.bind_some, r, Option.bind_some, if_neg (fun q => by have := c9.mp q; omega), z1', Option.bind_some]
        unfold j_Q_bestCardMore_48_82 j_Q_bestCardMore_48_96
        rw [ei]
      have bd := hp_bd (w := w) (y := y) (c := 3 * b + i) q (fun _ => yb.2)
      by_cases e : y (3 * b + i) ≤ (hiS w y b p i).1
      · have eh2 : hiS w y b p (i + 1) = hiS w y b p i := by rw [eh]; unfold hpS; rw [if_neg e9, if_pos e]
        refine ⟨(_, _, _, Z), ev.trans (if_pos (c1.mpr e)), by rw [eh2]; rfl, by rw [eh2]; rfl, rfl, o.tr z2, by rw [eh2]; exact q⟩
      · have eh2 : hiS w y b p (i + 1) = (y (3 * b + i), ((3 * b + i : Nat) : Int)) := by rw [eh]; unfold hpS; rw [if_neg e9, if_neg e]
        refine ⟨(_, _, _, Z), ev.trans (if_neg (fun q => e (c1.mp q))), by rw [eh2]; rfl, by rw [eh2]; rfl, rfl, o.tr z2, by rw [eh]; exact bd⟩
  · rintro f ⟨a, b', c, Y⟩ ⟨ea, eb, ec, o, q⟩
    dsimp only at ea eb ec o
    subst ea; subst eb; subst ec
    show blp_Q_bestCardMore_48_27 rc (lp_Q_bestCardMore_48_27 rc f) _ _ _ _ _ Y = _
    unfold blp_Q_bestCardMore_48_27
    have c0 : iI (C 0 0) ≤ iI ((C 0 0).toNat : Int) := (iI_le (by omega) (by omega) (by omega) (by omega)).mpr (by omega)
    rw [(o.cfg hC).1, if_pos c0]
    unfold j_Q_bestCardMore_48_102
    rw [l1, iI_add]
    rfl
theorem help_M {C : SS} {w : Nat → Int} {M : Mm} {t b : Nat} {p : Int × Int} (rc : Int32 → Int32 → Int32 → Int32 → Mm → Option (Int32 × Mm)) (hO : CfgOk C) (hC : CfgM C M) (hw : WyM 10 w M) (hW : WyOk C w) (h0 : w0 C w) (ht : t ≤ 2000) (hb : (b : Int) < C 0 1) (hp : 0 ≤ p.1 ∧ p.1 ≤ 120000) : ∃ N, lp_M_helps_0_55 rc FW (iI t) (iI p.1) (iI p.2) (iI b) 0 M = rc (iI t) (iI (hiS w (fun c => yiS C (uw w c (w c + 1)) t) b p (C 0 0).toNat).1) (iI (hiS w (fun c => yiS C (uw w c (w c + 1)) t) b p (C 0 0).toNat).2) (iI ((b + 1 : Nat) : Int)) N ∧ (∀ q, q ≠ 12 → q ≠ 16 → N.1 q = M.1 q) ∧ N.2 = M.2 := by
  have hk1 := hO.1
  have hk3 := hO.2.1
  have hb6 := sz6 hO hb
  have cfg : ∀ N : Mm, (∀ q, q ≠ 12 → q ≠ 16 → N.1 q = M.1 q) → CfgM C N := fun N o => hC.fr (fun i _ => by rw [o 0 (by decide) (by decide)]) (fun q i _ _ _ _ => by rw [o q (by omega) (by omega)])
  generalize hy : (fun c => yiS C (uw w c (w c + 1)) t) = y
  have loop := loop_up (σ := Int32 × Int32 × Int32 × Mm) (γ := Option (Int32 × Mm)) (fun f s => lp_M_helps_0_55 rc f (iI t) s.1 s.2.1 (iI b) s.2.2.1 s.2.2.2) (C 0 0).toNat (fun i s => s.1 = iI (hiS w y b p i).1 ∧ s.2.1 = iI (hiS w y b p i).2 ∧ s.2.2.1 = iI (i : Int) ∧ ((∀ q, q ≠ 12 → q ≠ 16 → s.2.2.2.1 q = M.1 q) ∧ s.2.2.2.2 = M.2) ∧ 0 ≤ (hiS w y b p i).1 ∧ (hiS w y b p i).1 ≤ 120000) (fun s => rc (iI t) s.1 s.2.1 (iI ((b + 1 : Nat) : Int)) s.2.2.2) ?_ ?_ FW (FW_gt (by omega)) (iI p.1, iI p.2, iI 0, M) ⟨rfl, rfl, rfl, ⟨fun _ _ _ => rfl, rfl⟩, hp⟩
  · obtain ⟨⟨a, b', c, Y⟩, ⟨e1, e2, -, o, q⟩, ev⟩ := loop
    dsimp only at e1 e2 o ev
    exact ⟨Y, by rw [l0, ← e1, ← e2]; exact ev, o⟩
  · rintro f i ⟨a, b', c, Y⟩ hi ⟨ea, eb, ec, o, q⟩
    dsimp only at ea eb ec o
    subst ea; subst eb; subst ec
    have hik : (i : Int) < C 0 0 := by omega
    obtain ⟨w1, w2, -, -⟩ := hW.1 b i hb hik
    have wY : WyM 10 w Y := fun c hc => by rw [o.1 10 (by decide) (by decide)]; exact hw c hc
    have r : rd (Y.1 10) 37 (iI (3 * (b : Int) + i)) = some (iI (w (3 * b + i))) := rdw wY (3 * b + i) (by omega) (by omega)
    have c0 : ¬ (iI (C 0 0) ≤ iI (i : Int)) := by rw [iI_le (by omega) (by omega) (by omega) (by omega)]; omega
    have c9 : (iI (w (3 * b + i)) = 9) ↔ w (3 * b + i) = 9 := by rw [l9]; exact iI_eq (by omega) (by omega) (by omega) (by omega)
    have ei : iI (i : Int) + 1 = iI ((i + 1 : Nat) : Int) := by rw [l1, iI_add]; rfl
    have eh : hiS w y b p (i + 1) = hpS w y (3 * b + i) (hiS w y b p i) := rfl
    by_cases e9 : w (3 * b + i) = 9
    · have eh2 : hiS w y b p (i + 1) = hiS w y b p i := by rw [eh]; unfold hpS; rw [if_pos e9]
      refine ⟨(iI (hiS w y b p i).1, iI (hiS w y b p i).2, iI ((i + 1 : Nat) : Int), Y), ?_, by rw [eh2], by rw [eh2], rfl, o, by rw [eh2]; exact q⟩
      show blp_M_helps_0_55 rc (lp_M_helps_0_55 rc f) _ _ _ _ _ Y = _
      unfold blp_M_helps_0_55 j_M_helps_0_131
      rw [(cfg Y o.1).1, if_neg c0, ixc, r, Option.bind_some, if_pos (c9.mpr e9), ei]
    · obtain ⟨ok, oz⟩ := uw_ok (v := w (3 * b + i) + 1) hO hW h0 hb hik (by omega) (by omega)
      obtain ⟨N1, Z, m1, m2, N2, m3, m4, m5, m6⟩ := M_with (t := t) (L := 3 * b + i) (v := w (3 * b + i) + 1) hO (cfg Y o.1) wY (by omega) ok ht
      have yb := yi_bd (t := t) hO ok ht
      have ey : yiS C (uw w (3 * b + i) (w (3 * b + i) + 1)) t = y (3 * b + i) := by rw [← hy]
      rw [ey] at m4 yb
      have m2' : rd (N1.1 12) 37 (iI (3 * (b : Int) + i)) = some (iI (w (3 * b + i))) := m2
      have m3' : wr N1 12 37 (iI (3 * (b : Int) + i)) (iI (w (3 * b + i)) + 1) = some N2 := by rw [l1, iI_add]; exact m3
      have oZ : (∀ q, q ≠ 12 → q ≠ 16 → Z.1 q = M.1 q) ∧ Z.2 = M.2 := ⟨fun q a b => (m5 q a b).trans (o.1 q a b), m6.trans o.2⟩
      have c1 : (iI (hiS w y b p i).1 < iI (y (3 * b + i))) ↔ (hiS w y b p i).1 < y (3 * b + i) := iI_lt (by omega) (by omega) (by omega) (by omega)
      have ev : lp_M_helps_0_55 rc (f + 1) (iI t) (iI (hiS w y b p i).1) (iI (hiS w y b p i).2) (iI b) (iI (i : Int)) Y = if iI (hiS w y b p i).1 < iI (y (3 * b + i)) then lp_M_helps_0_55 rc f (iI t) (iI (y (3 * b + i))) (iI (3 * (b : Int) + i)) (iI b) (iI ((i + 1 : Nat) : Int)) Z else lp_M_helps_0_55 rc f (iI t) (iI (hiS w y b p i).1) (iI (hiS w y b p i).2) (iI b) (iI ((i + 1 : Nat) : Int)) Z := by
        show blp_M_helps_0_55 rc (lp_M_helps_0_55 rc f) _ _ _ _ _ Y = _
        unfold blp_M_helps_0_55
        rw [(cfg Y o.1).1, if_neg c0, ixc, r, Option.bind_some, if_neg (fun q => e9 (c9.mp q)), m1, Option.bind_some, m2', Option.bind_some, m3', Option.bind_some, m4, Option.bind_some]
        unfold j_M_helps_0_131
        rw [ei]
      have bd := hp_bd (w := w) (y := y) (c := 3 * b + i) q (fun _ => yb.2)
      by_cases e : y (3 * b + i) ≤ (hiS w y b p i).1
      · have eh2 : hiS w y b p (i + 1) = hiS w y b p i := by rw [eh]; unfold hpS; rw [if_neg e9, if_pos e]
        refine ⟨(_, _, _, Z), ev.trans (if_neg (fun q => by have := c1.mp q; omega)), by rw [eh2]; rfl, by rw [eh2]; rfl, rfl, oZ, by rw [eh2]; exact q⟩
      · have eh2 : hiS w y b p (i + 1) = (y (3 * b + i), ((3 * b + i : Nat) : Int)) := by rw [eh]; unfold hpS; rw [if_neg e9, if_neg e]
        refine ⟨(_, _, _, Z), ev.trans (if_pos (c1.mpr (by omega))), by rw [eh2]; rfl, by rw [eh2]; rfl, rfl, oZ, by rw [eh]; exact bd⟩
  · rintro f ⟨a, b', c, Y⟩ ⟨ea, eb, ec, o, q⟩
    dsimp only at ea eb ec o
    subst ea; subst eb; subst ec
    show blp_M_helps_0_55 rc (lp_M_helps_0_55 rc f) _ _ _ _ _ Y = _
    unfold blp_M_helps_0_55
    have c0 : iI (C 0 0) ≤ iI ((C 0 0).toNat : Int) := (iI_le (by omega) (by omega) (by omega) (by omega)).mpr (by omega)
    rw [(cfg Y o.1).1, if_pos c0]
    unfold j_M_helps_0_137
    rw [l1, iI_add]
    rfl

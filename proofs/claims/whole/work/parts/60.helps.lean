theorem X_with {C : SS} {w : Nat → Int} {X : Mm} {t L : Nat} {v : Int} (hO : CfgOk C) (hC : CfgX C X) (hw : WyX 32 w X) (hL : L < 18) (ok : WyOk C (uw w L v)) (oz : w0 C (uw w L v)) (ht : t ≤ 2000) : ∃ Y, f_Q_withCards_48 (iI L) (iI v) (iI t) X = some (iI (yiS C (uw w L v) t), Y) ∧ OnP X Y := by
  obtain ⟨X1, x1, x2, x3, x4⟩ := X_Vcopy_49_32 hw
  have wX : wr X1 50 18 (iI (L : Int)) (iI v) = some (u1 X1 50 L (iI v)) := by rw [wr_iI (by omega) (by omega) (by omega), Int.toNat_natCast]
  have wx : WyX 49 (uw w L v) (u1 X1 50 L (iI v)) := by
    refine ⟨fun j hj => ?_, fun j hj => ?_, ?_⟩
    · rw [u1_at]
      by_cases ej : j = L
      · rw [if_pos ⟨rfl, ej⟩, ej, uw_eq]
      · rw [if_neg (fun q => ej q.2), uw_ne ej]; exact x2.1 j hj
    · rw [u1_ne (by decide), uw_ne (by omega)]; exact x2.2.1 j hj
    · rw [u1_ne (by decide), uw_ne (by omega)]; exact x2.2.2
  obtain ⟨X2, y1, y2⟩ := X_tried (t := t) hO (hC.fr (fun q _ _ => by rw [u1_ne (by omega)]; exact x3 q (by omega))) wx ok oz ht
  refine ⟨X2, ?_, fun q hq => by rw [y2.1 q (by omega), u1_ne (by omega), x3 q (by omega)], y2.2.trans x4⟩
  unfold f_Q_withCards_48
  rw [x1, Option.bind_some, wX, Option.bind_some, y1, Option.bind_some]
theorem M_with {C : SS} {w : Nat → Int} {M : Mm} {t L : Nat} {v : Int} (hO : CfgOk C) (hC : CfgM C M) (hw : WyM 10 w M) (hL : L < 18) (ok : WyOk C (uw w L v)) (ht : t ≤ 2000) : ∃ N1 N, f_M_papers_0 M = some N1 ∧ rd (N1.1 12) 37 (iI L) = some (iI (w L)) ∧ ∃ N2, wr N1 12 37 (iI L) (iI v) = some N2 ∧ f_M_yieldOf_0 (iI t) N2 = some (iI (yiS C (uw w L v) t), N) ∧ (∀ q, q ≠ 12 → q ≠ 16 → N.1 q = M.1 q) ∧ N.2 = M.2 := by
  obtain ⟨M1, m1, m2, m3⟩ := M_papers hw
  have wM : wr M1 12 37 (iI (L : Int)) (iI v) = some (u1 M1 12 L (iI v)) := by rw [wr_iI (by omega) (by omega) (by omega), Int.toNat_natCast]
  have wm : WyM 12 (uw w L v) (u1 M1 12 L (iI v)) := fun j hj => by
    rw [u1_at]
    by_cases ej : j = L
    · rw [if_pos ⟨rfl, ej⟩, ej, uw_eq]
    · rw [if_neg (fun q => ej q.2), uw_ne ej]; exact m2 j hj
  obtain ⟨M2, n1, n2⟩ := M_yield (t := t) hO (hC.fr (fun i _ => by rw [u1_ne (by decide), m3.1 0 (by decide)]) (fun q i _ _ _ _ => by rw [u1_ne (by omega), m3.1 q (by omega)])) wm ok ht
  exact ⟨M1, M2, m1, rdw m2 L (by omega) rfl, _, wM, n1, fun q a b => by rw [n2.1 q b, u1_ne a, m3.1 q a], n2.2.trans m3.2⟩

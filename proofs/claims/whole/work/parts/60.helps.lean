theorem X_with {C : SS} {w : Nat → Int} {X : Mm} {t L : Nat} {v : Int} (hO : CfgOk C) (hC : CfgX C X) (hw : WyX 32 w X) (hL : L < 18) (ok : WyOk C (uw w L v)) (oz : w0 C (uw w L v)) (ht : t ≤ 2000) : ∃ Y, f_Q_withCards_48 (iI L) (iI v) (iI t) X = some (iI (yiS C (uw w L v) t), Y) ∧ OnP X Y := by
  obtain ⟨X1, x1, x2, x3, x4⟩ := X_Vcopy_49_32 hw
  have wX : wr X1 50 18 (iI (L : Int)) (iI v) = some (u1 X1 50 L (iI v)) := by rw [wr_iI (by omega) (by omega) (by omega), Int.toNat_natCast]
  have wx : WyX 49 (uw w L v) (u1 X1 50 L (iI v)) := by
    refine ⟨fun j hj => ?_, fun j hj => ?_, ?_⟩
    · rw [u1_at]
      by_cases ej : j = L
      · rw [if_pos ⟨rfl, ej⟩, ej, uw_eq]
      · rw [if_neg (fun q => ej q.2), uw_ne ej]; exact x2.1 j hj
    · rw [u1_ne (by decide), uw_ne (by omega)]; exact x2.2.1 j hj
    · rw [u1_ne (by decide), uw_ne (by omega)]; exact x2.2.2
  obtain ⟨X2, y1, y2⟩ := X_tried (t := t) hO (hC.fr (fun q _ _ => by rw [u1_ne (by omega)]; exact x3 q (by omega))) wx ok oz ht
  refine ⟨X2, ?_, fun q hq => by rw [y2.1 q (by omega), u1_ne (by omega), x3 q (by omega)], y2.2.trans x4⟩
  unfold f_Q_withCards_48
  rw [x1, Option.bind_some, wX, Option.bind_some, y1, Option.bind_some]
theorem M_with {C : SS} {w : Nat → Int} {M : Mm} {t L : Nat} {v : Int} (hO : CfgOk C) (hC : CfgM C M) (hw : WyM 10 w M) (hL : L < 18) (ok : WyOk C (uw w L v)) (ht : t ≤ 2000) : ∃ N1 N, f_M_papers_0 M = some N1 ∧ rd (N1.1 12) 37 (iI L) = some (iI (w L)) ∧ ∃ N2, wr N1 12 37 (iI L) (iI v) = some N2 ∧ f_M_yieldOf_0 (iI t) N2 = some (iI (yiS C (uw w L v) t), N) ∧ (∀ q, q ≠ 12 → q ≠ 16 → N.1 q = M.1 q) ∧ N.2 = M.2 := by
  obtain ⟨M1, m1, m2, m3⟩ := M_papers hw
  have wM : wr M1 12 37 (iI (L : Int)) (iI v) = some (u1 M1 12 L (iI v)) := by rw [wr_iI (by omega) (by omega) (by omega), Int.toNat_natCast]
  have wm : WyM 12 (uw w L v) (u1 M1 12 L (iI v)) := fun j hj => by
    rw [u1_at]
    by_cases ej : j = L
    · rw [if_pos ⟨rfl, ej⟩, ej, uw_eq]
    · rw [if_neg (fun q => ej q.2), uw_ne ej]; exact m2 j hj
  obtain ⟨M2, n1, n2⟩ := M_yield (t := t) hO (hC.fr (fun i _ => by rw [u1_ne (by decide), m3.1 0 (by decide)]) (fun q i _ _ _ _ => by rw [u1_ne (by omega), m3.1 q (by omega)])) wm ok ht
  exact ⟨M1, M2, m1, rdw m2 L (by omega) rfl, _, wM, n1, fun q a b => by rw [n2.1 q b, u1_ne a, m3.1 q a], n2.2.trans m3.2⟩
def hpS (w y : Nat → Int) (c : Nat) (p : Int × Int) : Int × Int := if w c = 9 then p else if y c ≤ p.1 then p else (y c, (c : Int))
def hiS (w y : Nat → Int) (b : Nat) (p : Int × Int) : Nat → Int × Int
  | 0 => p
  | k + 1 => hpS w y (3 * b + k) (hiS w y b p k)
def hoS (w y : Nat → Int) (K : Nat) (p : Int × Int) : Nat → Int × Int
  | 0 => p
  | b + 1 => hiS w y b (hoS w y K p b) K
theorem hp_bd {w y : Nat → Int} {c : Nat} {p : Int × Int} (hp : 0 ≤ p.1 ∧ p.1 ≤ 120000) (hy : w c ≠ 9 → y c ≤ 120000) : 0 ≤ (hpS w y c p).1 ∧ (hpS w y c p).1 ≤ 120000 := by
  unfold hpS
  split
  · exact hp
  · rename_i h
    split
    · exact hp
    · exact ⟨by omega, hy h⟩
theorem uw_ok {C : SS} {w : Nat → Int} {b k : Nat} {v : Int} (hO : CfgOk C) (hW : WyOk C w) (h0 : w0 C w) (hb : (b : Int) < C 0 1) (hk : (k : Int) < C 0 0) (h1 : 0 ≤ v) (h9 : v ≤ 9) : WyOk C (uw w (3 * b + k) v) ∧ w0 C (uw w (3 * b + k) v) := by
  have hb6 := sz6 hO hb
  have hk3 := hO.2.1
  refine ⟨⟨fun b2 k2 hb2 hk2 => ?_, by rw [uw_ne (by omega)]; exact hW.2⟩, fun b2 k2 hb2 hk2 hn => ?_⟩
  · have := hW.1 b2 k2 hb2 hk2
    have := sz6 hO hb2
    rw [uw_ne (c := 18 + (3 * b2 + k2)) (by omega)]
    unfold uw
    split <;> omega
  · have := h0 b2 k2 hb2 hk2 hn
    rw [uw_ne (c := 18 + (3 * b2 + k2)) (by omega), uw_ne (c := 3 * b2 + k2) (fun q => hn (by
      have : b2 = b := by omega
      have : k2 = k := by omega
      omega))]
    exact this

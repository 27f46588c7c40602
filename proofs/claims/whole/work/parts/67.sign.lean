/-! the sign of a state: what the next minutes hang on -/
def lasN (S : SS) (b : Nat) : Nat := if S 2 b = -2 then 3 else (S 2 b).toNat
def lefN (S : SS) (b : Nat) : Nat := if S 0 b = 0 then 0 else (S 1 b - S 14 0).toNat
def remN (C S : SS) (b : Nat) : Nat := if C 5 b = 0 then 0 else (S 3 b % C 5 b).toNat
def dgB (C S : SS) (b : Nat) : Nat := ((((((S 0 b).toNat * 2 ^ 2 + lasN S b) * 2 ^ 7 + lefN S b) * 2 ^ 7 + remN C S b) * 2 ^ 4 + (S 4 (3 * b)).toNat) * 2 ^ 4 + (S 4 (3 * b + 1)).toNat) * 2 ^ 4 + (S 4 (3 * b + 2)).toNat
def rwB (C S : SS) (n j : Nat) : Nat := (if 2 * j < n then dgB C S (2 * j) else 0) + (if 2 * j + 1 < n then dgB C S (2 * j + 1) else 0) * 2 ^ 32
def wtN (S : SS) : Nat → Nat
  | 0 => 0
  | k + 1 => wtN S k * 2 ^ 20 + (S 16 k).toNat
def nxN (C : SS) (t : Int) : Nat → Nat
  | 0 => 0
  | i + 1 => nxN C t i * 2 ^ 10 + (C 7 i - (t - C 8 i) % C 7 i).toNat
def rwS (C S : SS) (j : Nat) : Nat := if j < 3 then rwB C S (C 0 1).toNat j else if j = 3 then wtN S (C 0 0).toNat else nxN C (S 14 0) (C 0 2).toNat
/-- bounds of what is signed -/
def SgOk (C S : SS) : Prop := (∀ b : Nat, (b : Int) < C 0 1 → 0 ≤ S 0 b ∧ S 0 b ≤ 2 ∧ (S 2 b = -2 ∨ (0 ≤ S 2 b ∧ S 2 b ≤ 2)) ∧ (S 0 b ≠ 0 → S 14 0 ≤ S 1 b) ∧ S 1 b ≤ S 14 0 + 120 ∧ 0 ≤ S 1 b ∧ 0 ≤ S 3 b ∧ S 3 b ≤ 10000) ∧ (∀ c, c < 18 → 0 ≤ S 4 c ∧ S 4 c ≤ 9) ∧ (∀ k : Nat, (k : Int) < C 0 0 → 0 ≤ S 16 k ∧ S 16 k < 1048576) ∧ (∀ i : Nat, (i : Int) < C 0 2 → C 8 i < S 14 0) ∧ 0 ≤ S 14 0 ∧ S 14 0 ≤ 10000
theorem rem_b {C S : SS} {b : Nat} (hO : CfgOk C) (h : 0 ≤ S 3 b) : remN C S b < 128 := by
  have := hO.2.2.2.2.2.2.1 b
  unfold remN
  split
  · omega
  · have := Int.emod_lt_of_pos (S 3 b) (show 0 < C 5 b by omega)
    have := Int.emod_nonneg (S 3 b) (show C 5 b ≠ 0 by omega)
    omega
theorem dg_b {C S : SS} {b : Nat} (hO : CfgOk C) (h : SgOk C S) (hb : (b : Int) < C 0 1) : dgB C S b < 2 ^ 30 := by
  obtain ⟨a1, a2, a3, a4, a5, a6, a7, a8⟩ := h.1 b hb
  have r := rem_b (b := b) hO a7
  have hb6 := sz6 hO hb
  have s0 := h.2.1 (3 * b) (by omega)
  have s1 := h.2.1 (3 * b + 1) (by omega)
  have s2 := h.2.1 (3 * b + 2) (by omega)
  have la : lasN S b < 4 := by unfold lasN; split <;> omega
  have le : lefN S b < 128 := by unfold lefN; split <;> omega
  unfold dgB
  generalize lasN S b = x1 at *
  generalize lefN S b = x2 at *
  generalize remN C S b = x3 at *
  omega
theorem P_rem0 {a : Int} (ha : 0 ≤ a) (ha2 : a < 2147483648) : f_P_remainder (iI a) (iI 0) = some (iI 0) := by
  unfold f_P_remainder
  rw [if_pos (by rw [← l0]; exact Int32.le_refl 0), l0]
theorem X_signB {C S : SS} {tt : Int} {X : Mm} {b : Nat} (hO : CfgOk C) (hC : CfgX C X) (h : RelX 52 S tt X) (hs : SgOk C S) (hb : (b : Int) < C 0 1) : f_L_signOfBench_52 (iI b) X = some (lN (dgB C S b)) := by
  obtain ⟨a1, a2, a3, a4, a5, a6, a7, a8⟩ := hs.1 b hb
  have hb6 := sz6 hO hb
  have hc5 := hO.2.2.2.2.2.2.1 b
  have r := rem_b (b := b) hO a7
  have la : lasN S b < 4 := by unfold lasN; split <;> omega
  have le : lefN S b < 128 := by unfold lefN; split <;> omega
  have r0 : rd (X.1 55) 6 (iI (b : Int)) = some (iI (S 0 b)) := h.rd 0 b (fx 0 rfl) (by decide) (by simp only [szX]; omega) rfl
  have r2 : rd (X.1 56) 6 (iI (b : Int)) = some (iI (S 2 b)) := h.rd 2 b (fx 2 rfl) (by decide) (by simp only [szX]; omega) rfl
  have r1 : rd (X.1 57) 6 (iI (b : Int)) = some (iI (S 1 b)) := h.rd 1 b (fx 1 rfl) (by decide) (by simp only [szX]; omega) rfl
  have r3 : rd (X.1 58) 6 (iI (b : Int)) = some (iI (S 3 b)) := h.rd 3 b (fx 3 rfl) (by decide) (by simp only [szX]; omega) rfl
  have r5 : rd (X.1 5) 6 (iI (b : Int)) = some (iI (C 5 b)) := by
    rw [rd_iI (by omega) (by omega) (by omega), Int.toNat_natCast, (hC.2.2.2.1 b hb6 hb).2.2]
  have v14 : X.1 52 14 = iI (S 14 0) := h.1 14 0 (fx 14 rfl) (by decide)
  have ml : f_L_minutesLeft_52 (iI (b : Int)) X = some (iI (lefN S b : Int)) := by
    unfold f_L_minutesLeft_52
    have c0 : (iI (S 0 b) = 0) ↔ S 0 b = 0 := by rw [l0]; exact iI_eq (by omega) (by omega) (by omega) (by omega)
    rw [r0, Option.bind_some]
    by_cases e : S 0 b = 0
    · rw [if_pos (c0.mpr e)]; unfold lefN; rw [if_pos e]; rfl
    · rw [if_neg (fun q => e (c0.mp q)), r1, Option.bind_some, v14, iI_sub]
      unfold lefN; rw [if_neg e]
      have := a4 e
      congr 2; omega
  have rm : f_P_remainder (iI (S 3 b)) (iI (C 5 b)) = some (iI (remN C S b : Int)) := by
    unfold remN
    by_cases e : C 5 b = 0
    · rw [if_pos e, e, P_rem0 (by omega) (by omega)]; rfl
    · rw [if_neg e, P_rem (by omega) (by omega) (by omega) (by omega)]
      have := Int.emod_nonneg (S 3 b) (show C 5 b ≠ 0 by omega)
      congr 2; omega
  have d0 : iI (S 0 b) = iI ((S 0 b).toNat : Int) := by congr 1; omega
  have tail : ∀ t0 : Nat, t0 = lasN S b → j_L_signOfBench_52_32 (iI (b : Int)) (iI (t0 : Int)) ((Int32.toInt64 (iI (S 0 b))) <<< (Int32.toInt64 2 &&& 63)) X = some (lN (dgB C S b)) := by
    intro t0 e0
    subst e0
    unfold j_L_signOfBench_52_32
    rw [ml, Option.bind_some, Option.bind_some, r3, Option.bind_some, r5, Option.bind_some, rm, Option.bind_some, Option.bind_some, d0, i64 (n := (S 0 b).toNat) (by omega)]
    have e1 := shp (S 0 b).toNat (m := lasN S b) 2 (by decide) (by omega)
    have e2 := shp ((S 0 b).toNat * 2 ^ 2 + lasN S b) (m := lefN S b) 7 (by decide) (by omega)
    have e3 := shp (((S 0 b).toNat * 2 ^ 2 + lasN S b) * 2 ^ 7 + lefN S b) (m := remN C S b) 7 (by decide) (by omega)
    have g2 : (Int32.toInt64 2 &&& 63) = ((nI 2).toInt64 &&& 63) := rfl
    have g7 : (Int32.toInt64 7 &&& 63) = ((nI 7).toInt64 &&& 63) := rfl
    rw [g2, g7, e1, e2, e3]
    have loop := loop_up (σ := Int64 × Int32) (γ := Option Int64) (fun f s => lp_L_signOfBench_52_75 f (iI b) s.1 s.2 X) 3 (fun i s => s.2 = iI (i : Int) ∧ s.1 = lN (match i with | 0 => (((S 0 b).toNat * 2 ^ 2 + lasN S b) * 2 ^ 7 + lefN S b) * 2 ^ 7 + remN C S b | 1 => ((((S 0 b).toNat * 2 ^ 2 + lasN S b) * 2 ^ 7 + lefN S b) * 2 ^ 7 + remN C S b) * 2 ^ 4 + (S 4 (3 * b)).toNat | 2 => (((((S 0 b).toNat * 2 ^ 2 + lasN S b) * 2 ^ 7 + lefN S b) * 2 ^ 7 + remN C S b) * 2 ^ 4 + (S 4 (3 * b)).toNat) * 2 ^ 4 + (S 4 (3 * b + 1)).toNat | _ => dgB C S b)) (fun s => some s.1) ?_ ?_ FW (FW_gt (by omega)) (lN ((((S 0 b).toNat * 2 ^ 2 + lasN S b) * 2 ^ 7 + lefN S b) * 2 ^ 7 + remN C S b), iI 0) ⟨rfl, rfl⟩
    · obtain ⟨⟨x, y⟩, ⟨e1, e2⟩, ev⟩ := loop
      dsimp only at e2
      rw [l0]
      exact ev.trans (by rw [e2]; rfl)
    · rintro f i ⟨x, y⟩ hi ⟨ey, ex⟩
      dsimp only at ex ey
      subst ex; subst ey
      have c0 : ¬ (3 ≤ iI (i : Int)) := by rw [l3, iI_le (by omega) (by omega) (by omega) (by omega)]; omega
      have rc : f_P_cell (iI (b : Int)) (iI (i : Int)) = some (iI (3 * b + i)) := by unfold f_P_cell; rw [ixc]
      have s4 := hs.2.1 (3 * b + i) (by omega)
      have rs : rd (X.1 53) 18 (iI (3 * (b : Int) + i)) = some (iI ((S 4 (3 * b + i)).toNat : Int)) := by
        rw [show rd (X.1 53) 18 (iI (3 * (b : Int) + i)) = some (iI (S 4 (3 * b + i))) from h.rd 4 (3 * b + i) (fx 4 rfl) (by decide) (by simp only [szX]; omega) (by simp only [ixX]; omega)]
        congr 2; omega
      have g4 : (Int32.toInt64 4 &&& 63) = ((nI 4).toInt64 &&& 63) := rfl
      refine ⟨(_, iI ((i + 1 : Nat) : Int)), ?_, rfl, rfl⟩
      show blp_L_signOfBench_52_75 (lp_L_signOfBench_52_75 f) (iI b) _ (iI (i : Int)) X = lp_L_signOfBench_52_75 f (iI b) _ (iI ((i + 1 : Nat) : Int)) X
      unfold blp_L_signOfBench_52_75
      rw [if_neg c0, rc, Option.bind_some, rs, Option.bind_some, Option.bind_some, g4, shp _ 4 (by decide) (by omega), l1, iI_add]
      have q : i = 0 ∨ i = 1 ∨ i = 2 := by omega
      rcases q with rfl | rfl | rfl <;> rfl
    · rintro f ⟨x, y⟩ ⟨ey, ex⟩
      dsimp only at ex ey
      subst ex; subst ey
      rfl
  unfold f_L_signOfBench_52
  have c2 : (iI (S 2 b) = -2) ↔ S 2 b = -2 := by rw [lm2]; exact iI_eq (by omega) (by omega) (by omega) (by omega)
  rw [r0, Option.bind_some, r2, Option.bind_some]
  by_cases e : S 2 b = -2
  · rw [if_pos (c2.mpr e), l3]
    exact tail 3 (by unfold lasN; rw [if_pos e])
  · rw [if_neg (fun q => e (c2.mp q)), Option.bind_some, show iI (S 2 b) = iI ((lasN S b : Nat) : Int) by unfold lasN; rw [if_neg e]; congr 1; omega]
    exact tail _ rfl

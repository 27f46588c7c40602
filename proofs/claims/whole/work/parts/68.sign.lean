/-- five longs from 5 m on hold g -/
def Rw (X : Mm) (m : Nat) (g : Nat → Nat) (Z : Mm) : Prop := Z.1 = X.1 ∧ (∀ j, j < 5 → Z.2 104 (5 * m + j) = lN (g j)) ∧ ∀ i, i < 5 * m ∨ 5 * m + 5 ≤ i → Z.2 104 i = X.2 104 i
theorem Rw.put {X Z : Mm} {m j v : Nat} {g : Nat → Nat} (h : Rw X m g Z) (hj : j < 5) : Rw X m (fun i => if i = j then v else g i) (u2 Z 104 (5 * m + j) (lN v)) := by
  refine ⟨h.1, fun i hi => ?_, fun i hi => ?_⟩
  · rw [u2_at]
    by_cases e : i = j
    · show _ = lN (if i = j then v else g i)
      rw [if_pos ⟨rfl, by omega⟩, if_pos e]
    · show _ = lN (if i = j then v else g i)
      rw [if_neg (by omega), if_neg e]; exact h.2.1 i hi
  · rw [u2_at, if_neg (by omega)]; exact h.2.2 i hi
theorem Rw.cg {X Z : Mm} {m : Nat} {g g2 : Nat → Nat} (h : Rw X m g Z) (e : ∀ j, j < 5 → g2 j = g j) : Rw X m g2 Z := ⟨h.1, fun j hj => by rw [e j hj]; exact h.2.1 j hj, h.2.2⟩
theorem Rw.rd {X Z : Mm} {m : Nat} {g : Nat → Nat} (h : Rw X m g Z) (hm : m < 2000) {j : Nat} (hj : j < 5) {z : Int} (hz : z = 5 * (m : Int) + j) : rdL (Z.2 104) 10000 (iI z) = some (lN (g j)) := by
  subst hz
  rw [rdL_iI (by omega) (by omega) (by omega), show (5 * (m : Int) + j).toNat = 5 * m + j by omega, h.2.1 j hj]
theorem Rw.wr {X Z : Mm} {m : Nat} {g : Nat → Nat} (h : Rw X m g Z) (hm : m < 2000) {j v : Nat} (hj : j < 5) {z : Int} (hz : z = 5 * (m : Int) + j) : ∃ Z2, wrL Z 104 10000 (iI z) (lN v) = some Z2 ∧ Rw X m (fun i => if i = j then v else g i) Z2 := by
  subst hz
  exact ⟨_, by rw [wrL_iI (by omega) (by omega) (by omega), show (5 * (m : Int) + j).toNat = 5 * m + j by omega], h.put hj⟩
theorem X_no2 {C D : SS} {tt : Int} {X : Mm} {s : Nat} (hO : CfgOk C) (hC : CfgX C X) (h : RelX 52 D tt X) (hs : (s : Int) < C 0 2) (ht : C 8 s < D 14 0) (ht2 : D 14 0 ≤ 10000) : f_L_nextOrder_52 (iI s) X = some (iI (D 14 0 + C 7 s - (D 14 0 - C 8 s) % C 7 s)) := by
  have hs4 := hO.2.2.2.2.2.1
  obtain ⟨o1, o2, o3, o4, o5, o6⟩ := hO.2.2.2.2.2.2.2.2 s hs
  have hX := hC.2.2.2.2 s (by omega) hs
  have g : ∀ (f : Nat → Int32), rd f 4 (iI (s : Int)) = some (f s) := fun f => by
    rw [rd_iI (by omega) (by omega) (by omega), Int.toNat_natCast]
  have v14 : X.1 52 14 = iI (D 14 0) := h.1 14 0 (fx 14 rfl) (by decide)
  unfold f_L_nextOrder_52
  rw [g, Option.bind_some, hX.2.2, v14]
  have c0 : (iI (C 8 s) ≤ iI (D 14 0)) ↔ C 8 s ≤ D 14 0 := iI_le (by omega) (by omega) (by omega) (by omega)
  rw [if_pos (c0.mpr (by omega)), g, Option.bind_some, hX.2.1, iI_sub, P_rem (by omega) (by omega) (by omega) (by omega), Option.bind_some, iI_add, iI_sub]
theorem wt_b {S : SS} : ∀ n : Nat, (∀ k, k < n → (S 16 k).toNat < 1048576) → wtN S n < 1048576 ^ n
  | 0, _ => by show 0 < 1; omega
  | n + 1, h => by
    have a := wt_b n (fun k hk => h k (by omega))
    have b := h n (by omega)
    show wtN S n * 2 ^ 20 + (S 16 n).toNat < 1048576 ^ (n + 1)
    rw [Nat.pow_succ]
    omega
theorem nx_b {C : SS} {t : Int} : ∀ n : Nat, (∀ i, i < n → (C 7 i - (t - C 8 i) % C 7 i).toNat < 1024) → nxN C t n < 1024 ^ n
  | 0, _ => by show 0 < 1; omega
  | n + 1, h => by
    have a := nx_b n (fun k hk => h k (by omega))
    have b := h n (by omega)
    show nxN C t n * 2 ^ 10 + _ < 1024 ^ (n + 1)
    rw [Nat.pow_succ]
    omega
theorem X_sign1 {X : Mm} {m : Nat} (hm : m < 2000) : ∃ Z, f_L_sign_52_104 (iI (5 * (m : Int))) X = j_L_sign_52_104_19 (iI (5 * (m : Int))) Z ∧ Rw X m (fun _ => 0) Z := by
  have loop := loop_up (σ := Int32 × Mm) (γ := Option Mm) (fun f s => lp_L_sign_52_104_2 f (iI (5 * (m : Int))) s.1 s.2) 5 (fun i s => s.1 = iI (i : Int) ∧ s.2.1 = X.1 ∧ (∀ j, j < i → s.2.2 104 (5 * m + j) = lN 0) ∧ ∀ i, i < 5 * m ∨ 5 * m + 5 ≤ i → s.2.2 104 i = X.2 104 i) (fun s => j_L_sign_52_104_19 (iI (5 * (m : Int))) s.2) ?_ ?_ FW (FW_gt (by omega)) (iI 0, X) ⟨rfl, rfl, fun j hj => absurd hj (by omega), fun _ _ => rfl⟩
  · obtain ⟨⟨x, Z⟩, ⟨-, e1, e2, e3⟩, ev⟩ := loop
    exact ⟨Z, by unfold f_L_sign_52_104; rw [l0]; exact ev, e1, e2, e3⟩
  · rintro f i ⟨x, Z⟩ hi ⟨ex, e1, e2, e3⟩
    dsimp only at ex e1 e2 e3
    subst ex
    have c0 : ¬ (5 ≤ iI (i : Int)) := by rw [l5, iI_le (by omega) (by omega) (by omega) (by omega)]; omega
    refine ⟨(iI ((i + 1 : Nat) : Int), u2 Z 104 (5 * m + i) (lN 0)), ?_, rfl, e1, fun j hj => ?_, fun j hj => ?_⟩
    · show blp_L_sign_52_104_2 (lp_L_sign_52_104_2 f) (iI (5 * (m : Int))) (iI (i : Int)) Z = lp_L_sign_52_104_2 f _ _ _
      unfold blp_L_sign_52_104_2
      rw [if_neg c0, iI_add, wrL_iI (by omega) (by omega) (by omega), show (5 * (m : Int) + i).toNat = 5 * m + i by omega, Option.bind_some, l1, iI_add]
      rfl
    · show (u2 Z 104 (5 * m + i) (lN 0)).2 104 (5 * m + j) = lN 0
      rw [u2_at]
      by_cases e : j = i
      · rw [if_pos ⟨rfl, by omega⟩]
      · rw [if_neg (by omega)]; exact e2 j (by omega)
    · show (u2 Z 104 (5 * m + i) (lN 0)).2 104 j = _
      rw [u2_at, if_neg (by omega)]; exact e3 j hj
  · rintro f ⟨x, Z⟩ ⟨ex, e1, e2, e3⟩
    dsimp only at ex e1 e2 e3
    subst ex
    rfl
theorem CfgX.eq {C : SS} {X Z : Mm} (h : CfgX C X) (e : Z.1 = X.1) : CfgX C Z := by unfold CfgX; rw [e]; exact h
theorem RelX.eq {p : Nat} {S : SS} {tt : Int} {X Z : Mm} (h : RelX p S tt X) (e : Z.1 = X.1) : RelX p S tt Z := by unfold RelX; rw [e]; exact h
theorem rwB_s {C S : SS} {n j : Nat} : rwB C S (n + 1) j = if j = n / 2 then rwB C S n j + dgB C S n * (if n % 2 = 0 then 1 else 2 ^ 32) else rwB C S n j := by
  unfold rwB
  by_cases e : j = n / 2
  · rw [if_pos e]
    rcases Nat.mod_two_eq_zero_or_one n with h | h
    · rw [if_pos h, if_pos (show 2 * j < n + 1 by omega), if_neg (show ¬ 2 * j + 1 < n + 1 by omega), if_neg (show ¬ 2 * j < n by omega), if_neg (show ¬ 2 * j + 1 < n by omega), show 2 * j = n by omega]; omega
    · rw [if_neg (show ¬ n % 2 = 0 by omega), if_pos (show 2 * j < n + 1 by omega), if_pos (show 2 * j + 1 < n + 1 by omega), if_pos (show 2 * j < n by omega), if_neg (show ¬ 2 * j + 1 < n by omega), show 2 * j + 1 = n by omega]; omega
  · rw [if_neg e]
    by_cases e1 : 2 * j < n
    · rw [if_pos e1, if_pos (by omega)]
      by_cases e2 : 2 * j + 1 < n
      · rw [if_pos e2, if_pos (by omega)]
      · rw [if_neg e2, if_neg (by omega)]
    · rw [if_neg e1, if_neg (by omega), if_neg (by omega), if_neg (by omega)]
theorem X_sign2 {C S : SS} {tt : Int} {X Z : Mm} {m : Nat} (hO : CfgOk C) (hC : CfgX C X) (h : RelX 52 S tt X) (hs : SgOk C S) (hm : m < 2000) (hz : Rw X m (fun _ => 0) Z) : ∃ Y, j_L_sign_52_104_19 (iI (5 * (m : Int))) Z = j_L_sign_52_104_66 (iI (5 * (m : Int))) Y ∧ Rw X m (fun j => if j < 3 then rwB C S (C 0 1).toNat j else 0) Y := by
  have hb1 := hO.2.2.1
  have hb6 := hO.2.2.2.1
  have loop := loop_up (σ := Int32 × Mm) (γ := Option Mm) (fun f s => lp_L_sign_52_104_21 f (iI (5 * (m : Int))) s.1 s.2) (C 0 1).toNat (fun i s => s.1 = iI (i : Int) ∧ Rw X m (fun j => if j < 3 then rwB C S i j else 0) s.2) (fun s => j_L_sign_52_104_66 (iI (5 * (m : Int))) s.2) ?_ ?_ FW (FW_gt (by omega)) (iI 0, Z) ⟨rfl, hz.cg (fun j hj => by
    split
    · unfold rwB; rw [if_neg (by omega), if_neg (by omega)]
    · rfl)⟩
  · obtain ⟨⟨x, Y⟩, ⟨-, e1⟩, ev⟩ := loop
    exact ⟨Y, by unfold j_L_sign_52_104_19; rw [l0]; exact ev, e1⟩
  · rintro f i ⟨x, Y⟩ hi ⟨ex, r⟩
    dsimp only at ex r
    subst ex
    have hib : (i : Int) < C 0 1 := by omega
    have cY := hC.eq r.1
    have dg := dg_b hO hs hib
    have sg := X_signB hO cY (h.eq r.1) hs hib
    have c0 : ¬ (iI (C 0 1) ≤ iI (i : Int)) := by rw [iI_le (by omega) (by omega) (by omega) (by omega)]; omega
    have dv : dvI (iI (i : Int)) 2 = some (iI ((i / 2 : Nat) : Int)) := by
      unfold dvI
      rw [if_neg (by decide)]
      congr 1
      rw [l2, ← Int32.toInt_inj, Int32.toInt_div, iI_toInt (by omega) (by omega), iI_toInt (by omega) (by omega), iI_toInt (by omega) (by omega), Int.tdiv_eq_ediv_of_nonneg (by omega), bmod32 (by omega) (by omega)]
      omega
    have rm : rmI (iI (i : Int)) 2 = some (iI ((i : Int) % 2)) := by rw [l2]; exact rmI_iI (by omega) (by omega) (by omega) (by omega)
    have rr := r.rd hm (j := i / 2) (by omega) (z := 5 * (m : Int) + ((i / 2 : Nat) : Int)) rfl
    rw [if_pos (by omega)] at rr
    have old : rwB C S i (i / 2) = if i % 2 = 0 then 0 else dgB C S (i - 1) := by
      unfold rwB
      rcases Nat.mod_two_eq_zero_or_one i with h | h
      · rw [if_pos h, if_neg (show ¬ 2 * (i / 2) < i by omega), if_neg (show ¬ 2 * (i / 2) + 1 < i by omega)]
      · rw [if_neg (show ¬ i % 2 = 0 by omega), if_pos (show 2 * (i / 2) < i by omega), if_neg (show ¬ 2 * (i / 2) + 1 < i by omega), show 2 * (i / 2) = i - 1 by omega]; omega
    have g32 : (Int32.toInt64 32 &&& 63) = ((nI 32).toInt64 &&& 63) := rfl
    have g0 : (Int32.toInt64 0 &&& 63) = ((nI 0).toInt64 &&& 63) := rfl
    obtain ⟨W, w1, w2⟩ := r.wr hm (j := i / 2) (v := rwB C S (i + 1) (i / 2)) (by omega) (z := 5 * (m : Int) + ((i / 2 : Nat) : Int)) rfl
    refine ⟨(iI ((i + 1 : Nat) : Int), W), ?_, rfl, w2.cg (fun j hj => ?_)⟩
    · show blp_L_sign_52_104_21 (lp_L_sign_52_104_21 f) (iI (5 * (m : Int))) (iI (i : Int)) Y = lp_L_sign_52_104_21 f _ _ _
      unfold blp_L_sign_52_104_21 j_L_sign_52_104_57
      rw [cY.2.1, if_neg c0, dv, Option.bind_some, iI_add, rr, Option.bind_some, sg, Option.bind_some, rm, Option.bind_some]
      have nw := rwB_s (C := C) (S := S) (n := i) (j := i / 2)
      rw [if_pos rfl] at nw
      rcases Nat.mod_two_eq_zero_or_one i with h2 | h2
      · rw [if_pos (by rw [l0]; congr 1; omega), g0, wb_shl _ (by decide)]
        rw [if_pos h2] at nw old
        rw [old, show lN 0 ||| lN (dgB C S i * 2 ^ 0) = lN (rwB C S (i + 1) (i / 2)) by
          rw [nw, old, g_or' (k := 0) (p := 2 ^ 0) (a := 0) (b := dgB C S i) rfl (by decide) (by omega)]]
        rw [w1, Option.bind_some, l1, iI_add]
        rfl
      · rw [if_neg (by rw [l0, iI_eq (by omega) (by omega) (by omega) (by omega)]; omega), g32, wb_shl _ (by decide)]
        rw [if_neg (by omega)] at nw old
        have dg2 := dg_b (b := i - 1) hO hs (by omega)
        rw [old, show lN (dgB C S (i - 1)) ||| lN (dgB C S i * 2 ^ 32) = lN (rwB C S (i + 1) (i / 2)) by
          rw [nw, old, g_or' (k := 32) (p := 2 ^ 32) (a := dgB C S (i - 1)) (b := dgB C S i) rfl (by omega) (by omega)]]
        rw [w1, Option.bind_some, l1, iI_add]
        rfl
    · by_cases e : j = i / 2
      · rw [if_pos e, if_pos (by omega), e]
      · rw [if_neg e]
        split
        · rw [rwB_s, if_neg e]
        · rfl
  · rintro f ⟨x, Y⟩ ⟨ex, r⟩
    dsimp only at ex r
    subst ex
    show blp_L_sign_52_104_21 (lp_L_sign_52_104_21 f) (iI (5 * (m : Int))) (iI ((C 0 1).toNat : Int)) Y = _
    unfold blp_L_sign_52_104_21
    have c0 : iI (C 0 1) ≤ iI ((C 0 1).toNat : Int) := (iI_le (by omega) (by omega) (by omega) (by omega)).mpr (by omega)
    rw [(hC.eq r.1).2.1, if_pos c0]
theorem X_sign3 {C S : SS} {tt : Int} {X Z : Mm} {m : Nat} (hO : CfgOk C) (hC : CfgX C X) (h : RelX 52 S tt X) (hs : SgOk C S) (hm : m < 2000) (hz : Rw X m (fun j => if j < 3 then rwB C S (C 0 1).toNat j else 0) Z) : ∃ Y, j_L_sign_52_104_66 (iI (5 * (m : Int))) Z = j_L_sign_52_104_106 (iI (5 * (m : Int))) Y ∧ Rw X m (fun j => if j < 3 then rwB C S (C 0 1).toNat j else if j = 3 then wtN S (C 0 0).toNat else 0) Y := by
  have hk1 := hO.1
  have hk3 := hO.2.1
  have loop := loop_up (σ := Int32 × Mm) (γ := Option Mm) (fun f s => lp_L_sign_52_104_68 f (iI (5 * (m : Int))) s.1 s.2) (C 0 0).toNat (fun i s => s.1 = iI (i : Int) ∧ Rw X m (fun j => if j < 3 then rwB C S (C 0 1).toNat j else if j = 3 then wtN S i else 0) s.2) (fun s => j_L_sign_52_104_106 (iI (5 * (m : Int))) s.2) ?_ ?_ FW (FW_gt (by omega)) (iI 0, Z) ⟨rfl, hz.cg (fun j hj => by
    split
    · rfl
    · split <;> rfl)⟩
  · obtain ⟨⟨x, Y⟩, ⟨-, e1⟩, ev⟩ := loop
    exact ⟨Y, by unfold j_L_sign_52_104_66; rw [l0]; exact ev, e1⟩
  · rintro f i ⟨x, Y⟩ hi ⟨ex, r⟩
    dsimp only at ex r
    subst ex
    have hik : (i : Int) < C 0 0 := by omega
    have cY := hC.eq r.1
    have b16 := hs.2.2.1 i hik
    have c0 : ¬ (iI (C 0 0) ≤ iI (i : Int)) := by rw [iI_le (by omega) (by omega) (by omega) (by omega)]; omega
    have r16 : rd (Y.1 62) 3 (iI (i : Int)) = some (iI ((S 16 i).toNat : Int)) := by
      rw [show rd (Y.1 62) 3 (iI (i : Int)) = some (iI (S 16 i)) from (h.eq r.1).rd 16 i (fx 16 rfl) (by decide) (by simp only [szX]; omega) rfl]
      congr 2; omega
    have rr := r.rd hm (j := 3) (by omega) (z := 5 * (m : Int) + 3) rfl
    rw [if_neg (by omega), if_pos rfl] at rr
    have g20 : (Int32.toInt64 20 &&& 63) = ((nI 20).toInt64 &&& 63) := rfl
    obtain ⟨W, w1, w2⟩ := r.wr hm (j := 3) (v := wtN S (i + 1)) (by omega) (z := 5 * (m : Int) + 3) rfl
    refine ⟨(iI ((i + 1 : Nat) : Int), W), ?_, rfl, w2.cg (fun j hj => ?_)⟩
    · show blp_L_sign_52_104_68 (lp_L_sign_52_104_68 f) (iI (5 * (m : Int))) (iI (i : Int)) Y = lp_L_sign_52_104_68 f _ _ _
      unfold blp_L_sign_52_104_68
      rw [cY.1, if_neg c0, l3, iI_add, rr, Option.bind_some, r16, Option.bind_some, g20, shp _ 20 (by decide) (by omega)]
      show (wrL Y 104 10000 (iI (5 * (m : Int) + 3)) (lN (wtN S (i + 1)))).bind _ = _
      rw [w1, Option.bind_some, l1, iI_add]
      rfl
    · by_cases e : j = 3
      · rw [if_pos e, if_neg (by omega), if_pos e]
      · rw [if_neg e, if_neg e, if_neg e]
  · rintro f ⟨x, Y⟩ ⟨ex, r⟩
    dsimp only at ex r
    subst ex
    show blp_L_sign_52_104_68 (lp_L_sign_52_104_68 f) (iI (5 * (m : Int))) (iI ((C 0 0).toNat : Int)) Y = _
    unfold blp_L_sign_52_104_68
    have c0 : iI (C 0 0) ≤ iI ((C 0 0).toNat : Int) := (iI_le (by omega) (by omega) (by omega) (by omega)).mpr (by omega)
    rw [(hC.eq r.1).1, if_pos c0]
theorem X_sign4 {C S : SS} {tt : Int} {X Z : Mm} {m : Nat} (hO : CfgOk C) (hC : CfgX C X) (h : RelX 52 S tt X) (hs : SgOk C S) (hm : m < 2000) (hz : Rw X m (fun j => if j < 3 then rwB C S (C 0 1).toNat j else if j = 3 then wtN S (C 0 0).toNat else 0) Z) : ∃ Y, j_L_sign_52_104_106 (iI (5 * (m : Int))) Z = some Y ∧ Rw X m (rwS C S) Y := by
  have hs0 := hO.2.2.2.2.1
  have hs4 := hO.2.2.2.2.2.1
  have loop := loop_up (σ := Int32 × Mm) (γ := Option Mm) (fun f s => lp_L_sign_52_104_108 f (iI (5 * (m : Int))) s.1 s.2) (C 0 2).toNat (fun i s => s.1 = iI (i : Int) ∧ Rw X m (fun j => if j < 3 then rwB C S (C 0 1).toNat j else if j = 3 then wtN S (C 0 0).toNat else nxN C (S 14 0) i) s.2) (fun s => some s.2) ?_ ?_ FW (FW_gt (by omega)) (iI 0, Z) ⟨rfl, hz.cg (fun j hj => by
    split
    · rfl
    · split <;> rfl)⟩
  · obtain ⟨⟨x, Y⟩, ⟨-, e1⟩, ev⟩ := loop
    exact ⟨Y, by unfold j_L_sign_52_104_106; rw [l0]; exact ev, e1⟩
  · rintro f i ⟨x, Y⟩ hi ⟨ex, r⟩
    dsimp only at ex r
    subst ex
    have his : (i : Int) < C 0 2 := by omega
    obtain ⟨o1, o2, o3, o4, o5, o6⟩ := hO.2.2.2.2.2.2.2.2 i his
    have cY := hC.eq r.1
    have b8 := hs.2.2.2.1 i his
    have b14 := hs.2.2.2.2.2
    have m0 := Int.emod_nonneg (S 14 0 - C 8 i) (show C 7 i ≠ 0 by omega)
    have m1 := Int.emod_lt_of_pos (S 14 0 - C 8 i) (show 0 < C 7 i by omega)
    have c0 : ¬ (iI (C 0 2) ≤ iI (i : Int)) := by rw [iI_le (by omega) (by omega) (by omega) (by omega)]; omega
    have v14 : Y.1 52 14 = iI (S 14 0) := (h.eq r.1).1 14 0 (fx 14 rfl) (by decide)
    have rr := r.rd hm (j := 4) (by omega) (z := 5 * (m : Int) + 4) rfl
    rw [if_neg (by omega), if_neg (by omega)] at rr
    have g10 : (Int32.toInt64 10 &&& 63) = ((nI 10).toInt64 &&& 63) := rfl
    obtain ⟨W, w1, w2⟩ := r.wr hm (j := 4) (v := nxN C (S 14 0) (i + 1)) (by omega) (z := 5 * (m : Int) + 4) rfl
    refine ⟨(iI ((i + 1 : Nat) : Int), W), ?_, rfl, w2.cg (fun j hj => ?_)⟩
    · show blp_L_sign_52_104_108 (lp_L_sign_52_104_108 f) (iI (5 * (m : Int))) (iI (i : Int)) Y = lp_L_sign_52_104_108 f _ _ _
      unfold blp_L_sign_52_104_108
      rw [cY.2.2.1, if_neg c0, l4, iI_add, rr, Option.bind_some, X_no2 hO cY (h.eq r.1) his b8 b14, Option.bind_some, v14, iI_sub, g10, show S 14 0 + C 7 i - (S 14 0 - C 8 i) % C 7 i - S 14 0 = ((C 7 i - (S 14 0 - C 8 i) % C 7 i).toNat : Int) by omega, shp _ 10 (by decide) (by omega)]
      show (wrL Y 104 10000 (iI (5 * (m : Int) + 4)) (lN (nxN C (S 14 0) (i + 1)))).bind _ = _
      rw [w1, Option.bind_some, l1, iI_add]
      rfl
    · by_cases e : j = 4
      · rw [if_pos e, if_neg (by omega), if_neg (by omega)]
      · rw [if_neg e]
        split
        · rfl
        · rw [if_pos (by omega), if_pos (by omega)]
  · rintro f ⟨x, Y⟩ ⟨ex, r⟩
    dsimp only at ex r
    subst ex
    show blp_L_sign_52_104_108 (lp_L_sign_52_104_108 f) (iI (5 * (m : Int))) (iI ((C 0 2).toNat : Int)) Y = _
    unfold blp_L_sign_52_104_108
    have c0 : iI (C 0 2) ≤ iI ((C 0 2).toNat : Int) := (iI_le (by omega) (by omega) (by omega) (by omega)).mpr (by omega)
    rw [(hC.eq r.1).2.2.1, if_pos c0]
theorem X_sign {C S : SS} {tt : Int} {X : Mm} {m : Nat} (hO : CfgOk C) (hC : CfgX C X) (h : RelX 52 S tt X) (hs : SgOk C S) (hm : m < 2000) : ∃ Y, f_L_sign_52_104 (iI (5 * (m : Int))) X = some Y ∧ Rw X m (rwS C S) Y := by
  obtain ⟨Z1, a1, b1⟩ := X_sign1 (X := X) hm
  obtain ⟨Z2, a2, b2⟩ := X_sign2 hO hC h hs hm b1
  obtain ⟨Z3, a3, b3⟩ := X_sign3 hO hC h hs hm b2
  obtain ⟨Z4, a4, b4⟩ := X_sign4 hO hC h hs hm b3
  exact ⟨Z4, by rw [a1, a2, a3, a4], b4⟩

/-! the reference's stands: 49 numbers a minute -/
def snS (C S : SS) (m : Int) (j : Nat) : Int :=
  if j < 24 then
    if ((j / 4 : Nat) : Int) < C 0 1 then
      if j % 4 = 0 then S 0 (j / 4)
      else if j % 4 = 1 then (if S 0 (j / 4) ≤ 0 then 0 else S 1 (j / 4) - m)
      else if j % 4 = 2 then S 2 (j / 4)
      else (if C 5 (j / 4) ≤ 0 then 0 else S 3 (j / 4) % C 5 (j / 4))
    else 0
  else if j < 42 then S 4 (j - 24)
  else if j < 45 then S 5 (j - 42) - S 6 (j - 42)
  else if ((j - 45 : Nat) : Int) < C 0 2 ∧ C 8 (j - 45) ≤ m then (m - C 8 (j - 45)) % C 7 (j - 45) else 0
def Sn (M : Mm) (m n : Nat) (g : Nat → Int) (Z : Mm) : Prop := (∀ j, j < n → Z.1 19 (49 * m + j) = iI (g j)) ∧ (∀ q, q ≠ 19 → Z.1 q = M.1 q) ∧ Z.2 = M.2 ∧ ∀ i, i < 49 * m → Z.1 19 i = M.1 19 i
theorem Sn.wr {M Z : Mm} {m n : Nat} {g : Nat → Int} (h : Sn M m n g Z) (hm : m < 2000) (hn : n < 49) {z v : Int} (hz : z = 49 * (m : Int) + n) (hv : v = g n) : ∃ Z2, wr Z 19 98000 (iI z) (iI v) = some Z2 ∧ Sn M m (n + 1) g Z2 := by
  subst hz; subst hv
  refine ⟨u1 Z 19 (49 * m + n) (iI (g n)), by rw [wr_iI (by omega) (by omega) (by omega), show (49 * (m : Int) + n).toNat = 49 * m + n by omega], fun j hj => ?_, fun q hq => ?_, h.2.2.1, fun i hi => ?_⟩
  · rw [u1_at]
    by_cases e : j = n
    · rw [if_pos ⟨rfl, by omega⟩, e]
    · rw [if_neg (by omega)]; exact h.1 j (by omega)
  · rw [u1_ne hq]; exact h.2.1 q hq
  · rw [u1_at, if_neg (by omega)]; exact h.2.2.2 i hi
theorem M_of (b : Nat) (c : Int) : f_M_of (iI (b : Int)) (iI c) = some (iI (3 + 9 * b + c)) := by unfold f_M_of; rw [ix3]
theorem Sn.rel {M Z : Mm} {m n : Nat} {g : Nat → Int} {S Q : SS} (h : Sn M m n g Z) (hr : RelM 16 S Q M) : RelM 16 S Q Z := by unfold RelM; rw [h.2.1 16 (by decide)]; exact hr
theorem Sn.cfg {M Z : Mm} {m n : Nat} {g : Nat → Int} {C : SS} (h : Sn M m n g Z) (hC : CfgM C M) : CfgM C Z := hC.fr (fun i _ => by rw [h.2.1 0 (by decide)]) (fun q i _ _ _ _ => by rw [h.2.1 q (by omega)])
theorem M_stB {C S Q : SS} {M Z : Mm} {m b : Nat} (rc : Int32 → Int32 → Int32 → Mm → Option Mm) (hO : CfgOk C) (hC : CfgM C M) (h : RelM 16 S Q M) (hB : Bd C S) (hm : m < 2000) (h14 : S 14 0 ≤ 10000) (hb : b < 6) (hz : Sn M m (4 * b) (snS C S m) Z) : ∃ Y, j_M_laysStand_0_26 rc (iI (m : Int)) (iI (49 * (m : Int))) (iI (b : Int)) (if (b : Int) < C 0 1 then 1 else 0) Z = rc (iI (m : Int)) (iI (49 * (m : Int))) (iI ((b + 1 : Nat) : Int)) Y ∧ Sn M m (4 * (b + 1)) (snS C S m) Y := by
  have g0 : snS C S m (4 * b) = if (b : Int) < C 0 1 then S 0 b else 0 := by
    unfold snS
    rw [if_pos (by omega), show 4 * b / 4 = b by omega, if_pos (show 4 * b % 4 = 0 by omega)]
  have g1 : snS C S m (4 * b + 1) = if (b : Int) < C 0 1 then (if S 0 b ≤ 0 then 0 else S 1 b - m) else 0 := by
    unfold snS
    rw [if_pos (by omega), show (4 * b + 1) / 4 = b by omega, if_neg (show ¬ (4 * b + 1) % 4 = 0 by omega), if_pos (show (4 * b + 1) % 4 = 1 by omega)]
  have g2 : snS C S m (4 * b + 2) = if (b : Int) < C 0 1 then S 2 b else 0 := by
    unfold snS
    rw [if_pos (by omega), show (4 * b + 2) / 4 = b by omega, if_neg (show ¬ (4 * b + 2) % 4 = 0 by omega), if_neg (show ¬ (4 * b + 2) % 4 = 1 by omega), if_pos (show (4 * b + 2) % 4 = 2 by omega)]
  have g3 : snS C S m (4 * b + 3) = if (b : Int) < C 0 1 then (if C 5 b ≤ 0 then 0 else S 3 b % C 5 b) else 0 := by
    unfold snS
    rw [if_pos (by omega), show (4 * b + 3) / 4 = b by omega, if_neg (show ¬ (4 * b + 3) % 4 = 0 by omega), if_neg (show ¬ (4 * b + 3) % 4 = 1 by omega), if_neg (show ¬ (4 * b + 3) % 4 = 2 by omega)]
  obtain ⟨Z1, w1, s1⟩ := hz.wr hm (by omega) (z := 49 * (m : Int) + 4 * b) (by omega) rfl
  obtain ⟨Z2, w2, s2⟩ := s1.wr hm (by omega) (z := 49 * (m : Int) + 4 * b + 1) (by omega) rfl
  obtain ⟨Z3, w3, s3⟩ := s2.wr hm (by omega) (z := 49 * (m : Int) + 4 * b + 2) (by omega) rfl
  obtain ⟨Z4, w4, s4⟩ := s3.wr hm (by omega) (z := 49 * (m : Int) + 4 * b + 3) (by omega) rfl
  rw [g0] at w1; rw [g1] at w2; rw [g2] at w3; rw [g3] at w4
  have ia : iI (49 * (m : Int)) + 4 * iI (b : Int) = iI (49 * (m : Int) + 4 * b) := by rw [l4, iI_mul, iI_add]
  have ib1 : iI (49 * (m : Int) + 4 * b) + 1 = iI (49 * (m : Int) + 4 * b + 1) := by rw [l1, iI_add]
  have ib2 : iI (49 * (m : Int) + 4 * b) + 2 = iI (49 * (m : Int) + 4 * b + 2) := by rw [l2, iI_add]
  have ib3 : iI (49 * (m : Int) + 4 * b) + 3 = iI (49 * (m : Int) + 4 * b + 3) := by rw [l3, iI_add]
  have eb : iI (b : Int) + 1 = iI ((b + 1 : Nat) : Int) := by rw [l1, iI_add]; rfl
  refine ⟨Z4, ?_, s4⟩
  unfold j_M_laysStand_0_26 j_M_laysStand_0_56 j_M_laysStand_0_101 j_M_laysStand_0_102 j_M_laysStand_0_133 j_M_laysStand_0_179 j_M_laysStand_0_180
  by_cases e : (b : Int) < C 0 1
  · rw [if_pos e] at w1 w2 w3 w4
    obtain ⟨a1, a2, a3, a4, a5, a6⟩ := hB.1.1 b e
    obtain ⟨c1, c2, c3, c4, c5, c6, c7, c8⟩ := hB.2.2.1 b e
    have r0 : ∀ V, RelM 16 S Q V → rd (V.1 16) 99 (iI (3 + 9 * (b : Int) + 0)) = some (iI (S 0 b)) := fun V hV => rdM hV 0 b (fd 0 rfl) (by simp only [szS]; omega) (by simp only [lyM]; omega)
    have r1 : ∀ V, RelM 16 S Q V → rd (V.1 16) 99 (iI (3 + 9 * (b : Int) + 2)) = some (iI (S 1 b)) := fun V hV => rdM hV 1 b (fd 1 rfl) (by simp only [szS]; omega) (by simp only [lyM]; omega)
    have r2 : ∀ V, RelM 16 S Q V → rd (V.1 16) 99 (iI (3 + 9 * (b : Int) + 3)) = some (iI (S 2 b)) := fun V hV => rdM hV 2 b (fd 2 rfl) (by simp only [szS]; omega) (by simp only [lyM]; omega)
    have r3 : ∀ V, RelM 16 S Q V → rd (V.1 16) 99 (iI (3 + 9 * (b : Int) + 4)) = some (iI (S 3 b)) := fun V hV => rdM hV 3 b (fd 3 rfl) (by simp only [szS]; omega) (by simp only [lyM]; omega)
    have r5 : rd (Z3.1 6) 12 (iI (b : Int)) = some (iI (C 5 b)) := by
      rw [rd_iI (by omega) (by omega) (by omega), Int.toNat_natCast, ((s3.cfg hC).2.2.2.1 b hb e).2.2]
    have o0 : f_M_of (iI (b : Int)) 0 = some (iI (3 + 9 * b + 0)) := by rw [l0]; exact M_of b 0
    have o2 : f_M_of (iI (b : Int)) 2 = some (iI (3 + 9 * b + 2)) := by rw [l2]; exact M_of b 2
    have o3 : f_M_of (iI (b : Int)) 3 = some (iI (3 + 9 * b + 3)) := by rw [l3]; exact M_of b 3
    have o4 : f_M_of (iI (b : Int)) 4 = some (iI (3 + 9 * b + 4)) := by rw [l4]; exact M_of b 4
    have d0 : (iI (S 0 b) ≤ 0) ↔ S 0 b ≤ 0 := by rw [l0]; exact iI_le (by omega) (by omega) (by omega) (by omega)
    have hc5 := hO.2.2.2.2.2.2.1 b
    have d5 : (iI (C 5 b) ≤ 0) ↔ C 5 b ≤ 0 := by rw [l0]; exact iI_le (by omega) (by omega) (by omega) (by omega)
    rw [if_pos e, if_neg n10, o0, Option.bind_some, r0 Z (hz.rel h), Option.bind_some, ia, ib1, ib2, ib3, w1, Option.bind_some, if_neg n10, Option.bind_some, r0 Z1 (s1.rel h), Option.bind_some]
    have tail : (wr Z2 19 98000 (iI (49 * (m : Int) + 4 * b + 2)) (iI (S 2 b))).bind (fun M1 => if (1 : Int32) = 0 then (wr M1 19 98000 (iI (49 * (m : Int) + 4 * b + 3)) 0).bind fun M1 => rc (iI (m : Int)) (iI (49 * (m : Int))) (iI (b : Int) + 1) M1 else (rd (M1.1 6) 12 (iI (b : Int))).bind fun v3 => if v3 ≤ 0 then (wr M1 19 98000 (iI (49 * (m : Int) + 4 * b + 3)) 0).bind fun M1 => rc (iI (m : Int)) (iI (49 * (m : Int))) (iI (b : Int) + 1) M1 else (f_M_of (iI (b : Int)) 4).bind fun v5 => (rd (M1.1 16) 99 v5).bind fun v6 => (rd (M1.1 6) 12 (iI (b : Int))).bind fun v7 => (rmI v6 v7).bind fun v8 => (wr M1 19 98000 (iI (49 * (m : Int) + 4 * b + 3)) v8).bind fun M1 => rc (iI (m : Int)) (iI (49 * (m : Int))) (iI (b : Int) + 1) M1) = rc (iI (m : Int)) (iI (49 * (m : Int))) (iI ((b + 1 : Nat) : Int)) Z4 := by
      rw [w3, Option.bind_some, if_neg n10, r5, Option.bind_some, eb]
      by_cases e5 : C 5 b ≤ 0
      · rw [if_pos e5] at w4
        rw [if_pos (d5.mpr e5), l0, w4, Option.bind_some]
      · rw [if_neg e5] at w4
        rw [if_neg (fun q => e5 (d5.mp q)), o4, Option.bind_some, r3 Z3 (s3.rel h), Option.bind_some, Option.bind_some, rmI_iI (by omega) (by omega) (by omega) (by omega), Option.bind_some, w4, Option.bind_some]
    by_cases e0 : S 0 b ≤ 0
    · rw [if_pos e0] at w2
      rw [if_pos (d0.mpr e0), show (wr Z1 19 98000 (iI (49 * (m : Int) + 4 * b + 1)) 0) = some Z2 by rw [l0]; exact w2, Option.bind_some, if_neg n10, o3, Option.bind_some, r2 Z2 (s2.rel h), Option.bind_some]
      exact tail
    · rw [if_neg e0] at w2
      rw [if_neg (fun q => e0 (d0.mp q)), o2, Option.bind_some, r1 Z1 (s1.rel h), Option.bind_some, iI_sub, w2, Option.bind_some, if_neg n10, o3, Option.bind_some, r2 Z2 (s2.rel h), Option.bind_some]
      exact tail
  · rw [if_neg e] at w1 w2 w3 w4
    rw [← l0] at w1 w2 w3 w4
    rw [if_neg e, if_pos rfl, ia, ib1, ib2, ib3, w1, Option.bind_some, if_pos rfl, w2, Option.bind_some, if_pos rfl, w3, Option.bind_some, if_pos rfl, w4, Option.bind_some, eb]
theorem M_st1 {C S Q : SS} {M : Mm} {m : Nat} (hO : CfgOk C) (hC : CfgM C M) (h : RelM 16 S Q M) (hB : Bd C S) (hm : m < 2000) (h14 : S 14 0 ≤ 10000) : ∃ Y, f_M_laysStand_0 (iI (m : Int)) M = j_M_laysStand_0_187 (iI (m : Int)) (iI (49 * (m : Int))) Y ∧ Sn M m 24 (snS C S m) Y := by
  have hb1 := hO.2.2.1
  have hb6 := hO.2.2.2.1
  have loop := loop_up (σ := Int32 × Mm) (γ := Option Mm) (fun f s => lp_M_laysStand_0_7 f (iI (m : Int)) (iI (49 * (m : Int))) s.1 s.2) 6 (fun i s => s.1 = iI (i : Int) ∧ Sn M m (4 * i) (snS C S m) s.2) (fun s => j_M_laysStand_0_187 (iI (m : Int)) (iI (49 * (m : Int))) s.2) ?_ ?_ FW (FW_gt (by omega)) (iI 0, M) ⟨rfl, fun j hj => absurd hj (by omega), fun _ _ => rfl, rfl, fun _ _ => rfl⟩
  · obtain ⟨⟨x, Z⟩, ⟨-, e1⟩, ev⟩ := loop
    exact ⟨Z, by unfold f_M_laysStand_0; rw [show (49 : Int32) = iI 49 from rfl, iI_mul, l0]; exact ev, e1⟩
  · rintro f i ⟨x, Z⟩ hi ⟨ex, r⟩
    dsimp only at ex r
    subst ex
    obtain ⟨Y, y1, y2⟩ := M_stB (lp_M_laysStand_0_7 f) hO hC h hB hm h14 hi r
    have c0 : ¬ (6 ≤ iI (i : Int)) := by rw [l6, iI_le (by omega) (by omega) (by omega) (by omega)]; omega
    have c1 : (iI (C 0 1) ≤ iI (i : Int)) ↔ ¬ ((i : Int) < C 0 1) := by rw [iI_le (by omega) (by omega) (by omega) (by omega)]; omega
    refine ⟨(iI ((i + 1 : Nat) : Int), Y), ?_, rfl, y2⟩
    show blp_M_laysStand_0_7 (lp_M_laysStand_0_7 f) (iI (m : Int)) (iI (49 * (m : Int))) (iI (i : Int)) Z = lp_M_laysStand_0_7 f _ _ (iI ((i + 1 : Nat) : Int)) Y
    unfold blp_M_laysStand_0_7
    rw [if_neg c0, (r.cfg hC).2.1]
    by_cases e : (i : Int) < C 0 1
    · rw [if_pos e] at y1
      rw [if_neg (fun q => c1.mp q e), y1]
    · rw [if_neg e] at y1
      rw [if_pos (c1.mpr e), y1]
  · rintro f ⟨x, Z⟩ ⟨ex, r⟩
    dsimp only at ex r
    subst ex
    rfl
theorem M_st2 {C S Q : SS} {M Z : Mm} {m : Nat} (h : RelM 16 S Q M) (hm : m < 2000) (hz : Sn M m 24 (snS C S m) Z) : ∃ Y, j_M_laysStand_0_187 (iI (m : Int)) (iI (49 * (m : Int))) Z = j_M_laysStand_0_221 (iI (m : Int)) (iI (49 * (m : Int))) Y ∧ Sn M m 42 (snS C S m) Y := by
  have loop := loop_up (σ := Int32 × Mm) (γ := Option Mm) (fun f s => lp_M_laysStand_0_189 f (iI (m : Int)) (iI (49 * (m : Int))) s.1 s.2) 18 (fun i s => s.1 = iI (i : Int) ∧ Sn M m (24 + i) (snS C S m) s.2) (fun s => j_M_laysStand_0_221 (iI (m : Int)) (iI (49 * (m : Int))) s.2) ?_ ?_ FW (FW_gt (by omega)) (iI 0, Z) ⟨rfl, hz⟩
  · obtain ⟨⟨x, Z⟩, ⟨-, e1⟩, ev⟩ := loop
    exact ⟨Z, by unfold j_M_laysStand_0_187; rw [l0]; exact ev, e1⟩
  · rintro f i ⟨x, V⟩ hi ⟨ex, r⟩
    dsimp only at ex r
    subst ex
    have c0 : ¬ (18 ≤ iI (i : Int)) := by rw [show (18 : Int32) = iI 18 from rfl, iI_le (by omega) (by omega) (by omega) (by omega)]; omega
    have g : S 4 i = snS C S m (24 + i) := by
      unfold snS
      rw [if_neg (by omega), if_pos (by omega), show 24 + i - 24 = i by omega]
    obtain ⟨Y, y1, y2⟩ := r.wr hm (by omega) (z := 49 * (m : Int) + 24 + i) (by omega) g
    have r4 : rd (V.1 16) 99 (iI (57 + (i : Int))) = some (iI (S 4 i)) := rdM (r.rel h) 4 i (fd 4 rfl) (by simp only [szS]; omega) (by simp only [lyM]; omega)
    refine ⟨(iI ((i + 1 : Nat) : Int), Y), ?_, rfl, y2⟩
    show blp_M_laysStand_0_189 (lp_M_laysStand_0_189 f) (iI (m : Int)) (iI (49 * (m : Int))) (iI (i : Int)) V = lp_M_laysStand_0_189 f _ _ (iI ((i + 1 : Nat) : Int)) Y
    unfold blp_M_laysStand_0_189
    rw [if_neg c0, show (57 : Int32) = iI 57 from rfl, iI_add, r4, Option.bind_some, show (24 : Int32) = iI 24 from rfl, iI_add, iI_add, y1, Option.bind_some, l1, iI_add]
    rfl
  · rintro f ⟨x, Z⟩ ⟨ex, r⟩
    dsimp only at ex r
    subst ex
    rfl
theorem M_st3 {C S Q : SS} {M Z : Mm} {m : Nat} (h : RelM 16 S Q M) (hm : m < 2000) (hz : Sn M m 42 (snS C S m) Z) : ∃ Y, j_M_laysStand_0_221 (iI (m : Int)) (iI (49 * (m : Int))) Z = j_M_laysStand_0_266 (iI (m : Int)) (iI (49 * (m : Int))) Y ∧ Sn M m 45 (snS C S m) Y := by
  have loop := loop_up (σ := Int32 × Mm) (γ := Option Mm) (fun f s => lp_M_laysStand_0_223 f (iI (m : Int)) (iI (49 * (m : Int))) s.1 s.2) 3 (fun i s => s.1 = iI (i : Int) ∧ Sn M m (42 + i) (snS C S m) s.2) (fun s => j_M_laysStand_0_266 (iI (m : Int)) (iI (49 * (m : Int))) s.2) ?_ ?_ FW (FW_gt (by omega)) (iI 0, Z) ⟨rfl, hz⟩
  · obtain ⟨⟨x, Z⟩, ⟨-, e1⟩, ev⟩ := loop
    exact ⟨Z, by unfold j_M_laysStand_0_221; rw [l0]; exact ev, e1⟩
  · rintro f i ⟨x, V⟩ hi ⟨ex, r⟩
    dsimp only at ex r
    subst ex
    have c0 : ¬ (3 ≤ iI (i : Int)) := by rw [l3, iI_le (by omega) (by omega) (by omega) (by omega)]; omega
    have g : S 5 i - S 6 i = snS C S m (42 + i) := by
      unfold snS
      rw [if_neg (by omega), if_neg (by omega), if_pos (by omega), show 42 + i - 42 = i by omega]
    obtain ⟨Y, y1, y2⟩ := r.wr hm (by omega) (z := 49 * (m : Int) + 42 + i) (by omega) g
    have r5 : rd (V.1 16) 99 (iI (75 + 5 * (i : Int) + 0)) = some (iI (S 5 i)) := rdM (r.rel h) 5 i (fd 5 rfl) (by simp only [szS]; omega) (by simp only [lyM]; omega)
    have r6 : rd (V.1 16) 99 (iI (75 + 5 * (i : Int) + 1)) = some (iI (S 6 i)) := rdM (r.rel h) 6 i (fd 6 rfl) (by simp only [szS]; omega) (by simp only [lyM]; omega)
    have o0 : f_M_ofKind (iI (i : Int)) 0 = some (iI (75 + 5 * i + 0)) := by unfold f_M_ofKind; rw [l0, ix75]
    have o1 : f_M_ofKind (iI (i : Int)) 1 = some (iI (75 + 5 * i + 1)) := by unfold f_M_ofKind; rw [l1, ix75]
    refine ⟨(iI ((i + 1 : Nat) : Int), Y), ?_, rfl, y2⟩
    show blp_M_laysStand_0_223 (lp_M_laysStand_0_223 f) (iI (m : Int)) (iI (49 * (m : Int))) (iI (i : Int)) V = lp_M_laysStand_0_223 f _ _ (iI ((i + 1 : Nat) : Int)) Y
    unfold blp_M_laysStand_0_223
    rw [if_neg c0, o0, Option.bind_some, r5, Option.bind_some, o1, Option.bind_some, r6, Option.bind_some, show (42 : Int32) = iI 42 from rfl, iI_add, iI_add, iI_sub, y1, Option.bind_some, l1, iI_add]
    rfl
  · rintro f ⟨x, Z⟩ ⟨ex, r⟩
    dsimp only at ex r
    subst ex
    rfl
theorem M_st4 {C S Q : SS} {M Z : Mm} {m : Nat} (hO : CfgOk C) (hC : CfgM C M) (h : RelM 16 S Q M) (hm : m < 2000) (hz : Sn M m 45 (snS C S m) Z) : ∃ Y, j_M_laysStand_0_266 (iI (m : Int)) (iI (49 * (m : Int))) Z = some Y ∧ Sn M m 49 (snS C S m) Y := by
  have hs0 := hO.2.2.2.2.1
  have hs4 := hO.2.2.2.2.2.1
  have loop := loop_up (σ := Int32 × Mm) (γ := Option Mm) (fun f s => lp_M_laysStand_0_268 f (iI (m : Int)) (iI (49 * (m : Int))) s.1 s.2) 4 (fun i s => s.1 = iI (i : Int) ∧ Sn M m (45 + i) (snS C S m) s.2) (fun s => some s.2) ?_ ?_ FW (FW_gt (by omega)) (iI 0, Z) ⟨rfl, hz⟩
  · obtain ⟨⟨x, Z⟩, ⟨-, e1⟩, ev⟩ := loop
    exact ⟨Z, by unfold j_M_laysStand_0_266; rw [l0]; exact ev, e1⟩
  · rintro f i ⟨x, V⟩ hi ⟨ex, r⟩
    dsimp only at ex r
    subst ex
    have c0 : ¬ (4 ≤ iI (i : Int)) := by rw [l4, iI_le (by omega) (by omega) (by omega) (by omega)]; omega
    have c1 : (iI (C 0 2) ≤ iI (i : Int)) ↔ ¬ ((i : Int) < C 0 2) := by rw [iI_le (by omega) (by omega) (by omega) (by omega)]; omega
    have g : (if (i : Int) < C 0 2 ∧ C 8 i ≤ m then ((m : Int) - C 8 i) % C 7 i else 0) = snS C S m (45 + i) := by
      unfold snS
      rw [if_neg (show ¬ 45 + i < 24 by omega), if_neg (show ¬ 45 + i < 42 by omega), if_neg (show ¬ 45 + i < 45 by omega), show 45 + i - 45 = i by omega]
    obtain ⟨Y, y1, y2⟩ := r.wr hm (by omega) (z := 49 * (m : Int) + 45 + i) (by omega) g
    refine ⟨(iI ((i + 1 : Nat) : Int), Y), ?_, rfl, y2⟩
    show blp_M_laysStand_0_268 (lp_M_laysStand_0_268 f) (iI (m : Int)) (iI (49 * (m : Int))) (iI (i : Int)) V = lp_M_laysStand_0_268 f _ _ (iI ((i + 1 : Nat) : Int)) Y
    unfold blp_M_laysStand_0_268 j_M_laysStand_0_319 j_M_laysStand_0_320
    have ei : iI (i : Int) + 1 = iI ((i + 1 : Nat) : Int) := by rw [l1, iI_add]; rfl
    rw [if_neg c0, (r.cfg hC).2.2.1, show (45 : Int32) = iI 45 from rfl, iI_add, iI_add, ei]
    by_cases e : (i : Int) < C 0 2
    · obtain ⟨o1, o2, o3, o4, o5, o6⟩ := hO.2.2.2.2.2.2.2.2 i e
      have r8 : rd (V.1 9) 8 (iI (i : Int)) = some (iI (C 8 i)) := by
        rw [rd_iI (by omega) (by omega) (by omega), Int.toNat_natCast, ((r.cfg hC).2.2.2.2 i (by omega) e).2.2]
      have r7 : rd (V.1 8) 8 (iI (i : Int)) = some (iI (C 7 i)) := by
        rw [rd_iI (by omega) (by omega) (by omega), Int.toNat_natCast, ((r.cfg hC).2.2.2.2 i (by omega) e).2.1]
      have c2 : (iI (m : Int) < iI (C 8 i)) ↔ (m : Int) < C 8 i := iI_lt (by omega) (by omega) (by omega) (by omega)
      rw [if_neg (fun q => c1.mp q e), r8, Option.bind_some]
      by_cases e2 : C 8 i ≤ m
      · rw [if_pos ⟨e, e2⟩] at y1
        rw [if_neg (fun q => by have := c2.mp q; omega), Option.bind_some, r7, Option.bind_some, iI_sub, rmI_iI (by omega) (by omega) (by omega) (by omega), Option.bind_some, y1, Option.bind_some]
      · rw [if_neg (fun q => e2 q.2)] at y1
        rw [if_pos (c2.mpr (by omega)), l0, y1, Option.bind_some]
    · rw [if_neg (fun q => e q.1)] at y1
      rw [if_pos (c1.mpr e), l0, y1, Option.bind_some]
  · rintro f ⟨x, Z⟩ ⟨ex, r⟩
    dsimp only at ex r
    subst ex
    rfl
theorem M_stand {C S Q : SS} {M : Mm} {m : Nat} (hO : CfgOk C) (hC : CfgM C M) (h : RelM 16 S Q M) (hB : Bd C S) (hm : m < 2000) (h14 : S 14 0 ≤ 10000) : ∃ Y, f_M_laysStand_0 (iI (m : Int)) M = some Y ∧ Sn M m 49 (snS C S m) Y := by
  obtain ⟨Z1, a1, b1⟩ := M_st1 hO hC h hB hm h14
  obtain ⟨Z2, a2, b2⟩ := M_st2 h hm b1
  obtain ⟨Z3, a3, b3⟩ := M_st3 h hm b2
  obtain ⟨Z4, a4, b4⟩ := M_st4 hO hC h hm b3
  exact ⟨Z4, by rw [a1, a2, a3, a4], b4⟩

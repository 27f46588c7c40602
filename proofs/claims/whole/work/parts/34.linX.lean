theorem X_endAt_35 {C S : SS} {tt : Int} {M : Mm} {b : Nat} (hC : CfgX C M) (hO : CfgOk C) (h : RelX 35 S tt M) (hb : (b : Int) < C 0 1) (A : AvS C S) (hT : 0 ≤ S 14 0) (hT2 : S 14 0 ≤ 10000) (hF : 0 ≤ S 3 b) (hF2 : S 3 b ≤ 10000) : ∃ M', f_L_endAt_35 (iI b) M = some M' ∧ RelX 35 (endS C b S) tt M' ∧ OnlyX 35 M M' := by
  have hb6 := sz6 hO hb
  obtain ⟨a1, a2, a3, a4, a5, a6⟩ := A.1 b hb
  have r0 : rd (M.1 38) 6 (iI (b : Int)) = some (iI (S 0 b)) := h.rd 0 b (fx 0 rfl) (by decide) hb6 rfl
  have r1 : rd (M.1 40) 6 (iI (b : Int)) = some (iI (S 1 b)) := h.rd 1 b (fx 1 rfl) (by decide) hb6 rfl
  have r2 : rd (M.1 39) 6 (iI (b : Int)) = some (iI (S 2 b)) := h.rd 2 b (fx 2 rfl) (by decide) hb6 rfl
  have r14 : M.1 35 14 = iI (S 14 0) := h.1 14 0 (fx 14 rfl) (by decide)
  have c0 : (iI (S 0 b) = 0) ↔ S 0 b = 0 := by rw [l0]; exact iI_eq (by omega) (by omega) (by omega) (by omega)
  have c1 : (iI (S 1 b) = iI (S 14 0)) ↔ S 1 b = S 14 0 := iI_eq (by omega) (by omega) (by omega) (by omega)
  have c2 : (iI (S 0 b) = 2) ↔ S 0 b = 2 := by rw [l2]; exact iI_eq (by omega) (by omega) (by omega) (by omega)
  unfold f_L_endAt_35 j_L_endAt_35_69 endS
  rw [r0, Option.bind_some]
  by_cases e0 : S 0 b = 0
  · rw [if_pos (c0.mpr e0), if_pos (Or.inl e0)]; exact ⟨M, rfl, h, OnlyX.rf⟩
  rw [if_neg (fun q => e0 (c0.mp q)), r1, Option.bind_some, r14]
  by_cases e1 : S 1 b = S 14 0
  · have hne : ¬ (S 0 b = 0 ∨ S 1 b ≠ S 14 0) := fun q => q.elim e0 (fun q => q e1)
    rw [if_pos (c1.mpr e1), if_neg hne, Option.bind_some]
    by_cases e2 : S 0 b = 2
    · rw [if_pos (c2.mpr e2), if_pos e2, l0]
      obtain ⟨M2, w2, h2, o2⟩ : ∃ M2, wr M 38 6 (iI (b : Int)) (iI 0) = some M2 ∧ RelX 35 (uS S 0 b 0) tt M2 ∧ OnlyX 35 M M2 := h.wr 0 b (fx 0 rfl) (by decide) hb6 rfl
      exact ⟨M2, by rw [w2]; rfl, h2, o2⟩
    · have e3 : S 0 b = 1 := by omega
      have hl2 := a3 e3
      obtain ⟨k, hk⟩ : ∃ k : Nat, S 2 b = (k : Int) := ⟨(S 2 b).toNat, by omega⟩
      have hk3 : k < 3 := by have := hO.2.1; omega
      have rc : f_P_cell (iI (b : Int)) (iI (k : Int)) = some (iI (3 * b + k)) := by unfold f_P_cell; rw [ixc]
      have cl : ¬ (iI (k : Int) < 0) := by rw [l0, iI_lt (by omega) (by omega) (by omega) (by omega)]; omega
      rw [if_neg (fun q => e2 (c2.mp q)), if_neg e2, r2, Option.bind_some, hk, if_neg cl, Option.bind_some, rc, Option.bind_some, Int.toNat_natCast]
      have r4 : rd (M.1 36) 18 (iI (3 * b + k)) = some (iI (S 4 (3 * b + k))) := h.rd 4 (3 * b + k) (fx 4 rfl) (by decide) (by simp only [szX]; omega) (by simp only [ixX]; omega)
      rw [r4, Option.bind_some]
      obtain ⟨M2, w2, h2, o2⟩ : ∃ M2, wr M 36 18 (iI (3 * b + k)) (iI (S 4 (3 * b + k) + 1)) = some M2 ∧ RelX 35 (uS S 4 (3 * b + k) (S 4 (3 * b + k) + 1)) tt M2 ∧ OnlyX 35 M M2 := h.wr 4 (3 * b + k) (fx 4 rfl) (by decide) (by simp only [szX]; omega) (by simp only [ixX]; omega)
      rw [show iI (S 4 (3 * b + k)) + 1 = iI (S 4 (3 * b + k) + 1) by rw [l1, iI_add], w2, Option.bind_some]
      have r3 : rd (M2.1 41) 6 (iI (b : Int)) = some (iI (S 3 b)) := h2.rd 3 b (fx 3 rfl) (by decide) hb6 rfl
      rw [r3, Option.bind_some]
      obtain ⟨M3, w3, h3, o3⟩ : ∃ M3, wr M2 41 6 (iI (b : Int)) (iI (S 3 b + 1)) = some M3 ∧ RelX 35 (uS (uS S 4 (3 * b + k) (S 4 (3 * b + k) + 1)) 3 b (S 3 b + 1)) tt M3 ∧ OnlyX 35 M2 M3 := h2.wr 3 b (fx 3 rfl) (by decide) hb6 rfl
      rw [show iI (S 3 b) + 1 = iI (S 3 b + 1) by rw [l1, iI_add], w3, Option.bind_some]
      obtain ⟨M4, w4, h4, o4⟩ : ∃ M4, wr M3 38 6 (iI (b : Int)) (iI 0) = some M4 ∧ RelX 35 (uS (uS (uS S 4 (3 * b + k) (S 4 (3 * b + k) + 1)) 3 b (S 3 b + 1)) 0 b 0) tt M4 ∧ OnlyX 35 M3 M4 := h3.wr 0 b (fx 0 rfl) (by decide) hb6 rfl
      rw [l0, w4, Option.bind_some, ← l0]
      have o : OnlyX 35 M M4 := (o2.tr o3).tr o4
      have hC4 := o.cfg (by decide) hC
      have hg := hC4.2.2.2.1 b hb6 hb
      have hB := hO.2.2.2.2.2.2.1 b
      have re : rd (M4.1 5) 6 (iI (b : Int)) = some (iI (C 5 b)) := by rw [rd_iI (by omega) (by omega) (by decide), Int.toNat_natCast, hg.2.2]
      rw [re]
      have c3 : (iI (C 5 b) ≤ 0) ↔ C 5 b = 0 := by rw [l0, iI_le (by omega) (by omega) (by omega) (by omega)]; omega
      simp only [Option.bind_some, c3]
      by_cases e5 : C 5 b = 0
      · rw [if_pos e5, if_pos (Or.inl e5)]
        exact ⟨M4, rfl, h4.skip (by unfold fdX; omega) _, o⟩
      · rw [if_neg e5]
        have r5 : rd (M4.1 41) 6 (iI (b : Int)) = some (iI (S 3 b + 1)) := by
          have := h4.rd 3 b (z := b) (fx 3 rfl) (by decide) hb6 rfl
          rw [uS_nf (by decide), uS_eq] at this
          exact this
        rw [r5]
        simp only [Option.bind_some]
        rw [P_rem (by omega) (by omega) (by omega) (by omega)]
        have hmod : 0 ≤ (S 3 b + 1) % C 5 b ∧ (S 3 b + 1) % C 5 b < C 5 b := ⟨Int.emod_nonneg _ e5, Int.emod_lt_of_pos _ (by omega)⟩
        have c4 : (iI ((S 3 b + 1) % C 5 b) = 0) ↔ (S 3 b + 1) % C 5 b = 0 := by rw [l0]; exact iI_eq (by omega) (by omega) (by omega) (by omega)
        simp only [Option.bind_some, c4]
        by_cases e6 : (S 3 b + 1) % C 5 b = 0
        · have hn6 : ¬ (C 5 b = 0 ∨ (S 3 b + 1) % C 5 b ≠ 0) := fun q => q.elim e5 (fun q => q e6)
          rw [if_pos e6, if_neg hn6]
          have h4' := h4.skip (i := 17) (j := b) (by unfold fdX; omega) (-2)
          obtain ⟨M5, w5, h5, o5⟩ : ∃ M5, wr M4 38 6 (iI (b : Int)) (iI 2) = some M5 ∧ RelX 35 (uS (uS (uS (uS (uS S 4 (3 * b + k) (S 4 (3 * b + k) + 1)) 3 b (S 3 b + 1)) 0 b 0) 17 b (-2)) 0 b 2) tt M5 ∧ OnlyX 35 M4 M5 := h4'.wr 0 b (fx 0 rfl) (by decide) hb6 rfl
          rw [l2, w5, Option.bind_some]
          have hC5 := (o.tr o5).cfg (by decide) hC
          have r6 : rd (M5.1 4) 6 (iI (b : Int)) = some (iI (C 4 b)) := by rw [rd_iI (by omega) (by omega) (by decide), Int.toNat_natCast, (hC5.2.2.2.1 b hb6 hb).2.1]
          have r7 : M5.1 35 14 = iI (S 14 0) := by
            have := h5.1 14 0 (fx 14 rfl) (by decide)
            rw [uS_nf (by decide), uS_nf (by decide), uS_nf (by decide), uS_nf (by decide), uS_nf (by decide)] at this
            exact this
          rw [r6, r7]
          simp only [Option.bind_some, iI_add]
          obtain ⟨M6, w6, h6, o6⟩ : ∃ M6, wr M5 40 6 (iI (b : Int)) (iI (S 14 0 + C 4 b)) = some M6 ∧ RelX 35 (uS (uS (uS (uS (uS (uS S 4 (3 * b + k) (S 4 (3 * b + k) + 1)) 3 b (S 3 b + 1)) 0 b 0) 17 b (-2)) 0 b 2) 1 b (S 14 0 + C 4 b)) tt M6 ∧ OnlyX 35 M5 M6 := h5.wr 1 b (fx 1 rfl) (by decide) hb6 rfl
          rw [w6]
          refine ⟨M6, rfl, ?_, (o.tr o5).tr o6⟩
          rw [uS_comm _ (i := 0) (i2 := 17) _ _ (by decide), uS_twice] at h6
          exact h6
        · rw [if_neg e6, if_pos (Or.inr e6)]
          exact ⟨M4, rfl, h4.skip (by unfold fdX; omega) _, o⟩
  · rw [if_neg (fun q => e1 (c1.mp q)), if_pos (Or.inr e1)]; exact ⟨M, rfl, h, OnlyX.rf⟩
theorem X_takeOrder_35 {C S : SS} {tt : Int} {M : Mm} {i : Nat} (hC : CfgX C M) (hO : CfgOk C) (h : RelX 35 (comN C i S) tt M) (hi : (i : Int) < C 0 2) (hT : 0 ≤ S 14 0) (hT2 : S 14 0 ≤ 10000) : ∃ M', f_L_takeOrder_35 (iI i) M = some M' ∧ RelX 35 (comN C (i + 1) S) tt M' ∧ OnlyX 35 M M' := by
  have hi4 : i < 4 := by have := hO.2.2.2.2.2.1; omega
  have hg := hC.2.2.2.2 i hi4 hi
  have hb := hO.2.2.2.2.2.2.2.2 i hi
  have hk3 := hO.2.1
  obtain ⟨k, hk⟩ : ∃ k : Nat, C 6 i = (k : Int) := ⟨(C 6 i).toNat, by omega⟩
  have hkk : k < 3 := by omega
  have r14 : M.1 35 14 = iI (S 14 0) := by
    have := h.1 14 0 (fx 14 rfl) (by decide)
    exact this
  have g6 : rd (M.1 6) 4 (iI (i : Int)) = some (iI (k : Int)) := by rw [rd_iI (by omega) (by omega) (by decide), Int.toNat_natCast, hg.1, hk]
  have g7 : rd (M.1 7) 4 (iI (i : Int)) = some (iI (C 7 i)) := by rw [rd_iI (by omega) (by omega) (by decide), Int.toNat_natCast, hg.2.1]
  have g8 : rd (M.1 8) 4 (iI (i : Int)) = some (iI (C 8 i)) := by rw [rd_iI (by omega) (by omega) (by decide), Int.toNat_natCast, hg.2.2]
  rw [comN_s hk hkk]
  unfold f_L_takeOrder_35
  simp only [g6, g7, g8, r14, Option.bind_some, iI_sub]
  have c0 : (iI (S 14 0 - C 8 i) < 0) ↔ S 14 0 - C 8 i < 0 := iI_lt (b := 0) (by omega) (by omega) (by omega) (by omega)
  simp only [c0]
  by_cases e0 : S 14 0 - C 8 i < 0
  · rw [if_pos e0, if_neg (by omega)]; exact ⟨M, rfl, h, OnlyX.rf⟩
  · rw [if_neg e0, P_rem (by omega) (by omega) (by omega) (by omega)]
    have hm : 0 ≤ (S 14 0 - C 8 i) % C 7 i ∧ (S 14 0 - C 8 i) % C 7 i < C 7 i := ⟨Int.emod_nonneg _ (by omega), Int.emod_lt_of_pos _ (by omega)⟩
    have c3 : (iI ((S 14 0 - C 8 i) % C 7 i) = 0) ↔ (S 14 0 - C 8 i) % C 7 i = 0 := iI_eq (b := 0) (by omega) (by omega) (by omega) (by omega)
    simp only [Option.bind_some, c3]
    by_cases e3 : (S 14 0 - C 8 i) % C 7 i = 0
    · rw [if_pos e3, if_pos ⟨by omega, e3⟩]
      have r5 : rd (M.1 44) 3 (iI (k : Int)) = some (iI (comN C i S 5 k)) := h.rd 5 k (fx 5 rfl) (by decide) hkk rfl
      rw [r5]
      simp only [Option.bind_some]
      obtain ⟨M2, w2, h2, o2⟩ : ∃ M2, wr M 44 3 (iI (k : Int)) (iI (comN C i S 5 k + 1)) = some M2 ∧ RelX 35 (uS (comN C i S) 5 k (comN C i S 5 k + 1)) tt M2 ∧ OnlyX 35 M M2 := h.wr 5 k (fx 5 rfl) (by decide) hkk rfl
      rw [l1, iI_add, w2]
      simp only [Option.bind_some]
      have r6 : rd (M2.1 45) 3 (iI (k : Int)) = some (iI (comN C i S 16 k)) := by
        have := h2.rd 16 k (z := k) (fx 16 rfl) (by decide) hkk rfl
        rw [uS_nf (by decide)] at this
        exact this
      rw [r6]
      simp only [Option.bind_some, iI_add]
      obtain ⟨M3, w3, h3, o3⟩ : ∃ M3, wr M2 45 3 (iI (k : Int)) (iI (comN C i S 16 k + 1)) = some M3 ∧ RelX 35 (uS (uS (comN C i S) 5 k (comN C i S 5 k + 1)) 16 k (comN C i S 16 k + 1)) tt M3 ∧ OnlyX 35 M2 M3 := h2.wr 16 k (fx 16 rfl) (by decide) hkk rfl
      rw [w3]
      exact ⟨M3, rfl, h3, o2.tr o3⟩
    · rw [if_neg e3, if_neg (fun q => e3 q.2)]
      exact ⟨M, rfl, h, OnlyX.rf⟩
theorem X_endAt_52 {C S : SS} {tt : Int} {M : Mm} {b : Nat} (hC : CfgX C M) (hO : CfgOk C) (h : RelX 52 S tt M) (hb : (b : Int) < C 0 1) (A : AvS C S) (hT : 0 ≤ S 14 0) (hT2 : S 14 0 ≤ 10000) (hF : 0 ≤ S 3 b) (hF2 : S 3 b ≤ 10000) : ∃ M', f_L_endAt_52 (iI b) M = some M' ∧ RelX 52 (endS C b S) tt M' ∧ OnlyX 52 M M' := by
  have hb6 := sz6 hO hb
  obtain ⟨a1, a2, a3, a4, a5, a6⟩ := A.1 b hb
  have r0 : rd (M.1 55) 6 (iI (b : Int)) = some (iI (S 0 b)) := h.rd 0 b (fx 0 rfl) (by decide) hb6 rfl
  have r1 : rd (M.1 57) 6 (iI (b : Int)) = some (iI (S 1 b)) := h.rd 1 b (fx 1 rfl) (by decide) hb6 rfl
  have r2 : rd (M.1 56) 6 (iI (b : Int)) = some (iI (S 2 b)) := h.rd 2 b (fx 2 rfl) (by decide) hb6 rfl
  have r14 : M.1 52 14 = iI (S 14 0) := h.1 14 0 (fx 14 rfl) (by decide)
  have c0 : (iI (S 0 b) = 0) ↔ S 0 b = 0 := by rw [l0]; exact iI_eq (by omega) (by omega) (by omega) (by omega)
  have c1 : (iI (S 1 b) = iI (S 14 0)) ↔ S 1 b = S 14 0 := iI_eq (by omega) (by omega) (by omega) (by omega)
  have c2 : (iI (S 0 b) = 2) ↔ S 0 b = 2 := by rw [l2]; exact iI_eq (by omega) (by omega) (by omega) (by omega)
  unfold f_L_endAt_52 j_L_endAt_52_69 endS
  rw [r0, Option.bind_some]
  by_cases e0 : S 0 b = 0
  · rw [if_pos (c0.mpr e0), if_pos (Or.inl e0)]; exact ⟨M, rfl, h, OnlyX.rf⟩
  rw [if_neg (fun q => e0 (c0.mp q)), r1, Option.bind_some, r14]
  by_cases e1 : S 1 b = S 14 0
  · have hne : ¬ (S 0 b = 0 ∨ S 1 b ≠ S 14 0) := fun q => q.elim e0 (fun q => q e1)
    rw [if_pos (c1.mpr e1), if_neg hne, Option.bind_some]
    by_cases e2 : S 0 b = 2
    · rw [if_pos (c2.mpr e2), if_pos e2, l0]
      obtain ⟨M2, w2, h2, o2⟩ : ∃ M2, wr M 55 6 (iI (b : Int)) (iI 0) = some M2 ∧ RelX 52 (uS S 0 b 0) tt M2 ∧ OnlyX 52 M M2 := h.wr 0 b (fx 0 rfl) (by decide) hb6 rfl
      exact ⟨M2, by rw [w2]; rfl, h2, o2⟩
    · have e3 : S 0 b = 1 := by omega
      have hl2 := a3 e3
      obtain ⟨k, hk⟩ : ∃ k : Nat, S 2 b = (k : Int) := ⟨(S 2 b).toNat, by omega⟩
      have hk3 : k < 3 := by have := hO.2.1; omega
      have rc : f_P_cell (iI (b : Int)) (iI (k : Int)) = some (iI (3 * b + k)) := by unfold f_P_cell; rw [ixc]
      have cl : ¬ (iI (k : Int) < 0) := by rw [l0, iI_lt (by omega) (by omega) (by omega) (by omega)]; omega
      rw [if_neg (fun q => e2 (c2.mp q)), if_neg e2, r2, Option.bind_some, hk, if_neg cl, Option.bind_some, rc, Option.bind_some, Int.toNat_natCast]
      have r4 : rd (M.1 53) 18 (iI (3 * b + k)) = some (iI (S 4 (3 * b + k))) := h.rd 4 (3 * b + k) (fx 4 rfl) (by decide) (by simp only [szX]; omega) (by simp only [ixX]; omega)
      rw [r4, Option.bind_some]
      obtain ⟨M2, w2, h2, o2⟩ : ∃ M2, wr M 53 18 (iI (3 * b + k)) (iI (S 4 (3 * b + k) + 1)) = some M2 ∧ RelX 52 (uS S 4 (3 * b + k) (S 4 (3 * b + k) + 1)) tt M2 ∧ OnlyX 52 M M2 := h.wr 4 (3 * b + k) (fx 4 rfl) (by decide) (by simp only [szX]; omega) (by simp only [ixX]; omega)
      rw [show iI (S 4 (3 * b + k)) + 1 = iI (S 4 (3 * b + k) + 1) by rw [l1, iI_add], w2, Option.bind_some]
      have r3 : rd (M2.1 58) 6 (iI (b : Int)) = some (iI (S 3 b)) := h2.rd 3 b (fx 3 rfl) (by decide) hb6 rfl
      rw [r3, Option.bind_some]
      obtain ⟨M3, w3, h3, o3⟩ : ∃ M3, wr M2 58 6 (iI (b : Int)) (iI (S 3 b + 1)) = some M3 ∧ RelX 52 (uS (uS S 4 (3 * b + k) (S 4 (3 * b + k) + 1)) 3 b (S 3 b + 1)) tt M3 ∧ OnlyX 52 M2 M3 := h2.wr 3 b (fx 3 rfl) (by decide) hb6 rfl
      rw [show iI (S 3 b) + 1 = iI (S 3 b + 1) by rw [l1, iI_add], w3, Option.bind_some]
      obtain ⟨M4, w4, h4, o4⟩ : ∃ M4, wr M3 55 6 (iI (b : Int)) (iI 0) = some M4 ∧ RelX 52 (uS (uS (uS S 4 (3 * b + k) (S 4 (3 * b + k) + 1)) 3 b (S 3 b + 1)) 0 b 0) tt M4 ∧ OnlyX 52 M3 M4 := h3.wr 0 b (fx 0 rfl) (by decide) hb6 rfl
      rw [l0, w4, Option.bind_some, ← l0]
      have o : OnlyX 52 M M4 := (o2.tr o3).tr o4
      have hC4 := o.cfg (by decide) hC
      have hg := hC4.2.2.2.1 b hb6 hb
      have hB := hO.2.2.2.2.2.2.1 b
      have re : rd (M4.1 5) 6 (iI (b : Int)) = some (iI (C 5 b)) := by rw [rd_iI (by omega) (by omega) (by decide), Int.toNat_natCast, hg.2.2]
      rw [re]
      have c3 : (iI (C 5 b) ≤ 0) ↔ C 5 b = 0 := by rw [l0, iI_le (by omega) (by omega) (by omega) (by omega)]; omega
      simp only [Option.bind_some, c3]
      by_cases e5 : C 5 b = 0
      · rw [if_pos e5, if_pos (Or.inl e5)]
        exact ⟨M4, rfl, h4.skip (by unfold fdX; omega) _, o⟩
      · rw [if_neg e5]
        have r5 : rd (M4.1 58) 6 (iI (b : Int)) = some (iI (S 3 b + 1)) := by
          have := h4.rd 3 b (z := b) (fx 3 rfl) (by decide) hb6 rfl
          rw [uS_nf (by decide), uS_eq] at this
          exact this
        rw [r5]
        simp only [Option.bind_some]
        rw [P_rem (by omega) (by omega) (by omega) (by omega)]
        have hmod : 0 ≤ (S 3 b + 1) % C 5 b ∧ (S 3 b + 1) % C 5 b < C 5 b := ⟨Int.emod_nonneg _ e5, Int.emod_lt_of_pos _ (by omega)⟩
        have c4 : (iI ((S 3 b + 1) % C 5 b) = 0) ↔ (S 3 b + 1) % C 5 b = 0 := by rw [l0]; exact iI_eq (by omega) (by omega) (by omega) (by omega)
        simp only [Option.bind_some, c4]
        by_cases e6 : (S 3 b + 1) % C 5 b = 0
        · have hn6 : ¬ (C 5 b = 0 ∨ (S 3 b + 1) % C 5 b ≠ 0) := fun q => q.elim e5 (fun q => q e6)
          rw [if_pos e6, if_neg hn6]
          have h4' := h4.skip (i := 17) (j := b) (by unfold fdX; omega) (-2)
          obtain ⟨M5, w5, h5, o5⟩ : ∃ M5, wr M4 55 6 (iI (b : Int)) (iI 2) = some M5 ∧ RelX 52 (uS (uS (uS (uS (uS S 4 (3 * b + k) (S 4 (3 * b + k) + 1)) 3 b (S 3 b + 1)) 0 b 0) 17 b (-2)) 0 b 2) tt M5 ∧ OnlyX 52 M4 M5 := h4'.wr 0 b (fx 0 rfl) (by decide) hb6 rfl
          rw [l2, w5, Option.bind_some]
          have hC5 := (o.tr o5).cfg (by decide) hC
          have r6 : rd (M5.1 4) 6 (iI (b : Int)) = some (iI (C 4 b)) := by rw [rd_iI (by omega) (by omega) (by decide), Int.toNat_natCast, (hC5.2.2.2.1 b hb6 hb).2.1]
          have r7 : M5.1 52 14 = iI (S 14 0) := by
            have := h5.1 14 0 (fx 14 rfl) (by decide)
            rw [uS_nf (by decide), uS_nf (by decide), uS_nf (by decide), uS_nf (by decide), uS_nf (by decide)] at this
            exact this
          rw [r6, r7]
          simp only [Option.bind_some, iI_add]
          obtain ⟨M6, w6, h6, o6⟩ : ∃ M6, wr M5 57 6 (iI (b : Int)) (iI (S 14 0 + C 4 b)) = some M6 ∧ RelX 52 (uS (uS (uS (uS (uS (uS S 4 (3 * b + k) (S 4 (3 * b + k) + 1)) 3 b (S 3 b + 1)) 0 b 0) 17 b (-2)) 0 b 2) 1 b (S 14 0 + C 4 b)) tt M6 ∧ OnlyX 52 M5 M6 := h5.wr 1 b (fx 1 rfl) (by decide) hb6 rfl
          rw [w6]
          refine ⟨M6, rfl, ?_, (o.tr o5).tr o6⟩
          rw [uS_comm _ (i := 0) (i2 := 17) _ _ (by decide), uS_twice] at h6
          exact h6
        · rw [if_neg e6, if_pos (Or.inr e6)]
          exact ⟨M4, rfl, h4.skip (by unfold fdX; omega) _, o⟩
  · rw [if_neg (fun q => e1 (c1.mp q)), if_pos (Or.inr e1)]; exact ⟨M, rfl, h, OnlyX.rf⟩
theorem X_takeOrder_52 {C S : SS} {tt : Int} {M : Mm} {i : Nat} (hC : CfgX C M) (hO : CfgOk C) (h : RelX 52 (comN C i S) tt M) (hi : (i : Int) < C 0 2) (hT : 0 ≤ S 14 0) (hT2 : S 14 0 ≤ 10000) : ∃ M', f_L_takeOrder_52 (iI i) M = some M' ∧ RelX 52 (comN C (i + 1) S) tt M' ∧ OnlyX 52 M M' := by
  have hi4 : i < 4 := by have := hO.2.2.2.2.2.1; omega
  have hg := hC.2.2.2.2 i hi4 hi
  have hb := hO.2.2.2.2.2.2.2.2 i hi
  have hk3 := hO.2.1
  obtain ⟨k, hk⟩ : ∃ k : Nat, C 6 i = (k : Int) := ⟨(C 6 i).toNat, by omega⟩
  have hkk : k < 3 := by omega
  have r14 : M.1 52 14 = iI (S 14 0) := by
    have := h.1 14 0 (fx 14 rfl) (by decide)
    exact this
  have g6 : rd (M.1 6) 4 (iI (i : Int)) = some (iI (k : Int)) := by rw [rd_iI (by omega) (by omega) (by decide), Int.toNat_natCast, hg.1, hk]
  have g7 : rd (M.1 7) 4 (iI (i : Int)) = some (iI (C 7 i)) := by rw [rd_iI (by omega) (by omega) (by decide), Int.toNat_natCast, hg.2.1]
  have g8 : rd (M.1 8) 4 (iI (i : Int)) = some (iI (C 8 i)) := by rw [rd_iI (by omega) (by omega) (by decide), Int.toNat_natCast, hg.2.2]
  rw [comN_s hk hkk]
  unfold f_L_takeOrder_52
  simp only [g6, g7, g8, r14, Option.bind_some, iI_sub]
  have c0 : (iI (S 14 0 - C 8 i) < 0) ↔ S 14 0 - C 8 i < 0 := iI_lt (b := 0) (by omega) (by omega) (by omega) (by omega)
  simp only [c0]
  by_cases e0 : S 14 0 - C 8 i < 0
  · rw [if_pos e0, if_neg (by omega)]; exact ⟨M, rfl, h, OnlyX.rf⟩
  · rw [if_neg e0, P_rem (by omega) (by omega) (by omega) (by omega)]
    have hm : 0 ≤ (S 14 0 - C 8 i) % C 7 i ∧ (S 14 0 - C 8 i) % C 7 i < C 7 i := ⟨Int.emod_nonneg _ (by omega), Int.emod_lt_of_pos _ (by omega)⟩
    have c3 : (iI ((S 14 0 - C 8 i) % C 7 i) = 0) ↔ (S 14 0 - C 8 i) % C 7 i = 0 := iI_eq (b := 0) (by omega) (by omega) (by omega) (by omega)
    simp only [Option.bind_some, c3]
    by_cases e3 : (S 14 0 - C 8 i) % C 7 i = 0
    · rw [if_pos e3, if_pos ⟨by omega, e3⟩]
      have r5 : rd (M.1 61) 3 (iI (k : Int)) = some (iI (comN C i S 5 k)) := h.rd 5 k (fx 5 rfl) (by decide) hkk rfl
      rw [r5]
      simp only [Option.bind_some]
      obtain ⟨M2, w2, h2, o2⟩ : ∃ M2, wr M 61 3 (iI (k : Int)) (iI (comN C i S 5 k + 1)) = some M2 ∧ RelX 52 (uS (comN C i S) 5 k (comN C i S 5 k + 1)) tt M2 ∧ OnlyX 52 M M2 := h.wr 5 k (fx 5 rfl) (by decide) hkk rfl
      rw [l1, iI_add, w2]
      simp only [Option.bind_some]
      have r6 : rd (M2.1 62) 3 (iI (k : Int)) = some (iI (comN C i S 16 k)) := by
        have := h2.rd 16 k (z := k) (fx 16 rfl) (by decide) hkk rfl
        rw [uS_nf (by decide)] at this
        exact this
      rw [r6]
      simp only [Option.bind_some, iI_add]
      obtain ⟨M3, w3, h3, o3⟩ : ∃ M3, wr M2 62 3 (iI (k : Int)) (iI (comN C i S 16 k + 1)) = some M3 ∧ RelX 52 (uS (uS (comN C i S) 5 k (comN C i S 5 k + 1)) 16 k (comN C i S 16 k + 1)) tt M3 ∧ OnlyX 52 M2 M3 := h2.wr 16 k (fx 16 rfl) (by decide) hkk rfl
      rw [w3]
      exact ⟨M3, rfl, h3, o2.tr o3⟩
    · rw [if_neg e3, if_neg (fun q => e3 q.2)]
      exact ⟨M, rfl, h, OnlyX.rf⟩
theorem mn_iI {a b : Int} (ha : -2147483648 ≤ a) (ha2 : a < 2147483648) (hb : -2147483648 ≤ b) (hb2 : b < 2147483648) : mn (iI a) (iI b) = iI (min a b) := by
  unfold mn
  have c : (iI b < iI a) ↔ b < a := iI_lt hb hb2 ha ha2
  simp only [c]
  split
  · rw [Int.min_eq_right (by omega)]
  · rw [Int.min_eq_left (by omega)]
theorem mx_iI {a b : Int} (ha : -2147483648 ≤ a) (ha2 : a < 2147483648) (hb : -2147483648 ≤ b) (hb2 : b < 2147483648) : mx (iI a) (iI b) = iI (max a b) := by
  unfold mx
  have c : (iI a < iI b) ↔ a < b := iI_lt ha ha2 hb hb2
  simp only [c]
  split
  · rw [Int.max_eq_right (by omega)]
  · rw [Int.max_eq_left (by omega)]
theorem sdS_s {C S : SS} {n : Nat} (hn : n < 3) : ∀ a b, sdS C (n + 1) S a b = (if 0 < dvS C S n then (if S 12 n = -2 then uS (uS (uS (uS (uS (sdS C n S) 16 n (sdS C n S 16 n - dvS C S n)) 4 (3 * ((C 0 1).toNat - 1) + n) (S 4 (3 * ((C 0 1).toNat - 1) + n) - dvS C S n)) 15 (3 * ((C 0 1).toNat - 1) + n) (S 15 (3 * ((C 0 1).toNat - 1) + n) - dvS C S n)) 6 n (S 6 n + dvS C S n)) 12 n (S 14 0) else uS (uS (uS (uS (sdS C n S) 16 n (sdS C n S 16 n - dvS C S n)) 4 (3 * ((C 0 1).toNat - 1) + n) (S 4 (3 * ((C 0 1).toNat - 1) + n) - dvS C S n)) 15 (3 * ((C 0 1).toNat - 1) + n) (S 15 (3 * ((C 0 1).toNat - 1) + n) - dvS C S n)) 6 n (S 6 n + dvS C S n)) else (if dvS C S n = 0 then sdS C n S else sdS C (n + 1) S)) a b := by
  intro a b
  generalize hl : 3 * ((C 0 1).toNat - 1) = l
  generalize hd : dvS C S n = d
  have e16 : sdS C n S 16 n = S 16 n + arS C n (S 14 0) := by unfold sdS; grind
  by_cases h0 : 0 < d
  · rw [if_pos h0]
    by_cases h12 : S 12 n = -2
    · rw [if_pos h12, e16]
      by_cases ha : a = 4 ∨ a = 15
      · by_cases hb : b = l + n
        · subst hb
          rcases ha with rfl | rfl
          · unfold sdS uS; rw [hl]; simp [hd]
          · unfold sdS uS; rw [hl]; simp [hd]
        · rcases ha with rfl | rfl
          · unfold sdS uS; rw [hl]; simp; grind
          · unfold sdS uS; rw [hl]; simp; grind
      · have ha4 : a ≠ 4 := fun e => ha (Or.inl e)
        have ha15 : a ≠ 15 := fun e => ha (Or.inr e)
        unfold sdS uS; rw [hl]; simp [ha4, ha15]; grind
    · rw [if_neg h12, e16]
      by_cases ha : a = 4 ∨ a = 15
      · by_cases hb : b = l + n
        · subst hb
          rcases ha with rfl | rfl
          · unfold sdS uS; rw [hl]; simp [hd]
          · unfold sdS uS; rw [hl]; simp [hd]
        · rcases ha with rfl | rfl
          · unfold sdS uS; rw [hl]; simp; grind
          · unfold sdS uS; rw [hl]; simp; grind
      · have ha4 : a ≠ 4 := fun e => ha (Or.inl e)
        have ha15 : a ≠ 15 := fun e => ha (Or.inr e)
        unfold sdS uS; rw [hl]; simp [ha4, ha15]; grind
  · rw [if_neg h0]
    by_cases hz : d = 0
    · rw [if_pos hz]
      subst hz
      by_cases ha : a = 4 ∨ a = 15
      · by_cases hb : b = l + n
        · subst hb
          rcases ha with rfl | rfl
          · unfold sdS; rw [hl]; simp [hd]
          · unfold sdS; rw [hl]; simp [hd]
        · rcases ha with rfl | rfl
          · unfold sdS; rw [hl]; simp; grind
          · unfold sdS; rw [hl]; simp; grind
      · have ha4 : a ≠ 4 := fun e => ha (Or.inl e)
        have ha15 : a ≠ 15 := fun e => ha (Or.inr e)
        unfold sdS; rw [hl]; simp [ha4, ha15]; grind
    · rw [if_neg hz]

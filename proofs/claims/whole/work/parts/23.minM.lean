theorem M_ends_15 {C S Q : SS} {M : Mm} {b : Nat} (hC : CfgM C M) (hO : CfgOk C) (h : RelM 15 S Q M) (hb : (b : Int) < C 0 1) (A : AvS C S) (hT : 0 ≤ S 14 0) (hT2 : S 14 0 ≤ 10000) (hF : 0 ≤ S 3 b) (hF2 : S 3 b ≤ 10000) : ∃ M', f_M_ends_0_15 (iI b) (iI (S 14 0)) M = some M' ∧ RelM 15 (endS C b S) Q M' ∧ Only 15 M M' := by
  have hb6 := sz6 hO hb
  obtain ⟨a1, a2, a3, a4, a5, a6⟩ := A.1 b hb
  have r0 : rd (M.1 15) 99 (iI (3 + 9 * b + 0)) = some (iI (S 0 b)) := rdM h 0 b (fd 0 rfl) hb6 (by simp only [lyM]; omega)
  have r1 : rd (M.1 15) 99 (iI (3 + 9 * b + 2)) = some (iI (S 1 b)) := rdM h 1 b (fd 1 rfl) hb6 (by simp only [lyM]; omega)
  unfold f_M_ends_0_15 endS
  simp only [f_M_of, Option.bind_some, l0, l1, l2, ix3, r0, r1]
  have c0 : (iI (S 0 b) = iI 0) ↔ S 0 b = 0 := iI_eq (by omega) (by omega) (by omega) (by omega)
  have c1 : (iI (S 1 b) = iI (S 14 0)) ↔ S 1 b = S 14 0 := iI_eq (by omega) (by omega) (by omega) (by omega)
  have c2 : (iI (S 0 b) = iI 1) ↔ S 0 b = 1 := iI_eq (by omega) (by omega) (by omega) (by omega)
  simp only [c0, c1, c2]
  by_cases e0 : S 0 b = 0
  · rw [if_pos e0, if_pos (Or.inl e0)]; exact ⟨M, rfl, h, Only.rf⟩
  rw [if_neg e0]
  by_cases e1 : S 1 b = S 14 0
  · have hne : ¬ (S 0 b = 0 ∨ S 1 b ≠ S 14 0) := fun q => q.elim e0 (fun q => q e1)
    rw [if_pos e1, if_neg hne]
    unfold j_M_ends_0_15_38
    simp only [f_M_of, f_M_store, Option.bind_some, l0, l1, l2, ix3]
    obtain ⟨M2, w2, h2, o2⟩ := h.wr 0 b (z := 3 + 9 * b + 0) (x := 0) (fd 0 rfl) hb6 (by simp only [lyM]; omega)
    by_cases e2 : S 0 b = 1
    · rw [if_pos e2, w2, if_neg (show ¬ S 0 b = 2 by omega)]
      simp only [Option.bind_some]
      rw [if_neg (show ¬ iI 1 = iI 0 by decide)]
      have hla : S 17 b = S 2 b := by rw [a4, if_pos e2]
      have hl2 := a3 e2
      obtain ⟨k, hk⟩ : ∃ k : Nat, S 2 b = (k : Int) := ⟨(S 2 b).toNat, by omega⟩
      have hk3 : k < 3 := by have := hO.2.1; omega
      rw [rdM h2 17 b (z := 3 + 9 * b + 1) (fd 17 rfl) hb6 (by simp only [lyM]; omega), uS_nf (by decide), hla, hk]
      simp only [Option.bind_some, ix57, Int.toNat_natCast]
      rw [rdM h2 4 (3 * b + k) (z := 57 + 3 * b + k) (fd 4 rfl) (by simp only [szS]; omega) (by simp only [lyM]; omega), uS_nf (by decide)]
      simp only [Option.bind_some, iI_add, iI_neg, l4, ix3]
      obtain ⟨M3, w3, h3, o3⟩ := h2.wr 4 (3 * b + k) (z := 57 + 3 * b + k) (x := S 4 (3 * b + k) + 1) (fd 4 rfl) (by simp only [szS]; omega) (by simp only [lyM]; omega)
      rw [w3]
      simp only [Option.bind_some]
      obtain ⟨M4, w4, h4, o4⟩ := h3.wr 17 b (z := 3 + 9 * b + 1) (x := -2) (fd 17 rfl) hb6 (by simp only [lyM]; omega)
      rw [w4]
      simp only [Option.bind_some]
      rw [rdM h4 3 b (z := 3 + 9 * b + 4) (fd 3 rfl) hb6 (by simp only [lyM]; omega), uS_nf (by decide), uS_nf (by decide), uS_nf (by decide)]
      simp only [Option.bind_some, iI_add]
      obtain ⟨M5, w5, h5, o5⟩ := h4.wr 3 b (z := 3 + 9 * b + 4) (x := S 3 b + 1) (fd 3 rfl) hb6 (by simp only [lyM]; omega)
      rw [w5]
      simp only [Option.bind_some]
      have o : Only 15 M M5 := ((o2.tr o3).tr o4).tr o5
      have hC5 := o.cfg (by decide) hC
      have hev := (hC5.2.2.2.1 b hb6 hb).2.2
      have hre := (hC5.2.2.2.1 b hb6 hb).2.1
      have hB := hO.2.2.2.2.2.2.1 b
      rw [rd_iI (n := 12) (by omega) (by omega) (by decide), Int.toNat_natCast, hev]
      simp only [Option.bind_some]
      have c3 : (iI (C 5 b) = iI 0) ↔ C 5 b = 0 := iI_eq (by omega) (by omega) (by omega) (by omega)
      simp only [c3]
      have hfin : uS (uS (uS (uS S 0 b 0) 4 (3 * b + k) (S 4 (3 * b + k) + 1)) 17 b (-2)) 3 b (S 3 b + 1) = uS (uS (uS (uS S 4 (3 * b + k) (S 4 (3 * b + k) + 1)) 3 b (S 3 b + 1)) 0 b 0) 17 b (-2) := by
        rw [uS_comm S (i := 0) (i2 := 4) _ _ (by decide), uS_comm _ (i := 17) (i2 := 3) _ _ (by decide), uS_comm _ (i := 0) (i2 := 3) _ _ (by decide)]
      by_cases e3 : C 5 b = 0
      · rw [if_pos e3, if_pos (Or.inl e3)]
        exact ⟨M5, rfl, by rw [← hfin]; exact h5, o⟩
      · rw [if_neg e3, rdM h5 3 b (z := 3 + 9 * b + 4) (fd 3 rfl) hb6 (by simp only [lyM]; omega), uS_eq]
        simp only [Option.bind_some]
        rw [rmI_iI (by omega) (by omega) (by omega) (by omega)]
        simp only [Option.bind_some]
        have hmod : 0 ≤ (S 3 b + 1) % C 5 b ∧ (S 3 b + 1) % C 5 b < C 5 b := ⟨Int.emod_nonneg _ e3, Int.emod_lt_of_pos _ (by omega)⟩
        have c4 : (iI ((S 3 b + 1) % C 5 b) = iI 0) ↔ (S 3 b + 1) % C 5 b = 0 := iI_eq (by omega) (by omega) (by omega) (by omega)
        simp only [c4]
        by_cases e4 : (S 3 b + 1) % C 5 b = 0
        · have hn4 : ¬ (C 5 b = 0 ∨ (S 3 b + 1) % C 5 b ≠ 0) := fun q => q.elim e3 (fun q => q e4)
          rw [if_pos e4, if_neg hn4]
          obtain ⟨M6, w6, h6, o6⟩ := h5.wr 0 b (z := 3 + 9 * b + 0) (x := 2) (fd 0 rfl) hb6 (by simp only [lyM]; omega)
          rw [w6]
          simp only [Option.bind_some]
          have hC6 := o6.cfg (by decide) hC5
          have hre := (hC6.2.2.2.1 b hb6 hb).2.1
          rw [rd_iI (n := 12) (by omega) (by omega) (by decide), Int.toNat_natCast, hre]
          simp only [Option.bind_some, iI_add]
          obtain ⟨M7, w7, h7, o7⟩ := h6.wr 1 b (z := 3 + 9 * b + 2) (x := S 14 0 + C 4 b) (fd 1 rfl) hb6 (by simp only [lyM]; omega)
          rw [w7]
          refine ⟨M7, rfl, ?_, (o.tr o6).tr o7⟩
          have e : uS (uS (uS (uS (uS (uS S 0 b 0) 4 (3 * b + k) (S 4 (3 * b + k) + 1)) 17 b (-2)) 3 b (S 3 b + 1)) 0 b 2) 1 b (S 14 0 + C 4 b) = uS (uS (uS (uS (uS S 4 (3 * b + k) (S 4 (3 * b + k) + 1)) 3 b (S 3 b + 1)) 17 b (-2)) 0 b 2) 1 b (S 14 0 + C 4 b) := by
            rw [hfin, uS_comm _ (i := 0) (i2 := 17) _ _ (by decide), uS_twice]
          rw [← e]
          exact h7
        · rw [if_neg e4, if_pos (Or.inr e4)]
          exact ⟨M5, rfl, by rw [← hfin]; exact h5, o⟩
    · rw [if_neg e2, w2, if_pos (show S 0 b = 2 by omega)]
      simp only [Option.bind_some, if_true]
      exact ⟨M2, rfl, h2, o2⟩
  · rw [if_neg e1, if_pos (Or.inr e1)]; exact ⟨M, rfl, h, Only.rf⟩
theorem M_ends_16 {C S Q : SS} {M : Mm} {b : Nat} (hC : CfgM C M) (hO : CfgOk C) (h : RelM 16 S Q M) (hb : (b : Int) < C 0 1) (A : AvS C S) (hT : 0 ≤ S 14 0) (hT2 : S 14 0 ≤ 10000) (hF : 0 ≤ S 3 b) (hF2 : S 3 b ≤ 10000) : ∃ M', f_M_ends_0_16 (iI b) (iI (S 14 0)) M = some M' ∧ RelM 16 (endS C b S) Q M' ∧ Only 16 M M' := by
  have hb6 := sz6 hO hb
  obtain ⟨a1, a2, a3, a4, a5, a6⟩ := A.1 b hb
  have r0 : rd (M.1 16) 99 (iI (3 + 9 * b + 0)) = some (iI (S 0 b)) := rdM h 0 b (fd 0 rfl) hb6 (by simp only [lyM]; omega)
  have r1 : rd (M.1 16) 99 (iI (3 + 9 * b + 2)) = some (iI (S 1 b)) := rdM h 1 b (fd 1 rfl) hb6 (by simp only [lyM]; omega)
  unfold f_M_ends_0_16 endS
  simp only [f_M_of, Option.bind_some, l0, l1, l2, ix3, r0, r1]
  have c0 : (iI (S 0 b) = iI 0) ↔ S 0 b = 0 := iI_eq (by omega) (by omega) (by omega) (by omega)
  have c1 : (iI (S 1 b) = iI (S 14 0)) ↔ S 1 b = S 14 0 := iI_eq (by omega) (by omega) (by omega) (by omega)
  have c2 : (iI (S 0 b) = iI 1) ↔ S 0 b = 1 := iI_eq (by omega) (by omega) (by omega) (by omega)
  simp only [c0, c1, c2]
  by_cases e0 : S 0 b = 0
  · rw [if_pos e0, if_pos (Or.inl e0)]; exact ⟨M, rfl, h, Only.rf⟩
  rw [if_neg e0]
  by_cases e1 : S 1 b = S 14 0
  · have hne : ¬ (S 0 b = 0 ∨ S 1 b ≠ S 14 0) := fun q => q.elim e0 (fun q => q e1)
    rw [if_pos e1, if_neg hne]
    unfold j_M_ends_0_16_38
    simp only [f_M_of, f_M_store, Option.bind_some, l0, l1, l2, ix3]
    obtain ⟨M2, w2, h2, o2⟩ := h.wr 0 b (z := 3 + 9 * b + 0) (x := 0) (fd 0 rfl) hb6 (by simp only [lyM]; omega)
    by_cases e2 : S 0 b = 1
    · rw [if_pos e2, w2, if_neg (show ¬ S 0 b = 2 by omega)]
      simp only [Option.bind_some]
      rw [if_neg (show ¬ iI 1 = iI 0 by decide)]
      have hla : S 17 b = S 2 b := by rw [a4, if_pos e2]
      have hl2 := a3 e2
      obtain ⟨k, hk⟩ : ∃ k : Nat, S 2 b = (k : Int) := ⟨(S 2 b).toNat, by omega⟩
      have hk3 : k < 3 := by have := hO.2.1; omega
      rw [rdM h2 17 b (z := 3 + 9 * b + 1) (fd 17 rfl) hb6 (by simp only [lyM]; omega), uS_nf (by decide), hla, hk]
      simp only [Option.bind_some, ix57, Int.toNat_natCast]
      rw [rdM h2 4 (3 * b + k) (z := 57 + 3 * b + k) (fd 4 rfl) (by simp only [szS]; omega) (by simp only [lyM]; omega), uS_nf (by decide)]
      simp only [Option.bind_some, iI_add, iI_neg, l4, ix3]
      obtain ⟨M3, w3, h3, o3⟩ := h2.wr 4 (3 * b + k) (z := 57 + 3 * b + k) (x := S 4 (3 * b + k) + 1) (fd 4 rfl) (by simp only [szS]; omega) (by simp only [lyM]; omega)
      rw [w3]
      simp only [Option.bind_some]
      obtain ⟨M4, w4, h4, o4⟩ := h3.wr 17 b (z := 3 + 9 * b + 1) (x := -2) (fd 17 rfl) hb6 (by simp only [lyM]; omega)
      rw [w4]
      simp only [Option.bind_some]
      rw [rdM h4 3 b (z := 3 + 9 * b + 4) (fd 3 rfl) hb6 (by simp only [lyM]; omega), uS_nf (by decide), uS_nf (by decide), uS_nf (by decide)]
      simp only [Option.bind_some, iI_add]
      obtain ⟨M5, w5, h5, o5⟩ := h4.wr 3 b (z := 3 + 9 * b + 4) (x := S 3 b + 1) (fd 3 rfl) hb6 (by simp only [lyM]; omega)
      rw [w5]
      simp only [Option.bind_some]
      have o : Only 16 M M5 := ((o2.tr o3).tr o4).tr o5
      have hC5 := o.cfg (by decide) hC
      have hev := (hC5.2.2.2.1 b hb6 hb).2.2
      have hre := (hC5.2.2.2.1 b hb6 hb).2.1
      have hB := hO.2.2.2.2.2.2.1 b
      rw [rd_iI (n := 12) (by omega) (by omega) (by decide), Int.toNat_natCast, hev]
      simp only [Option.bind_some]
      have c3 : (iI (C 5 b) = iI 0) ↔ C 5 b = 0 := iI_eq (by omega) (by omega) (by omega) (by omega)
      simp only [c3]
      have hfin : uS (uS (uS (uS S 0 b 0) 4 (3 * b + k) (S 4 (3 * b + k) + 1)) 17 b (-2)) 3 b (S 3 b + 1) = uS (uS (uS (uS S 4 (3 * b + k) (S 4 (3 * b + k) + 1)) 3 b (S 3 b + 1)) 0 b 0) 17 b (-2) := by
        rw [uS_comm S (i := 0) (i2 := 4) _ _ (by decide), uS_comm _ (i := 17) (i2 := 3) _ _ (by decide), uS_comm _ (i := 0) (i2 := 3) _ _ (by decide)]
      by_cases e3 : C 5 b = 0
      · rw [if_pos e3, if_pos (Or.inl e3)]
        exact ⟨M5, rfl, by rw [← hfin]; exact h5, o⟩
      · rw [if_neg e3, rdM h5 3 b (z := 3 + 9 * b + 4) (fd 3 rfl) hb6 (by simp only [lyM]; omega), uS_eq]
        simp only [Option.bind_some]
        rw [rmI_iI (by omega) (by omega) (by omega) (by omega)]
        simp only [Option.bind_some]
        have hmod : 0 ≤ (S 3 b + 1) % C 5 b ∧ (S 3 b + 1) % C 5 b < C 5 b := ⟨Int.emod_nonneg _ e3, Int.emod_lt_of_pos _ (by omega)⟩
        have c4 : (iI ((S 3 b + 1) % C 5 b) = iI 0) ↔ (S 3 b + 1) % C 5 b = 0 := iI_eq (by omega) (by omega) (by omega) (by omega)
        simp only [c4]
        by_cases e4 : (S 3 b + 1) % C 5 b = 0
        · have hn4 : ¬ (C 5 b = 0 ∨ (S 3 b + 1) % C 5 b ≠ 0) := fun q => q.elim e3 (fun q => q e4)
          rw [if_pos e4, if_neg hn4]
          obtain ⟨M6, w6, h6, o6⟩ := h5.wr 0 b (z := 3 + 9 * b + 0) (x := 2) (fd 0 rfl) hb6 (by simp only [lyM]; omega)
          rw [w6]
          simp only [Option.bind_some]
          have hC6 := o6.cfg (by decide) hC5
          have hre := (hC6.2.2.2.1 b hb6 hb).2.1
          rw [rd_iI (n := 12) (by omega) (by omega) (by decide), Int.toNat_natCast, hre]
          simp only [Option.bind_some, iI_add]
          obtain ⟨M7, w7, h7, o7⟩ := h6.wr 1 b (z := 3 + 9 * b + 2) (x := S 14 0 + C 4 b) (fd 1 rfl) hb6 (by simp only [lyM]; omega)
          rw [w7]
          refine ⟨M7, rfl, ?_, (o.tr o6).tr o7⟩
          have e : uS (uS (uS (uS (uS (uS S 0 b 0) 4 (3 * b + k) (S 4 (3 * b + k) + 1)) 17 b (-2)) 3 b (S 3 b + 1)) 0 b 2) 1 b (S 14 0 + C 4 b) = uS (uS (uS (uS (uS S 4 (3 * b + k) (S 4 (3 * b + k) + 1)) 3 b (S 3 b + 1)) 17 b (-2)) 0 b 2) 1 b (S 14 0 + C 4 b) := by
            rw [hfin, uS_comm _ (i := 0) (i2 := 17) _ _ (by decide), uS_twice]
          rw [← e]
          exact h7
        · rw [if_neg e4, if_pos (Or.inr e4)]
          exact ⟨M5, rfl, by rw [← hfin]; exact h5, o⟩
    · rw [if_neg e2, w2, if_pos (show S 0 b = 2 by omega)]
      simp only [Option.bind_some, if_true]
      exact ⟨M2, rfl, h2, o2⟩
  · rw [if_neg e1, if_pos (Or.inr e1)]; exact ⟨M, rfl, h, Only.rf⟩

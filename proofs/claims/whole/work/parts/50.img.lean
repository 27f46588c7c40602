/-- a row of the reference is copied -/
theorem M_keep1 {M : Mm} {i : Nat} (hi : i < 2) : ∃ N, lp_M_keep_0_29 FW (iI i) 0 M = j_M_keep_0_58 (iI i) N ∧ (∀ j, j < 99 → N.1 17 (99 * i + j) = M.1 15 j) ∧ (∀ k, k < 99 * i ∨ 99 * i + 99 ≤ k → N.1 17 k = M.1 17 k) ∧ Only 17 M N := by
  have loop := loop_up (σ := Int32 × Mm) (γ := Option (Int32 × Mm)) (fun f s => lp_M_keep_0_29 f (iI i) s.1 s.2) 99 (fun n s => s.1 = iI (n : Int) ∧ (∀ j, j < n → s.2.1 17 (99 * i + j) = M.1 15 j) ∧ (∀ k, k < 99 * i ∨ 99 * i + 99 ≤ k → s.2.1 17 k = M.1 17 k) ∧ Only 17 M s.2) (fun s => j_M_keep_0_58 (iI i) s.2) ?_ ?_ FW (FW_gt (by omega)) (iI 0, M) ⟨rfl, fun c hc => absurd hc (by omega), fun _ _ => rfl, Only.rf⟩
  · obtain ⟨⟨x, N⟩, ⟨-, a1, a2, a3⟩, e⟩ := loop
    exact ⟨N, by rw [l0]; exact e, a1, a2, a3⟩
  · rintro f n ⟨x, N⟩ hn ⟨ex, a1, a2, a3⟩
    dsimp only at ex a1 a2 a3
    subst ex
    have r : rd (N.1 15) 99 (iI (n : Int)) = some (M.1 15 n) := by rw [rd_iI (by omega) (by omega) (by omega), Int.toNat_natCast, a3.1 15 (by decide)]
    have w2 : wr N 17 198 (iI (99 * (i : Int) + n)) (M.1 15 n) = some (u1 N 17 (99 * i + n) (M.1 15 n)) := by
      rw [wr_iI (by omega) (by omega) (by omega), show (99 * (i : Int) + n).toNat = 99 * i + n by omega]
    refine ⟨(iI ((n + 1 : Nat) : Int), u1 N 17 (99 * i + n) (M.1 15 n)), ?_, rfl, fun j hj => ?_, fun k hk => ?_, a3.u1⟩
    · show blp_M_keep_0_29 (lp_M_keep_0_29 f) (iI i) (iI (n : Int)) N = lp_M_keep_0_29 f (iI i) _ _
      unfold blp_M_keep_0_29
      have c0 : ¬ (99 ≤ iI (n : Int)) := by rw [show (99 : Int32) = iI 99 from rfl, iI_le (by omega) (by omega) (by omega) (by omega)]; omega
      rw [if_neg c0, r, Option.bind_some, show (99 : Int32) = iI 99 from rfl, iI_mul, iI_add, w2, Option.bind_some, l1, iI_add]
      rfl
    · show (u1 N 17 (99 * i + n) (M.1 15 n)).1 17 (99 * i + j) = _
      rw [u1_at]
      by_cases e : j = n
      · rw [if_pos ⟨rfl, by omega⟩, e]
      · rw [if_neg (by omega)]; exact a1 j (by omega)
    · show (u1 N 17 (99 * i + n) (M.1 15 n)).1 17 k = _
      rw [u1_at, if_neg (by omega)]; exact a2 k hk
  · rintro f ⟨x, N⟩ ⟨ex, a1, a2, a3⟩
    dsimp only at ex a1 a2 a3
    subst ex
    rfl
theorem M_keep2 {M : Mm} {i : Nat} (hi : i < 2) : ∃ N, j_M_keep_0_58 (iI i) M = j_M_keep_0_89 (iI i) N ∧ (∀ j, j < 37 → N.1 14 (37 * i + j) = M.1 10 j) ∧ (∀ k, k < 37 * i ∨ 37 * i + 37 ≤ k → N.1 14 k = M.1 14 k) ∧ Only 14 M N := by
  have loop := loop_up (σ := Int32 × Mm) (γ := Option (Int32 × Mm)) (fun f s => lp_M_keep_0_60 f (iI i) s.1 s.2) 37 (fun n s => s.1 = iI (n : Int) ∧ (∀ j, j < n → s.2.1 14 (37 * i + j) = M.1 10 j) ∧ (∀ k, k < 37 * i ∨ 37 * i + 37 ≤ k → s.2.1 14 k = M.1 14 k) ∧ Only 14 M s.2) (fun s => j_M_keep_0_89 (iI i) s.2) ?_ ?_ FW (FW_gt (by omega)) (iI 0, M) ⟨rfl, fun c hc => absurd hc (by omega), fun _ _ => rfl, Only.rf⟩
  · obtain ⟨⟨x, N⟩, ⟨-, a1, a2, a3⟩, e⟩ := loop
    exact ⟨N, by unfold j_M_keep_0_58; rw [l0]; exact e, a1, a2, a3⟩
  · rintro f n ⟨x, N⟩ hn ⟨ex, a1, a2, a3⟩
    dsimp only at ex a1 a2 a3
    subst ex
    have r : rd (N.1 10) 37 (iI (n : Int)) = some (M.1 10 n) := by rw [rd_iI (by omega) (by omega) (by omega), Int.toNat_natCast, a3.1 10 (by decide)]
    have w2 : wr N 14 74 (iI (37 * (i : Int) + n)) (M.1 10 n) = some (u1 N 14 (37 * i + n) (M.1 10 n)) := by
      rw [wr_iI (by omega) (by omega) (by omega), show (37 * (i : Int) + n).toNat = 37 * i + n by omega]
    refine ⟨(iI ((n + 1 : Nat) : Int), u1 N 14 (37 * i + n) (M.1 10 n)), ?_, rfl, fun j hj => ?_, fun k hk => ?_, a3.u1⟩
    · show blp_M_keep_0_60 (lp_M_keep_0_60 f) (iI i) (iI (n : Int)) N = lp_M_keep_0_60 f (iI i) _ _
      unfold blp_M_keep_0_60
      have c0 : ¬ (37 ≤ iI (n : Int)) := by rw [show (37 : Int32) = iI 37 from rfl, iI_le (by omega) (by omega) (by omega) (by omega)]; omega
      rw [if_neg c0, r, Option.bind_some, show (37 : Int32) = iI 37 from rfl, iI_mul, iI_add, w2, Option.bind_some, l1, iI_add]
      rfl
    · show (u1 N 14 (37 * i + n) (M.1 10 n)).1 14 (37 * i + j) = _
      rw [u1_at]
      by_cases e : j = n
      · rw [if_pos ⟨rfl, by omega⟩, e]
      · rw [if_neg (by omega)]; exact a1 j (by omega)
    · show (u1 N 14 (37 * i + n) (M.1 10 n)).1 14 k = _
      rw [u1_at, if_neg (by omega)]; exact a2 k hk
  · rintro f ⟨x, N⟩ ⟨ex, a1, a2, a3⟩
    dsimp only at ex a1 a2 a3
    subst ex
    rfl
theorem M_back1 {M : Mm} {i : Nat} (hi : i < 2) : ∃ N, lp_M_back_0_38 FW (iI i) 0 M = j_M_back_0_67 (iI i) N ∧ (∀ j, j < 99 → N.1 15 j = M.1 17 (99 * i + j)) ∧ Only 15 M N := by
  have loop := loop_up (σ := Int32 × Mm) (γ := Option (Int32 × Mm)) (fun f s => lp_M_back_0_38 f (iI i) s.1 s.2) 99 (fun n s => s.1 = iI (n : Int) ∧ (∀ j, j < n → s.2.1 15 j = M.1 17 (99 * i + j)) ∧ Only 15 M s.2) (fun s => j_M_back_0_67 (iI i) s.2) ?_ ?_ FW (FW_gt (by omega)) (iI 0, M) ⟨rfl, fun c hc => absurd hc (by omega), Only.rf⟩
  · obtain ⟨⟨x, N⟩, ⟨-, a1, a3⟩, e⟩ := loop
    exact ⟨N, by rw [l0]; exact e, a1, a3⟩
  · rintro f n ⟨x, N⟩ hn ⟨ex, a1, a3⟩
    dsimp only at ex a1 a3
    subst ex
    have r : rd (N.1 17) 198 (iI (99 * (i : Int) + n)) = some (M.1 17 (99 * i + n)) := by rw [rd_iI (by omega) (by omega) (by omega), show (99 * (i : Int) + n).toNat = 99 * i + n by omega, a3.1 17 (by decide)]
    have w2 : wr N 15 99 (iI (n : Int)) (M.1 17 (99 * i + n)) = some (u1 N 15 n (M.1 17 (99 * i + n))) := by
      rw [wr_iI (by omega) (by omega) (by omega), Int.toNat_natCast]
    refine ⟨(iI ((n + 1 : Nat) : Int), u1 N 15 n (M.1 17 (99 * i + n))), ?_, rfl, fun j hj => ?_, a3.u1⟩
    · show blp_M_back_0_38 (lp_M_back_0_38 f) (iI i) (iI (n : Int)) N = lp_M_back_0_38 f (iI i) _ _
      unfold blp_M_back_0_38
      have c0 : ¬ (99 ≤ iI (n : Int)) := by rw [show (99 : Int32) = iI 99 from rfl, iI_le (by omega) (by omega) (by omega) (by omega)]; omega
      rw [if_neg c0, show (99 : Int32) = iI 99 from rfl, iI_mul, iI_add, r, Option.bind_some, w2, Option.bind_some, l1, iI_add]
      rfl
    · show (u1 N 15 n (M.1 17 (99 * i + n))).1 15 j = _
      rw [u1_at]
      by_cases e : j = n
      · rw [if_pos ⟨rfl, e⟩, e]
      · rw [if_neg (fun q => e q.2)]; exact a1 j (by omega)
  · rintro f ⟨x, N⟩ ⟨ex, a1, a3⟩
    dsimp only at ex a1 a3
    subst ex
    rfl
theorem M_back2 {M : Mm} {i : Nat} (hi : i < 2) : ∃ N, j_M_back_0_67 (iI i) M = ((f_M_granted_0 0 (u1 N 0 35 0)).bind fun q3 => (zr q3.1).bind fun z4 => some (z4, q3.2)) ∧ (∀ j, j < 37 → N.1 10 j = M.1 14 (37 * i + j)) ∧ Only 10 M N := by
  have loop := loop_up (σ := Int32 × Mm) (γ := Option (Int32 × Mm)) (fun f s => lp_M_back_0_69 f (iI i) s.1 s.2) 37 (fun n s => s.1 = iI (n : Int) ∧ (∀ j, j < n → s.2.1 10 j = M.1 14 (37 * i + j)) ∧ Only 10 M s.2) (fun s => (f_M_granted_0 0 (u1 s.2 0 35 0)).bind fun q3 => (zr q3.1).bind fun z4 => some (z4, q3.2)) ?_ ?_ FW (FW_gt (by omega)) (iI 0, M) ⟨rfl, fun c hc => absurd hc (by omega), Only.rf⟩
  · obtain ⟨⟨x, N⟩, ⟨-, a1, a3⟩, e⟩ := loop
    exact ⟨N, by unfold j_M_back_0_67; rw [l0]; exact e, a1, a3⟩
  · rintro f n ⟨x, N⟩ hn ⟨ex, a1, a3⟩
    dsimp only at ex a1 a3
    subst ex
    have r : rd (N.1 14) 74 (iI (37 * (i : Int) + n)) = some (M.1 14 (37 * i + n)) := by rw [rd_iI (by omega) (by omega) (by omega), show (37 * (i : Int) + n).toNat = 37 * i + n by omega, a3.1 14 (by decide)]
    have w2 : wr N 10 37 (iI (n : Int)) (M.1 14 (37 * i + n)) = some (u1 N 10 n (M.1 14 (37 * i + n))) := by
      rw [wr_iI (by omega) (by omega) (by omega), Int.toNat_natCast]
    refine ⟨(iI ((n + 1 : Nat) : Int), u1 N 10 n (M.1 14 (37 * i + n))), ?_, rfl, fun j hj => ?_, a3.u1⟩
    · show blp_M_back_0_69 (lp_M_back_0_69 f) (iI i) (iI (n : Int)) N = lp_M_back_0_69 f (iI i) _ _
      unfold blp_M_back_0_69
      have c0 : ¬ (37 ≤ iI (n : Int)) := by rw [show (37 : Int32) = iI 37 from rfl, iI_le (by omega) (by omega) (by omega) (by omega)]; omega
      rw [if_neg c0, show (37 : Int32) = iI 37 from rfl, iI_mul, iI_add, r, Option.bind_some, w2, Option.bind_some, l1, iI_add]
      rfl
    · show (u1 N 10 n (M.1 14 (37 * i + n))).1 10 j = _
      rw [u1_at]
      by_cases e : j = n
      · rw [if_pos ⟨rfl, e⟩, e]
      · rw [if_neg (fun q => e q.2)]; exact a1 j (by omega)
  · rintro f ⟨x, N⟩ ⟨ex, a1, a3⟩
    dsimp only at ex a1 a3
    subst ex
    rfl
theorem RelM.row {K : Nat} {S Q : SS} {M : Mm} {r : Nat → Int32} (h : RelM K S Q M) (e : ∀ j, j < 99 → r j = M.1 K j) : RelM 0 S Q (fun _ => r, fun _ _ => 0) := by
  refine ⟨fun i j hi hj => (e _ (lyM_lt hi hj)).trans (h.1 i j hi hj), (e 1 (by omega)).trans h.2.1, fun q => (e 2 (by omega)).trans (h.2.2.1 q), fun k c hk hc => (e _ (by omega)).trans (h.2.2.2 k c hk hc)⟩

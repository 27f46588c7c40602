theorem X_Nclear (Z : Mm) : ∃ Y, f_N_clear_15 Z = some Y ∧ (∀ i, i < 3 → Y.1 15 i = iI 0) ∧ (∀ b, b < 6 → Y.1 16 b = iI 0 ∧ Y.1 17 b = iI 0 ∧ Y.1 18 b = iI 0) ∧ (∀ c, c < 18 → Y.1 25 c = iI 0 ∧ Y.1 26 c = iI 0) ∧ Y.1 24 2 = iI 0 ∧ ∀ q, q < 15 ∨ 26 < q → Y.1 q = Z.1 q := by
  refine ⟨_, rfl, fun i hi => ?_, fun b hb => ⟨?_, ?_, ?_⟩, fun c hc => ⟨?_, ?_⟩, ?_, fun q hq => ?_⟩
  · rw [u1_ne (by decide), s1_ne (by decide), s1_ne (by decide), s1_ne (by decide), s1_ne (by decide), s1_ne (by decide)]
    have q : i = 0 ∨ i = 1 ∨ i = 2 := by omega
    rcases q with rfl | rfl | rfl
    · rw [u1_s _ _ _ _ (by decide), u1_s _ _ _ _ (by decide), u1_self]; rfl
    · rw [u1_s _ _ _ _ (by decide), u1_self]; rfl
    · rw [u1_self]; rfl
  · rw [u1_ne (by decide), s1_ne (by decide), s1_ne (by decide), s1_ne (by decide), s1_ne (by decide), s1_same]
    unfold fil; rw [if_pos hb]; rfl
  · rw [u1_ne (by decide), s1_ne (by decide), s1_ne (by decide), s1_ne (by decide), s1_same]
    unfold fil; rw [if_pos hb]; rfl
  · rw [u1_ne (by decide), s1_ne (by decide), s1_ne (by decide), s1_same]
    unfold fil; rw [if_pos hb]; rfl
  · rw [u1_ne (by decide), s1_ne (by decide), s1_same]
    unfold fil; rw [if_pos hc]; rfl
  · rw [u1_ne (by decide), s1_same]
    unfold fil; rw [if_pos hc]; rfl
  · rw [u1_self]; rfl
  · rw [u1_ne (by omega), s1_ne (by omega), s1_ne (by omega), s1_ne (by omega), s1_ne (by omega), s1_ne (by omega), u1_ne (by omega), u1_ne (by omega), u1_ne (by omega)]
theorem M_tzero (M : Mm) : ∃ N, lp_M_text_0_65 FW 0 M = j_M_text_0_84 N ∧ WyM 11 (fun _ => 0) N ∧ Only 11 M N := by
  have loop := loop_up (σ := Int32 × Mm) (γ := Option (Int32 × Mm)) (fun f s => lp_M_text_0_65 f s.1 s.2) 37 (fun i s => s.1 = iI (i : Int) ∧ (∀ j, j < i → s.2.1 11 j = iI 0) ∧ Only 11 M s.2) (fun s => j_M_text_0_84 s.2) ?_ ?_ FW (FW_gt (by omega)) (iI 0, M) ⟨rfl, fun j hj => absurd hj (by omega), Only.rf⟩
  · obtain ⟨⟨x, N⟩, ⟨-, a, o⟩, e⟩ := loop
    exact ⟨N, by rw [l0]; exact e, a, o⟩
  · rintro f i ⟨x, N⟩ hi ⟨ex, a, o⟩
    dsimp only at ex a o
    subst ex
    have w2 : wr N 11 37 (iI (i : Int)) 0 = some (u1 N 11 i 0) := by rw [wr_iI (by omega) (by omega) (by omega), Int.toNat_natCast]
    refine ⟨(iI ((i + 1 : Nat) : Int), u1 N 11 i 0), ?_, rfl, fun j hj => ?_, o.u1⟩
    · show blp_M_text_0_65 (lp_M_text_0_65 f) (iI (i : Int)) N = lp_M_text_0_65 f _ _
      unfold blp_M_text_0_65
      have c0 : ¬ (37 ≤ iI (i : Int)) := by rw [show (37 : Int32) = iI 37 from rfl, iI_le (by omega) (by omega) (by omega) (by omega)]; omega
      rw [if_neg c0, w2, Option.bind_some, l1, iI_add]
      rfl
    · show (u1 N 11 i 0).1 11 j = _
      by_cases e : j = i
      · rw [e, u1_self]; rfl
      · rw [u1_s _ _ _ _ e]; exact a j (by omega)
  · rintro f ⟨x, N⟩ ⟨ex, a, o⟩
    dsimp only at ex a o
    subst ex
    rfl
/-! the reference takes over what was read -/
theorem M_bec1 (M : Mm) : ∃ N, lp_M_becomes_0_26 FW 0 M = j_M_becomes_0_51 N ∧ (∀ k, k < 3 → N.2 2 k = M.2 2 (3 + k)) ∧ N.1 = M.1 ∧ ∀ q, q ≠ 2 → N.2 q = M.2 q := by
  have loop := loop_up (σ := Int32 × Mm) (γ := Option Mm) (fun f s => lp_M_becomes_0_26 f s.1 s.2) 3 (fun i s => s.1 = iI (i : Int) ∧ (∀ k, k < i → s.2.2 2 k = M.2 2 (3 + k)) ∧ (∀ k, 3 ≤ k → s.2.2 2 k = M.2 2 k) ∧ s.2.1 = M.1 ∧ ∀ q, q ≠ 2 → s.2.2 q = M.2 q) (fun s => j_M_becomes_0_51 s.2) ?_ ?_ FW (FW_gt (by omega)) (iI 0, M) ⟨rfl, fun j hj => absurd hj (by omega), fun _ _ => rfl, rfl, fun _ _ => rfl⟩
  · obtain ⟨⟨x, N⟩, ⟨-, a, -, b, c⟩, e⟩ := loop
    exact ⟨N, by rw [l0]; exact e, a, b, c⟩
  · rintro f i ⟨x, N⟩ hi ⟨ex, a, b, c, d⟩
    dsimp only at ex a b c d
    subst ex
    have c0 : ¬ (3 ≤ iI (i : Int)) := by rw [l3, iI_le (by omega) (by omega) (by omega) (by omega)]; omega
    have r : rdL (N.2 2) 6 (iI (3 + (i : Int))) = some (M.2 2 (3 + i)) := by rw [rdL_iI (by omega) (by omega) (by omega), show (3 + (i : Int)).toNat = 3 + i by omega, b _ (by omega)]
    have w2 : wrL N 2 6 (iI (i : Int)) (M.2 2 (3 + i)) = some (u2 N 2 i (M.2 2 (3 + i))) := by rw [wrL_iI (by omega) (by omega) (by omega), Int.toNat_natCast]
    refine ⟨(iI ((i + 1 : Nat) : Int), u2 N 2 i (M.2 2 (3 + i))), ?_, rfl, fun k hk => ?_, fun k hk => ?_, c, fun q hq => ?_⟩
    · show blp_M_becomes_0_26 (lp_M_becomes_0_26 f) (iI (i : Int)) N = lp_M_becomes_0_26 f _ _
      unfold blp_M_becomes_0_26
      rw [if_neg c0, l3, iI_add, r, Option.bind_some, w2, Option.bind_some, l1, iI_add]
      rfl
    · show (u2 N 2 i (M.2 2 (3 + i))).2 2 k = _
      rw [u2_at]
      by_cases e : k = i
      · rw [if_pos ⟨rfl, e⟩, e]
      · rw [if_neg (fun z => e z.2)]; exact a k (by omega)
    · show (u2 N 2 i (M.2 2 (3 + i))).2 2 k = _
      rw [u2_at, if_neg (by omega)]; exact b k hk
    · show (u2 N 2 i (M.2 2 (3 + i))).2 q = _
      rw [u2_2 hq]; exact d q hq
  · rintro f ⟨x, N⟩ ⟨ex, a, b, c, d⟩
    dsimp only at ex a b c d
    subst ex
    rfl
theorem M_bec2 (M : Mm) : ∃ N, j_M_becomes_0_51 M = j_M_becomes_0_125 N ∧ (∀ b, b < 6 → N.2 3 b = M.2 3 (6 + b) ∧ N.1 4 b = M.1 4 (6 + b) ∧ N.1 5 b = M.1 5 (6 + b) ∧ N.1 6 b = M.1 6 (6 + b)) ∧ (∀ q, q ≠ 4 → q ≠ 5 → q ≠ 6 → N.1 q = M.1 q) ∧ ∀ q, q ≠ 3 → N.2 q = M.2 q := by
  have loop := loop_up (σ := Int32 × Mm) (γ := Option Mm) (fun f s => lp_M_becomes_0_53 f s.1 s.2) 6 (fun i s => s.1 = iI (i : Int) ∧ (∀ b, b < i → s.2.2 3 b = M.2 3 (6 + b) ∧ s.2.1 4 b = M.1 4 (6 + b) ∧ s.2.1 5 b = M.1 5 (6 + b) ∧ s.2.1 6 b = M.1 6 (6 + b)) ∧ (∀ b, 6 ≤ b → s.2.2 3 b = M.2 3 b ∧ s.2.1 4 b = M.1 4 b ∧ s.2.1 5 b = M.1 5 b ∧ s.2.1 6 b = M.1 6 b) ∧ (∀ q, q ≠ 4 → q ≠ 5 → q ≠ 6 → s.2.1 q = M.1 q) ∧ ∀ q, q ≠ 3 → s.2.2 q = M.2 q) (fun s => j_M_becomes_0_125 s.2) ?_ ?_ FW (FW_gt (by omega)) (iI 0, M) ⟨rfl, fun j hj => absurd hj (by omega), fun _ _ => ⟨rfl, rfl, rfl, rfl⟩, fun _ _ _ _ => rfl, fun _ _ => rfl⟩
  · obtain ⟨⟨x, N⟩, ⟨-, a, -, b, c⟩, e⟩ := loop
    exact ⟨N, by unfold j_M_becomes_0_51; rw [l0]; exact e, a, b, c⟩
  · rintro f i ⟨x, N⟩ hi ⟨ex, a, b, c, d⟩
    dsimp only at ex a b c d
    subst ex
    have c0 : ¬ (6 ≤ iI (i : Int)) := by rw [l6, iI_le (by omega) (by omega) (by omega) (by omega)]; omega
    obtain ⟨b3, b4, b5, b6⟩ := b (6 + i) (by omega)
    have r : rdL (N.2 3) 12 (iI (6 + (i : Int))) = some (M.2 3 (6 + i)) := by rw [rdL_iI (by omega) (by omega) (by omega), show (6 + (i : Int)).toNat = 6 + i by omega, b3]
    have w2 : wrL N 3 12 (iI (i : Int)) (M.2 3 (6 + i)) = some (u2 N 3 i (M.2 3 (6 + i))) := by rw [wrL_iI (by omega) (by omega) (by omega), Int.toNat_natCast]
    have rr : ∀ (F : Nat → Int32), rd F 12 (iI (6 + (i : Int))) = some (F (6 + i)) := fun F => by rw [rd_iI (by omega) (by omega) (by omega), show (6 + (i : Int)).toNat = 6 + i by omega]
    have ww : ∀ (Z : Mm) (k : Nat) (x : Int32), wr Z k 12 (iI (i : Int)) x = some (u1 Z k i x) := fun Z k x => by rw [wr_iI (by omega) (by omega) (by omega), Int.toNat_natCast]
    refine ⟨(iI ((i + 1 : Nat) : Int), u1 (u1 (u1 (u2 N 3 i (M.2 3 (6 + i))) 4 i (M.1 4 (6 + i))) 5 i (M.1 5 (6 + i))) 6 i (M.1 6 (6 + i))), ?_, rfl, fun k hk => ?_, fun k hk => ?_, fun q h4 h5 h6 => ?_, fun q hq => ?_⟩
    · show blp_M_becomes_0_53 (lp_M_becomes_0_53 f) (iI (i : Int)) N = lp_M_becomes_0_53 f _ _
      unfold blp_M_becomes_0_53
      rw [if_neg c0, l6, iI_add, r, Option.bind_some, w2, Option.bind_some, rr, Option.bind_some, show (u2 N 3 i (M.2 3 (6 + i))).1 4 (6 + i) = M.1 4 (6 + i) from b4, ww, Option.bind_some, rr, Option.bind_some, u1_ne (by decide), show (u2 N 3 i (M.2 3 (6 + i))).1 5 (6 + i) = M.1 5 (6 + i) from b5, ww, Option.bind_some, rr, Option.bind_some, u1_ne (by decide), u1_ne (by decide), show (u2 N 3 i (M.2 3 (6 + i))).1 6 (6 + i) = M.1 6 (6 + i) from b6, ww, Option.bind_some, l1, iI_add]
      rfl
    · show (u2 N 3 i (M.2 3 (6 + i))).2 3 k = _ ∧ (u1 (u1 (u1 (u2 N 3 i (M.2 3 (6 + i))) 4 i _) 5 i _) 6 i _).1 4 k = _ ∧ (u1 (u1 (u1 (u2 N 3 i (M.2 3 (6 + i))) 4 i _) 5 i _) 6 i _).1 5 k = _ ∧ (u1 (u1 (u1 (u2 N 3 i (M.2 3 (6 + i))) 4 i _) 5 i _) 6 i _).1 6 k = _
      rw [u2_at]
      by_cases e : k = i
      · subst e
        rw [if_pos ⟨rfl, rfl⟩, u1_ne (by decide), u1_ne (by decide), u1_self, u1_ne (by decide), u1_self, u1_self]
        exact ⟨rfl, rfl, rfl, rfl⟩
      · rw [if_neg (fun z => e z.2), u1_ne (by decide), u1_ne (by decide), u1_s _ _ _ _ e, u1_ne (by decide), u1_s _ _ _ _ e, u1_ne (by decide), u1_s _ _ _ _ e, u1_ne (by decide), u1_ne (by decide)]
        exact a k (by omega)
    · show (u2 N 3 i (M.2 3 (6 + i))).2 3 k = _ ∧ (u1 (u1 (u1 (u2 N 3 i (M.2 3 (6 + i))) 4 i _) 5 i _) 6 i _).1 4 k = _ ∧ (u1 (u1 (u1 (u2 N 3 i (M.2 3 (6 + i))) 4 i _) 5 i _) 6 i _).1 5 k = _ ∧ (u1 (u1 (u1 (u2 N 3 i (M.2 3 (6 + i))) 4 i _) 5 i _) 6 i _).1 6 k = _
      have e : k ≠ i := by omega
      rw [u2_at, if_neg (fun z => e z.2), u1_ne (by decide), u1_ne (by decide), u1_s _ _ _ _ e, u1_ne (by decide), u1_s _ _ _ _ e, u1_ne (by decide), u1_s _ _ _ _ e, u1_ne (by decide), u1_ne (by decide)]
      exact b k hk
    · show (u1 (u1 (u1 (u2 N 3 i (M.2 3 (6 + i))) 4 i _) 5 i _) 6 i _).1 q = _
      rw [u1_ne h6, u1_ne h5, u1_ne h4]; exact c q h4 h5 h6
    · show (u2 N 3 i (M.2 3 (6 + i))).2 q = _
      rw [u2_2 hq]; exact d q hq
  · rintro f ⟨x, N⟩ ⟨ex, a, b, c, d⟩
    dsimp only at ex a b c d
    subst ex
    rfl
theorem M_bec3 (M : Mm) : ∃ N, j_M_becomes_0_125 M = j_M_becomes_0_180 N ∧ (∀ b, b < 4 → N.1 7 b = M.1 7 (4 + b) ∧ N.1 8 b = M.1 8 (4 + b) ∧ N.1 9 b = M.1 9 (4 + b)) ∧ (∀ q, q ≠ 7 → q ≠ 8 → q ≠ 9 → N.1 q = M.1 q) ∧ N.2 = M.2 := by
  have loop := loop_up (σ := Int32 × Mm) (γ := Option Mm) (fun f s => lp_M_becomes_0_127 f s.1 s.2) 4 (fun i s => s.1 = iI (i : Int) ∧ (∀ b, b < i → s.2.1 7 b = M.1 7 (4 + b) ∧ s.2.1 8 b = M.1 8 (4 + b) ∧ s.2.1 9 b = M.1 9 (4 + b)) ∧ (∀ b, 4 ≤ b → s.2.1 7 b = M.1 7 b ∧ s.2.1 8 b = M.1 8 b ∧ s.2.1 9 b = M.1 9 b) ∧ (∀ q, q ≠ 7 → q ≠ 8 → q ≠ 9 → s.2.1 q = M.1 q) ∧ s.2.2 = M.2) (fun s => j_M_becomes_0_180 s.2) ?_ ?_ FW (FW_gt (by omega)) (iI 0, M) ⟨rfl, fun j hj => absurd hj (by omega), fun _ _ => ⟨rfl, rfl, rfl⟩, fun _ _ _ _ => rfl, rfl⟩
  · obtain ⟨⟨x, N⟩, ⟨-, a, -, b, c⟩, e⟩ := loop
    exact ⟨N, by unfold j_M_becomes_0_125; rw [l0]; exact e, a, b, c⟩
  · rintro f i ⟨x, N⟩ hi ⟨ex, a, b, c, d⟩
    dsimp only at ex a b c d
    subst ex
    have c0 : ¬ (4 ≤ iI (i : Int)) := by rw [l4, iI_le (by omega) (by omega) (by omega) (by omega)]; omega
    obtain ⟨b4, b5, b6⟩ := b (4 + i) (by omega)
    have rr : ∀ (F : Nat → Int32), rd F 8 (iI (4 + (i : Int))) = some (F (4 + i)) := fun F => by rw [rd_iI (by omega) (by omega) (by omega), show (4 + (i : Int)).toNat = 4 + i by omega]
    have ww : ∀ (Z : Mm) (k : Nat) (x : Int32), wr Z k 8 (iI (i : Int)) x = some (u1 Z k i x) := fun Z k x => by rw [wr_iI (by omega) (by omega) (by omega), Int.toNat_natCast]
    refine ⟨(iI ((i + 1 : Nat) : Int), u1 (u1 (u1 N 7 i (M.1 7 (4 + i))) 8 i (M.1 8 (4 + i))) 9 i (M.1 9 (4 + i))), ?_, rfl, fun k hk => ?_, fun k hk => ?_, fun q h4 h5 h6 => ?_, d⟩
    · show blp_M_becomes_0_127 (lp_M_becomes_0_127 f) (iI (i : Int)) N = lp_M_becomes_0_127 f _ _
      unfold blp_M_becomes_0_127
      rw [if_neg c0, l4, iI_add, rr, Option.bind_some, b4, ww, Option.bind_some, rr, Option.bind_some, u1_ne (by decide), b5, ww, Option.bind_some, rr, Option.bind_some, u1_ne (by decide), u1_ne (by decide), b6, ww, Option.bind_some, l1, iI_add]
      rfl
    · show (u1 (u1 (u1 N 7 i _) 8 i _) 9 i _).1 7 k = _ ∧ (u1 (u1 (u1 N 7 i _) 8 i _) 9 i _).1 8 k = _ ∧ (u1 (u1 (u1 N 7 i _) 8 i _) 9 i _).1 9 k = _
      by_cases e : k = i
      · subst e
        rw [u1_ne (by decide), u1_ne (by decide), u1_self, u1_ne (by decide), u1_self, u1_self]
        exact ⟨rfl, rfl, rfl⟩
      · rw [u1_ne (by decide), u1_ne (by decide), u1_s _ _ _ _ e, u1_ne (by decide), u1_s _ _ _ _ e, u1_ne (by decide), u1_s _ _ _ _ e, u1_ne (by decide), u1_ne (by decide)]
        exact a k (by omega)
    · show (u1 (u1 (u1 N 7 i _) 8 i _) 9 i _).1 7 k = _ ∧ (u1 (u1 (u1 N 7 i _) 8 i _) 9 i _).1 8 k = _ ∧ (u1 (u1 (u1 N 7 i _) 8 i _) 9 i _).1 9 k = _
      have e : k ≠ i := by omega
      rw [u1_ne (by decide), u1_ne (by decide), u1_s _ _ _ _ e, u1_ne (by decide), u1_s _ _ _ _ e, u1_ne (by decide), u1_s _ _ _ _ e, u1_ne (by decide), u1_ne (by decide)]
      exact b k hk
    · show (u1 (u1 (u1 N 7 i _) 8 i _) 9 i _).1 q = _
      rw [u1_ne h6, u1_ne h5, u1_ne h4]; exact c q h4 h5 h6
  · rintro f ⟨x, N⟩ ⟨ex, a, b, c, d⟩
    dsimp only at ex a b c d
    subst ex
    rfl
theorem M_bec4 (M : Mm) : ∃ N, j_M_becomes_0_180 M = j_M_becomes_0_206 N ∧ (∀ j, j < 37 → N.1 10 j = M.1 11 j) ∧ Only 10 M N := by
  have loop := loop_up (σ := Int32 × Mm) (γ := Option Mm) (fun f s => lp_M_becomes_0_182 f s.1 s.2) 37 (fun i s => s.1 = iI (i : Int) ∧ (∀ j, j < i → s.2.1 10 j = M.1 11 j) ∧ Only 10 M s.2) (fun s => j_M_becomes_0_206 s.2) ?_ ?_ FW (FW_gt (by omega)) (iI 0, M) ⟨rfl, fun j hj => absurd hj (by omega), Only.rf⟩
  · obtain ⟨⟨x, N⟩, ⟨-, a, o⟩, e⟩ := loop
    exact ⟨N, by unfold j_M_becomes_0_180; rw [l0]; exact e, a, o⟩
  · rintro f i ⟨x, N⟩ hi ⟨ex, a, o⟩
    dsimp only at ex a o
    subst ex
    have c0 : ¬ (37 ≤ iI (i : Int)) := by rw [show (37 : Int32) = iI 37 from rfl, iI_le (by omega) (by omega) (by omega) (by omega)]; omega
    have r : rd (N.1 11) 37 (iI (i : Int)) = some (M.1 11 i) := by rw [rd_iI (by omega) (by omega) (by omega), Int.toNat_natCast, o.1 11 (by decide)]
    have w2 : wr N 10 37 (iI (i : Int)) (M.1 11 i) = some (u1 N 10 i (M.1 11 i)) := by rw [wr_iI (by omega) (by omega) (by omega), Int.toNat_natCast]
    refine ⟨(iI ((i + 1 : Nat) : Int), u1 N 10 i (M.1 11 i)), ?_, rfl, fun j hj => ?_, o.u1⟩
    · show blp_M_becomes_0_182 (lp_M_becomes_0_182 f) (iI (i : Int)) N = lp_M_becomes_0_182 f _ _
      unfold blp_M_becomes_0_182
      rw [if_neg c0, r, Option.bind_some, w2, Option.bind_some, l1, iI_add]
      rfl
    · show (u1 N 10 i (M.1 11 i)).1 10 j = _
      by_cases e : j = i
      · rw [e, u1_self]
      · rw [u1_s _ _ _ _ e]; exact a j (by omega)
  · rintro f ⟨x, N⟩ ⟨ex, a, o⟩
    dsimp only at ex a o
    subst ex
    rfl
theorem M_becomes {C : SS} (M : Mm) : ∃ N, f_M_becomes_0 M = some N ∧ (N.1 0 22 = M.1 0 25 ∧ N.1 0 23 = M.1 0 26 ∧ N.1 0 24 = M.1 0 27) ∧ (N.1 0 35 = 0 ∧ N.1 0 28 = 1) ∧ (∀ i, i ≠ 22 → i ≠ 23 → i ≠ 24 → i ≠ 28 → i ≠ 35 → N.1 0 i = M.1 0 i) ∧ (∀ k, k < 3 → N.2 2 k = M.2 2 (3 + k)) ∧ (∀ b, b < 6 → N.2 3 b = M.2 3 (6 + b) ∧ N.1 4 b = M.1 4 (6 + b) ∧ N.1 5 b = M.1 5 (6 + b) ∧ N.1 6 b = M.1 6 (6 + b)) ∧ (∀ b, b < 4 → N.1 7 b = M.1 7 (4 + b) ∧ N.1 8 b = M.1 8 (4 + b) ∧ N.1 9 b = M.1 9 (4 + b)) ∧ (∀ j, j < 37 → N.1 10 j = M.1 11 j) ∧ (N.1 18 0 = 0 ∧ N.1 18 1 = 0) ∧ RelM 15 (stS (fun _ => 0)) (fun _ _ => 0) N ∧ N.1 1 = M.1 1 := by
  unfold f_M_becomes_0
  rw [Option.bind_some, Option.bind_some, Option.bind_some]
  have a0 : ∀ i, i ≠ 22 → i ≠ 23 → i ≠ 24 → (u1 (u1 (u1 M 0 22 (M.1 0 25)) 0 23 ((u1 M 0 22 (M.1 0 25)).1 0 26)) 0 24 ((u1 (u1 M 0 22 (M.1 0 25)) 0 23 ((u1 M 0 22 (M.1 0 25)).1 0 26)).1 0 27)).1 0 i = M.1 0 i := fun i a b c => by rw [u1_s _ _ _ _ c, u1_s _ _ _ _ b, u1_s _ _ _ _ a]
  have a22 : (u1 (u1 (u1 M 0 22 (M.1 0 25)) 0 23 ((u1 M 0 22 (M.1 0 25)).1 0 26)) 0 24 ((u1 (u1 M 0 22 (M.1 0 25)) 0 23 ((u1 M 0 22 (M.1 0 25)).1 0 26)).1 0 27)).1 0 22 = M.1 0 25 := by rw [u1_s _ _ _ _ (by decide), u1_s _ _ _ _ (by decide), u1_self]
  have a23 : (u1 (u1 (u1 M 0 22 (M.1 0 25)) 0 23 ((u1 M 0 22 (M.1 0 25)).1 0 26)) 0 24 ((u1 (u1 M 0 22 (M.1 0 25)) 0 23 ((u1 M 0 22 (M.1 0 25)).1 0 26)).1 0 27)).1 0 23 = M.1 0 26 := by rw [u1_s _ _ _ _ (by decide), u1_self, u1_s _ _ _ _ (by decide)]
  have a24 : (u1 (u1 (u1 M 0 22 (M.1 0 25)) 0 23 ((u1 M 0 22 (M.1 0 25)).1 0 26)) 0 24 ((u1 (u1 M 0 22 (M.1 0 25)) 0 23 ((u1 M 0 22 (M.1 0 25)).1 0 26)).1 0 27)).1 0 24 = M.1 0 27 := by rw [u1_self, u1_s _ _ _ _ (by decide), u1_s _ _ _ _ (by decide)]
  have aq : ∀ q, q ≠ 0 → (u1 (u1 (u1 M 0 22 (M.1 0 25)) 0 23 ((u1 M 0 22 (M.1 0 25)).1 0 26)) 0 24 ((u1 (u1 M 0 22 (M.1 0 25)) 0 23 ((u1 M 0 22 (M.1 0 25)).1 0 26)).1 0 27)).1 q = M.1 q := fun q h => by rw [u1_ne h, u1_ne h, u1_ne h]
  have a2 : (u1 (u1 (u1 M 0 22 (M.1 0 25)) 0 23 ((u1 M 0 22 (M.1 0 25)).1 0 26)) 0 24 ((u1 (u1 M 0 22 (M.1 0 25)) 0 23 ((u1 M 0 22 (M.1 0 25)).1 0 26)).1 0 27)).2 = M.2 := rfl
  generalize u1 (u1 (u1 M 0 22 (M.1 0 25)) 0 23 ((u1 M 0 22 (M.1 0 25)).1 0 26)) 0 24 ((u1 (u1 M 0 22 (M.1 0 25)) 0 23 ((u1 M 0 22 (M.1 0 25)).1 0 26)).1 0 27) = M0 at a0 a22 a23 a24 aq a2
  obtain ⟨M1, b1, b2, b3, b4⟩ := M_bec1 M0
  obtain ⟨M2, c1, c2, c3, c4⟩ := M_bec2 M1
  obtain ⟨M3, d1, d2, d3, d4⟩ := M_bec3 M2
  obtain ⟨M4, e1, e2, e3⟩ := M_bec4 M3
  rw [b1, c1, d1, e1]
  unfold j_M_becomes_0_206
  have z0 : wrZ (u1 M4 0 35 0) 18 2 0 0 = some (u1 (u1 M4 0 35 0) 18 0 0) := rfl
  have z1 : wrZ (u1 (u1 M4 0 35 0) 18 0 0) 18 2 1 0 = some (u1 (u1 (u1 M4 0 35 0) 18 0 0) 18 1 0) := rfl
  rw [Option.bind_some, z0, Option.bind_some, z1, Option.bind_some, Option.bind_some]
  have f0 : ∀ i, i ≠ 28 → i ≠ 35 → (u1 (u1 (u1 (u1 M4 0 35 0) 18 0 0) 18 1 0) 0 28 1).1 0 i = M4.1 0 i := fun i a b => by rw [u1_s _ _ _ _ a, u1_ne (by decide), u1_ne (by decide), u1_s _ _ _ _ b]
  have f35 : (u1 (u1 (u1 (u1 M4 0 35 0) 18 0 0) 18 1 0) 0 28 1).1 0 35 = 0 := by rw [u1_s _ _ _ _ (by decide), u1_ne (by decide), u1_ne (by decide), u1_self]
  have f28 : (u1 (u1 (u1 (u1 M4 0 35 0) 18 0 0) 18 1 0) 0 28 1).1 0 28 = 1 := u1_self _ _ _ _
  have f180 : (u1 (u1 (u1 (u1 M4 0 35 0) 18 0 0) 18 1 0) 0 28 1).1 18 0 = 0 := by rw [u1_ne (by decide), u1_s _ _ _ _ (by decide), u1_self]
  have f181 : (u1 (u1 (u1 (u1 M4 0 35 0) 18 0 0) 18 1 0) 0 28 1).1 18 1 = 0 := by rw [u1_ne (by decide), u1_self]
  have fq : ∀ q, q ≠ 0 → q ≠ 18 → (u1 (u1 (u1 (u1 M4 0 35 0) 18 0 0) 18 1 0) 0 28 1).1 q = M4.1 q := fun q a b => by rw [u1_ne a, u1_ne b, u1_ne b, u1_ne a]
  have f2 : (u1 (u1 (u1 (u1 M4 0 35 0) 18 0 0) 18 1 0) 0 28 1).2 = M4.2 := rfl
  generalize u1 (u1 (u1 (u1 M4 0 35 0) 18 0 0) 18 1 0) 0 28 1 = M5 at f0 f35 f28 f180 f181 fq f2
  obtain ⟨N, n1, n2, n3⟩ := M_begins_15 (C := C) M5
  rw [n1, Option.bind_some]
  have g0 : ∀ i, i ≠ 28 → i ≠ 35 → N.1 0 i = M0.1 0 i := fun i a b => by rw [n3.1 0 (by decide), f0 i a b, e3.1 0 (by decide), d3 0 (by decide) (by decide) (by decide), c3 0 (by decide) (by decide) (by decide), b3]
  refine ⟨N, rfl, ⟨by rw [g0 22 (by decide) (by decide)]; exact a22, by rw [g0 23 (by decide) (by decide)]; exact a23, by rw [g0 24 (by decide) (by decide)]; exact a24⟩, ⟨by rw [n3.1 0 (by decide)]; exact f35, by rw [n3.1 0 (by decide)]; exact f28⟩, fun i h1 h2 h3 h4 h5 => by rw [g0 i h4 h5]; exact a0 i h1 h2 h3, fun k hk => ?_, fun b hb => ?_, fun b hb => ?_, fun j hj => ?_, ⟨by rw [n3.1 18 (by decide)]; exact f180, by rw [n3.1 18 (by decide)]; exact f181⟩, n2, ?_⟩
  · rw [n3.2, f2, e3.2, d4, c4 2 (by decide), b2 k hk, a2]
  · obtain ⟨x3, x4, x5, x6⟩ := c2 b hb
    have y : ∀ q, q = 4 ∨ q = 5 ∨ q = 6 → N.1 q = M2.1 q := fun q hq => by rw [n3.1 q (by omega), fq q (by omega) (by omega), e3.1 q (by omega), d3 q (by omega) (by omega) (by omega)]
    refine ⟨?_, ?_, ?_, ?_⟩
    · rw [n3.2, f2, e3.2, d4, x3, b4 3 (by decide), a2]
    · rw [y 4 (by omega), x4, b3, aq 4 (by decide)]
    · rw [y 5 (by omega), x5, b3, aq 5 (by decide)]
    · rw [y 6 (by omega), x6, b3, aq 6 (by decide)]
  · obtain ⟨x7, x8, x9⟩ := d2 b hb
    have y : ∀ q, q = 7 ∨ q = 8 ∨ q = 9 → N.1 q = M3.1 q := fun q hq => by rw [n3.1 q (by omega), fq q (by omega) (by omega), e3.1 q (by omega)]
    have z : ∀ q, q = 7 ∨ q = 8 ∨ q = 9 → M2.1 q = M.1 q := fun q hq => by rw [c3 q (by omega) (by omega) (by omega), b3, aq q (by omega)]
    rw [y 7 (by omega), y 8 (by omega), y 9 (by omega), x7, x8, x9, z 7 (by omega), z 8 (by omega), z 9 (by omega)]
    exact ⟨rfl, rfl, rfl⟩
  · rw [n3.1 10 (by decide), fq 10 (by decide) (by decide), e2 j hj, d3 11 (by decide) (by decide) (by decide), c3 11 (by decide) (by decide) (by decide), b3, aq 11 (by decide)]
  · rw [n3.1 1 (by decide), fq 1 (by decide) (by decide), e3.1 1 (by decide), d3 1 (by decide) (by decide) (by decide), c3 1 (by decide) (by decide) (by decide), b3, aq 1 (by decide)]

theorem arr_z {C : SS} {k : Nat} {m : Int} : ∀ n : Nat, (∀ s, s < n → ¬ (C 8 s ≤ m ∧ (m - C 8 s) % C 7 s = 0)) → arr C k m n = 0
  | 0, _ => rfl
  | n + 1, h => by
    unfold arr
    rw [arr_z n (fun s hs => h s (by omega)), if_neg (fun q => h n (by omega) q.2)]
    rfl
theorem X_no {C D : SS} {tt : Int} {X : Mm} {s : Nat} (hO : CfgOk C) (hC : CfgX C X) (h : RelX 52 D tt X) (hs : (s : Int) < C 0 2) (ht : 0 ≤ D 14 0) (ht2 : D 14 0 ≤ 9999) : ∃ n : Int, f_L_nextOrder_52 (iI s) X = some (iI n) ∧ D 14 0 < n ∧ n ≤ 20000 ∧ ∀ m, D 14 0 < m → m < n → ¬ (C 8 s ≤ m ∧ (m - C 8 s) % C 7 s = 0) := by
  have hs4 := hO.2.2.2.2.2.1
  obtain ⟨o1, o2, o3, o4, o5, o6⟩ := hO.2.2.2.2.2.2.2.2 s hs
  have hX := hC.2.2.2.2 s (by omega) hs
  have g : ∀ (f : Nat → Int32), rd f 4 (iI (s : Int)) = some (f s) := fun f => by
    rw [rd_iI (by omega) (by omega) (by omega), Int.toNat_natCast]
  have v14 : X.1 52 14 = iI (D 14 0) := h.1 14 0 (fx 14 rfl) (by decide)
  unfold f_L_nextOrder_52
  rw [g, Option.bind_some, hX.2.2, v14]
  have c0 : (iI (C 8 s) ≤ iI (D 14 0)) ↔ C 8 s ≤ D 14 0 := iI_le (by omega) (by omega) (by omega) (by omega)
  by_cases e : C 8 s ≤ D 14 0
  · have r0 := Int.emod_nonneg (D 14 0 - C 8 s) (show C 7 s ≠ 0 by omega)
    have r1 := Int.emod_lt_of_pos (D 14 0 - C 8 s) (show 0 < C 7 s by omega)
    refine ⟨D 14 0 + C 7 s - (D 14 0 - C 8 s) % C 7 s, ?_, by omega, by omega, fun m hm hm2 hq => ?_⟩
    · rw [if_pos (c0.mpr e), g, Option.bind_some, hX.2.1, iI_sub, P_rem (by omega) (by omega) (by omega) (by omega), Option.bind_some, iI_add, iI_sub]
    · have q := hq.2
      rw [show m - C 8 s = (D 14 0 - C 8 s) + (m - D 14 0) by omega, ← Int.emod_add_emod, Int.emod_eq_of_lt (by omega) (by omega)] at q
      omega
  · exact ⟨C 8 s, by rw [if_neg (fun q => e (c0.mp q))], by omega, by omega, fun m hm hm2 hq => by omega⟩
theorem X_next {C D : SS} {tt e : Int} {X : Mm} (hO : CfgOk C) (hC : CfgX C X) (h : RelX 52 D tt X) (A : AvS C D) (hb : ∀ b : Nat, (b : Int) < C 0 1 → D 0 b ≠ 0 → D 14 0 < D 1 b) (ht : 0 ≤ D 14 0) (hte : D 14 0 < e) (he : e ≤ 9999) : ∃ nx : Int, f_L_nextChange_52 (iI e) X = some (iI nx) ∧ D 14 0 < nx ∧ nx ≤ e ∧ ∀ m : Int, D 14 0 < m → m < nx → (∀ b : Nat, (b : Int) < C 0 1 → D 0 b = 0 ∨ D 1 b ≠ m) ∧ ∀ k, arS C k m = 0 := by
  have hb1 := hO.2.2.1
  have hb6 := hO.2.2.2.1
  have hs0 := hO.2.2.2.2.1
  have hs4 := hO.2.2.2.2.2.1
  have v14 : X.1 52 14 = iI (D 14 0) := h.1 14 0 (fx 14 rfl) (by decide)
  have loop1 := loop_up (σ := Int32 × Int32) (γ := Option Int32) (fun f s => lp_L_nextChange_52_4 f s.1 s.2 X) (C 0 1).toNat (fun i s => s.2 = iI (i : Int) ∧ ∃ v : Int, s.1 = iI v ∧ D 14 0 < v ∧ v ≤ e ∧ ∀ b : Nat, b < i → D 0 b ≠ 0 → v ≤ D 1 b) (fun s => j_L_nextChange_52_47 s.1 X) ?_ ?_ FW (FW_gt (by omega)) (iI e, iI 0) ⟨rfl, e, rfl, hte, Int.le_refl _, fun b hb => absurd hb (by omega)⟩
  · obtain ⟨⟨x1, x2⟩, ⟨-, v, ev, v1, v2, v3⟩, e1⟩ := loop1
    dsimp only at ev e1
    subst ev
    have loop2 := loop_up (σ := Int32 × Int32) (γ := Option Int32) (fun f s => lp_L_nextChange_52_49 f s.1 s.2 X) (C 0 2).toNat (fun i s => s.2 = iI (i : Int) ∧ ∃ u : Int, s.1 = iI u ∧ D 14 0 < u ∧ u ≤ v ∧ ∀ s : Nat, s < i → ∀ m, D 14 0 < m → m < u → ¬ (C 8 s ≤ m ∧ (m - C 8 s) % C 7 s = 0)) (fun s => some (mx s.1 ((X.1 52 14) + 1))) ?_ ?_ FW (FW_gt (by omega)) (iI v, iI 0) ⟨rfl, v, rfl, v1, Int.le_refl _, fun b hb => absurd hb (by omega)⟩
    · obtain ⟨⟨y1, y2⟩, ⟨-, u, eu, u1, u2, u3⟩, e2⟩ := loop2
      dsimp only at eu e2
      subst eu
      refine ⟨u, ?_, u1, by omega, fun m m1 m2 => ⟨fun b hb => ?_, fun k => arr_z _ (fun s hs => u3 s hs m m1 m2)⟩⟩
      · have e0 : f_L_nextChange_52 (iI e) X = lp_L_nextChange_52_4 FW (iI e) (iI 0) X := by unfold f_L_nextChange_52; rw [l0]
        rw [e0]
        refine e1.trans ?_
        unfold j_L_nextChange_52_47
        rw [l0]
        refine e2.trans ?_
        rw [v14, l1, iI_add, mx_iI (by omega) (by omega) (by omega) (by omega)]
        congr 2; omega
      · by_cases e0 : D 0 b = 0
        · exact Or.inl e0
        · have := v3 b (by omega) e0
          exact Or.inr (by omega)
    · rintro f i ⟨y1, y2⟩ hi ⟨ey, u, eu, u1, u2, u3⟩
      dsimp only at ey eu
      subst ey; subst eu
      have t9 : D 14 0 ≤ 9999 := by omega
      obtain ⟨n, n1, n2, n3, n4⟩ := X_no hO hC h (s := i) (by omega) ht t9
      refine ⟨(iI (min u n), iI ((i + 1 : Nat) : Int)), ?_, rfl, min u n, rfl, by omega, by omega, fun s hs m m1 m2 => ?_⟩
      · show blp_L_nextChange_52_49 (lp_L_nextChange_52_49 f) (iI u) (iI (i : Int)) X = lp_L_nextChange_52_49 f _ _ X
        unfold blp_L_nextChange_52_49
        have c0 : ¬ (iI (C 0 2) ≤ iI (i : Int)) := by rw [iI_le (by omega) (by omega) (by omega) (by omega)]; omega
        rw [hC.2.2.1, if_neg c0, n1, Option.bind_some, mn_iI (by omega) (by omega) (by omega) (by omega), l1, iI_add]
        rfl
      · by_cases es : s = i
        · subst es; exact n4 m m1 (by omega)
        · exact u3 s (by omega) m m1 (by omega)
    · rintro f ⟨y1, y2⟩ ⟨ey, u, eu, u1, u2, u3⟩
      dsimp only at ey eu
      subst ey; subst eu
      show blp_L_nextChange_52_49 (lp_L_nextChange_52_49 f) (iI u) (iI ((C 0 2).toNat : Int)) X = _
      unfold blp_L_nextChange_52_49
      have c0 : iI (C 0 2) ≤ iI ((C 0 2).toNat : Int) := (iI_le (by omega) (by omega) (by omega) (by omega)).mpr (by omega)
      rw [hC.2.2.1, if_pos c0]
  · rintro f i ⟨y1, y2⟩ hi ⟨ey, v, ev, v1, v2, v3⟩
    dsimp only at ey ev
    subst ey; subst ev
    have hib : (i : Int) < C 0 1 := by omega
    obtain ⟨a1, a2, a3, a4, a5, a6⟩ := A.1 i hib
    have r0 : rd (X.1 55) 6 (iI (i : Int)) = some (iI (D 0 i)) := h.rd 0 i (fx 0 rfl) (by decide) (by simp only [szX]; omega) rfl
    have r1 : rd (X.1 57) 6 (iI (i : Int)) = some (iI (D 1 i)) := h.rd 1 i (fx 1 rfl) (by decide) (by simp only [szX]; omega) rfl
    have c0 : ¬ (iI (C 0 1) ≤ iI (i : Int)) := by rw [iI_le (by omega) (by omega) (by omega) (by omega)]; omega
    have c1 : (iI (D 0 i) = 0) ↔ D 0 i = 0 := by rw [l0]; exact iI_eq (by omega) (by omega) (by omega) (by omega)
    have c2 : (iI v ≤ iI (D 1 i)) ↔ v ≤ D 1 i := iI_le (by omega) (by omega) (by omega) (by omega)
    have hbi := hb i hib
    by_cases e0 : D 0 i = 0
    · refine ⟨(iI v, iI ((i + 1 : Nat) : Int)), ?_, rfl, v, rfl, v1, v2, fun b hb hn => ?_⟩
      · show blp_L_nextChange_52_4 (lp_L_nextChange_52_4 f) (iI v) (iI (i : Int)) X = lp_L_nextChange_52_4 f _ _ X
        unfold blp_L_nextChange_52_4 j_L_nextChange_52_41
        rw [hC.2.1, if_neg c0, r0, Option.bind_some, if_pos (c1.mpr e0), l1, iI_add]
        rfl
      · by_cases es : b = i
        · subst es; exact absurd e0 hn
        · exact v3 b (by omega) hn
    · by_cases e1 : v ≤ D 1 i
      · refine ⟨(iI v, iI ((i + 1 : Nat) : Int)), ?_, rfl, v, rfl, v1, v2, fun b hb hn => ?_⟩
        · show blp_L_nextChange_52_4 (lp_L_nextChange_52_4 f) (iI v) (iI (i : Int)) X = lp_L_nextChange_52_4 f _ _ X
          unfold blp_L_nextChange_52_4 j_L_nextChange_52_41
          rw [hC.2.1, if_neg c0, r0, Option.bind_some, if_neg (fun q => e0 (c1.mp q)), r1, Option.bind_some, if_pos (c2.mpr e1), l1, iI_add]
          rfl
        · by_cases es : b = i
          · subst es; exact e1
          · exact v3 b (by omega) hn
      · refine ⟨(iI (D 1 i), iI ((i + 1 : Nat) : Int)), ?_, rfl, D 1 i, rfl, hbi e0, by omega, fun b hb hn => ?_⟩
        · show blp_L_nextChange_52_4 (lp_L_nextChange_52_4 f) (iI v) (iI (i : Int)) X = lp_L_nextChange_52_4 f _ _ X
          unfold blp_L_nextChange_52_4 j_L_nextChange_52_41
          rw [hC.2.1, if_neg c0, r0, Option.bind_some, if_neg (fun q => e0 (c1.mp q)), r1, Option.bind_some, if_neg (fun q => e1 (c2.mp q)), Option.bind_some, l1, iI_add]
          rfl
        · by_cases es : b = i
          · subst es; exact Int.le_refl _
          · have := v3 b (by omega) hn; omega
  · rintro f ⟨y1, y2⟩ ⟨ey, v, ev, v1, v2, v3⟩
    dsimp only at ey ev
    subst ey; subst ev
    show blp_L_nextChange_52_4 (lp_L_nextChange_52_4 f) (iI v) (iI ((C 0 1).toNat : Int)) X = _
    unfold blp_L_nextChange_52_4
    have c0 : iI (C 0 1) ≤ iI ((C 0 1).toNat : Int) := (iI_le (by omega) (by omega) (by omega) (by omega)).mpr (by omega)
    rw [hC.2.1, if_pos c0]

def lnO (i : Nat) : Nat := if i ≤ 2 then 18 else if i = 7 then 24 else if i ≤ 8 then 6 else 3
/-- rows 1..k behind a are those behind b -/
def Cp (a b k : Nat) (X Y : Mm) : Prop := (∀ i, 1 ≤ i → i ≤ k → ∀ j, j < lnO i → Y.1 (a + i) j = X.1 (b + i) j) ∧ (∀ q, q ≤ a ∨ a + k < q → Y.1 q = X.1 q) ∧ Y.2 = X.2
theorem Cp.rf {a b : Nat} {X : Mm} : Cp a b 0 X X := ⟨fun i h1 h2 => by omega, fun _ _ => rfl, rfl⟩
theorem Cp.step {a b k : Nat} {X Y : Mm} (h : Cp a b k X Y) (hd : b + 12 < a ∨ a + 12 < b) (hk : k < 12) : ∃ Z, cpy Y (b + (k + 1)) (lnO (k + 1)) (a + (k + 1)) (lnO (k + 1)) 0 0 (iI ((lnO (k + 1) : Nat) : Int)) = some Z ∧ Cp a b (k + 1) X Z := by
  have hl : lnO (k + 1) ≤ 24 := by unfold lnO; repeat' split
                                   all_goals omega
  obtain ⟨Z, z1, z2, z3, z4⟩ := cpy0 (M := Y) (k0 := b + (k + 1)) (n0 := lnO (k + 1)) (k1 := a + (k + 1)) (n1 := lnO (k + 1)) (lnO (k + 1)) rfl (Nat.le_refl _) (Nat.le_refl _) (by omega) (by omega)
  refine ⟨Z, z1, fun i h1 h2 j hj => ?_, fun q hq => ?_, z4.trans h.2.2⟩
  · by_cases e : i = k + 1
    · subst e
      rw [z2 j hj, h.2.1 _ (by omega)]
    · rw [z3 _ (by omega)]; exact h.1 i h1 (by omega) j hj
  · rw [z3 q (by omega)]; exact h.2.1 q (by omega)
theorem X_Lcopy_73_35 {S : SS} {tt : Int} {X : Mm} (h : RelX 35 S tt X) : ∃ Y, f_L_copy_73_35 X = some Y ∧ RelX 73 S tt Y ∧ OnlyX 73 X Y := by
  obtain ⟨X1, e1, c1⟩ := (Cp.rf (a := 73) (b := 35) (X := X)).step (by decide) (by decide)
  obtain ⟨X2, e2, c2⟩ := c1.step (by decide) (by decide)
  obtain ⟨X3, e3, c3⟩ := c2.step (by decide) (by decide)
  obtain ⟨X4, e4, c4⟩ := c3.step (by decide) (by decide)
  obtain ⟨X5, e5, c5⟩ := c4.step (by decide) (by decide)
  obtain ⟨X6, e6, c6⟩ := c5.step (by decide) (by decide)
  obtain ⟨X7, e7, c7⟩ := c6.step (by decide) (by decide)
  obtain ⟨X8, e8, c8⟩ := c7.step (by decide) (by decide)
  obtain ⟨X9, e9, c9⟩ := c8.step (by decide) (by decide)
  obtain ⟨X10, e10, c10⟩ := c9.step (by decide) (by decide)
  obtain ⟨X11, e11, c11⟩ := c10.step (by decide) (by decide)
  obtain ⟨X12, e12, c12⟩ := c11.step (by decide) (by decide)
  have g1 : cpy X 36 18 74 18 0 0 18 = some X1 := e1
  have g2 : cpy X1 37 18 75 18 0 0 18 = some X2 := e2
  have g3 : cpy X2 38 6 76 6 0 0 6 = some X3 := e3
  have g4 : cpy X3 39 6 77 6 0 0 6 = some X4 := e4
  have g5 : cpy X4 40 6 78 6 0 0 6 = some X5 := e5
  have g6 : cpy X5 41 6 79 6 0 0 6 = some X6 := e6
  have g7 : cpy X6 42 24 80 24 0 0 24 = some X7 := e7
  have g8 : cpy X7 43 6 81 6 0 0 6 = some X8 := e8
  have g9 : cpy X8 44 3 82 3 0 0 3 = some X9 := e9
  have g10 : cpy X9 45 3 83 3 0 0 3 = some X10 := e10
  have g11 : cpy X10 46 3 84 3 0 0 3 = some X11 := e11
  have g12 : cpy X11 47 3 85 3 0 0 3 = some X12 := e12
  have nb : X12.1 35 = X.1 35 := c12.2.1 35 (by decide)
  have hm := h.1 14 0 (fx 14 rfl) (by decide)
  have h1 := h.1 14 1 (fx 14 rfl) (by decide)
  have h2 := h.1 14 2 (fx 14 rfl) (by decide)
  have hm : X.1 35 14 = iI (S 14 0) := hm
  have h1 : X.1 35 16 = iI (S 14 1) := h1
  have h2 : X.1 35 17 = iI (S 14 2) := h2
  refine ⟨u1 (u1 (u1 (u1 X12 73 14 (iI (S 14 0))) 73 15 (iI tt)) 73 16 (iI (S 14 1))) 73 17 (iI (S 14 2)), ?_, ⟨fun i j hi hj => ?_, ?_⟩, ⟨fun q hq => ?_, ?_⟩⟩
  · unfold f_L_copy_73_35
    rw [g1, Option.bind_some, g2, Option.bind_some, g3, Option.bind_some, g4, Option.bind_some, g5, Option.bind_some, g6, Option.bind_some, g7, Option.bind_some, g8, Option.bind_some, g9, Option.bind_some, g10, Option.bind_some, g11, Option.bind_some, g12, Option.bind_some, nb, hm, Option.bind_some, u1_ne (by decide), nb, h.2, Option.bind_some, u1_ne (by decide), u1_ne (by decide), nb, h1, Option.bind_some, u1_ne (by decide), u1_ne (by decide), u1_ne (by decide), nb, h2, Option.bind_some]
  · by_cases e : i = 14
    · subst e
      simp only [szX] at hj
      have q : j = 0 ∨ j = 1 ∨ j = 2 := by omega
      rcases q with rfl | rfl | rfl <;> simp [plX, ixX, u1_at]
    · have hp : ∃ o, 1 ≤ o ∧ o ≤ 12 ∧ plX 73 i = 73 + o ∧ plX 35 i = 35 + o ∧ lnO o = lnX i := by
        rcases fdX_c hi with rfl | rfl | rfl | rfl | rfl | rfl | rfl | rfl | rfl | rfl | rfl | rfl | rfl | rfl | rfl | rfl
        · exact ⟨3, by decide, by decide, rfl, rfl, rfl⟩
        · exact ⟨5, by decide, by decide, rfl, rfl, rfl⟩
        · exact ⟨4, by decide, by decide, rfl, rfl, rfl⟩
        · exact ⟨6, by decide, by decide, rfl, rfl, rfl⟩
        · exact ⟨1, by decide, by decide, rfl, rfl, rfl⟩
        · exact ⟨9, by decide, by decide, rfl, rfl, rfl⟩
        · exact ⟨7, by decide, by decide, rfl, rfl, rfl⟩
        · exact ⟨7, by decide, by decide, rfl, rfl, rfl⟩
        · exact ⟨7, by decide, by decide, rfl, rfl, rfl⟩
        · exact ⟨7, by decide, by decide, rfl, rfl, rfl⟩
        · exact ⟨8, by decide, by decide, rfl, rfl, rfl⟩
        · exact ⟨12, by decide, by decide, rfl, rfl, rfl⟩
        · exact ⟨11, by decide, by decide, rfl, rfl, rfl⟩
        · exact absurd rfl e
        · exact ⟨2, by decide, by decide, rfl, rfl, rfl⟩
        · exact ⟨10, by decide, by decide, rfl, rfl, rfl⟩
      obtain ⟨o, o1, o2, o3, o4, o5⟩ := hp
      rw [o3, u1_ne (by omega), u1_ne (by omega), u1_ne (by omega), u1_ne (by omega), c12.1 o o1 o2 _ (by rw [o5]; exact (ixX_lt hi e hj).1), ← o4]
      exact h.1 i j hi hj
  · simp [u1_at]
  · rw [u1_ne (by omega), u1_ne (by omega), u1_ne (by omega), u1_ne (by omega)]; exact c12.2.1 q (by omega)
  · exact c12.2.2
theorem X_Lcopy_90_35 {S : SS} {tt : Int} {X : Mm} (h : RelX 35 S tt X) : ∃ Y, f_L_copy_90_35 X = some Y ∧ RelX 90 S tt Y ∧ OnlyX 90 X Y := by
  obtain ⟨X1, e1, c1⟩ := (Cp.rf (a := 90) (b := 35) (X := X)).step (by decide) (by decide)
  obtain ⟨X2, e2, c2⟩ := c1.step (by decide) (by decide)
  obtain ⟨X3, e3, c3⟩ := c2.step (by decide) (by decide)
  obtain ⟨X4, e4, c4⟩ := c3.step (by decide) (by decide)
  obtain ⟨X5, e5, c5⟩ := c4.step (by decide) (by decide)
  obtain ⟨X6, e6, c6⟩ := c5.step (by decide) (by decide)
  obtain ⟨X7, e7, c7⟩ := c6.step (by decide) (by decide)
  obtain ⟨X8, e8, c8⟩ := c7.step (by decide) (by decide)
  obtain ⟨X9, e9, c9⟩ := c8.step (by decide) (by decide)
  obtain ⟨X10, e10, c10⟩ := c9.step (by decide) (by decide)
  obtain ⟨X11, e11, c11⟩ := c10.step (by decide) (by decide)
  obtain ⟨X12, e12, c12⟩ := c11.step (by decide) (by decide)
  have g1 : cpy X 36 18 91 18 0 0 18 = some X1 := e1
  have g2 : cpy X1 37 18 92 18 0 0 18 = some X2 := e2
  have g3 : cpy X2 38 6 93 6 0 0 6 = some X3 := e3
  have g4 : cpy X3 39 6 94 6 0 0 6 = some X4 := e4
  have g5 : cpy X4 40 6 95 6 0 0 6 = some X5 := e5
  have g6 : cpy X5 41 6 96 6 0 0 6 = some X6 := e6
  have g7 : cpy X6 42 24 97 24 0 0 24 = some X7 := e7
  have g8 : cpy X7 43 6 98 6 0 0 6 = some X8 := e8
  have g9 : cpy X8 44 3 99 3 0 0 3 = some X9 := e9
  have g10 : cpy X9 45 3 100 3 0 0 3 = some X10 := e10
  have g11 : cpy X10 46 3 101 3 0 0 3 = some X11 := e11
  have g12 : cpy X11 47 3 102 3 0 0 3 = some X12 := e12
  have nb : X12.1 35 = X.1 35 := c12.2.1 35 (by decide)
  have hm := h.1 14 0 (fx 14 rfl) (by decide)
  have h1 := h.1 14 1 (fx 14 rfl) (by decide)
  have h2 := h.1 14 2 (fx 14 rfl) (by decide)
  have hm : X.1 35 14 = iI (S 14 0) := hm
  have h1 : X.1 35 16 = iI (S 14 1) := h1
  have h2 : X.1 35 17 = iI (S 14 2) := h2
  refine ⟨u1 (u1 (u1 (u1 X12 90 14 (iI (S 14 0))) 90 15 (iI tt)) 90 16 (iI (S 14 1))) 90 17 (iI (S 14 2)), ?_, ⟨fun i j hi hj => ?_, ?_⟩, ⟨fun q hq => ?_, ?_⟩⟩
  · unfold f_L_copy_90_35
    rw [g1, Option.bind_some, g2, Option.bind_some, g3, Option.bind_some, g4, Option.bind_some, g5, Option.bind_some, g6, Option.bind_some, g7, Option.bind_some, g8, Option.bind_some, g9, Option.bind_some, g10, Option.bind_some, g11, Option.bind_some, g12, Option.bind_some, nb, hm, Option.bind_some, u1_ne (by decide), nb, h.2, Option.bind_some, u1_ne (by decide), u1_ne (by decide), nb, h1, Option.bind_some, u1_ne (by decide), u1_ne (by decide), u1_ne (by decide), nb, h2, Option.bind_some]
  · by_cases e : i = 14
    · subst e
      simp only [szX] at hj
      have q : j = 0 ∨ j = 1 ∨ j = 2 := by omega
      rcases q with rfl | rfl | rfl <;> simp [plX, ixX, u1_at]
    · have hp : ∃ o, 1 ≤ o ∧ o ≤ 12 ∧ plX 90 i = 90 + o ∧ plX 35 i = 35 + o ∧ lnO o = lnX i := by
        rcases fdX_c hi with rfl | rfl | rfl | rfl | rfl | rfl | rfl | rfl | rfl | rfl | rfl | rfl | rfl | rfl | rfl | rfl
        · exact ⟨3, by decide, by decide, rfl, rfl, rfl⟩
        · exact ⟨5, by decide, by decide, rfl, rfl, rfl⟩
        · exact ⟨4, by decide, by decide, rfl, rfl, rfl⟩
        · exact ⟨6, by decide, by decide, rfl, rfl, rfl⟩
        · exact ⟨1, by decide, by decide, rfl, rfl, rfl⟩
        · exact ⟨9, by decide, by decide, rfl, rfl, rfl⟩
        · exact ⟨7, by decide, by decide, rfl, rfl, rfl⟩
        · exact ⟨7, by decide, by decide, rfl, rfl, rfl⟩
        · exact ⟨7, by decide, by decide, rfl, rfl, rfl⟩
        · exact ⟨7, by decide, by decide, rfl, rfl, rfl⟩
        · exact ⟨8, by decide, by decide, rfl, rfl, rfl⟩
        · exact ⟨12, by decide, by decide, rfl, rfl, rfl⟩
        · exact ⟨11, by decide, by decide, rfl, rfl, rfl⟩
        · exact absurd rfl e
        · exact ⟨2, by decide, by decide, rfl, rfl, rfl⟩
        · exact ⟨10, by decide, by decide, rfl, rfl, rfl⟩
      obtain ⟨o, o1, o2, o3, o4, o5⟩ := hp
      rw [o3, u1_ne (by omega), u1_ne (by omega), u1_ne (by omega), u1_ne (by omega), c12.1 o o1 o2 _ (by rw [o5]; exact (ixX_lt hi e hj).1), ← o4]
      exact h.1 i j hi hj
  · simp [u1_at]
  · rw [u1_ne (by omega), u1_ne (by omega), u1_ne (by omega), u1_ne (by omega)]; exact c12.2.1 q (by omega)
  · exact c12.2.2
theorem X_Lcopy_35_73 {S : SS} {tt : Int} {X : Mm} (h : RelX 73 S tt X) : ∃ Y, f_L_copy_35_73 X = some Y ∧ RelX 35 S tt Y ∧ OnlyX 35 X Y := by
  obtain ⟨X1, e1, c1⟩ := (Cp.rf (a := 35) (b := 73) (X := X)).step (by decide) (by decide)
  obtain ⟨X2, e2, c2⟩ := c1.step (by decide) (by decide)
  obtain ⟨X3, e3, c3⟩ := c2.step (by decide) (by decide)
  obtain ⟨X4, e4, c4⟩ := c3.step (by decide) (by decide)
  obtain ⟨X5, e5, c5⟩ := c4.step (by decide) (by decide)
  obtain ⟨X6, e6, c6⟩ := c5.step (by decide) (by decide)
  obtain ⟨X7, e7, c7⟩ := c6.step (by decide) (by decide)
  obtain ⟨X8, e8, c8⟩ := c7.step (by decide) (by decide)
  obtain ⟨X9, e9, c9⟩ := c8.step (by decide) (by decide)
  obtain ⟨X10, e10, c10⟩ := c9.step (by decide) (by decide)
  obtain ⟨X11, e11, c11⟩ := c10.step (by decide) (by decide)
  obtain ⟨X12, e12, c12⟩ := c11.step (by decide) (by decide)
  have g1 : cpy X 74 18 36 18 0 0 18 = some X1 := e1
  have g2 : cpy X1 75 18 37 18 0 0 18 = some X2 := e2
  have g3 : cpy X2 76 6 38 6 0 0 6 = some X3 := e3
  have g4 : cpy X3 77 6 39 6 0 0 6 = some X4 := e4
  have g5 : cpy X4 78 6 40 6 0 0 6 = some X5 := e5
  have g6 : cpy X5 79 6 41 6 0 0 6 = some X6 := e6
  have g7 : cpy X6 80 24 42 24 0 0 24 = some X7 := e7
  have g8 : cpy X7 81 6 43 6 0 0 6 = some X8 := e8
  have g9 : cpy X8 82 3 44 3 0 0 3 = some X9 := e9
  have g10 : cpy X9 83 3 45 3 0 0 3 = some X10 := e10
  have g11 : cpy X10 84 3 46 3 0 0 3 = some X11 := e11
  have g12 : cpy X11 85 3 47 3 0 0 3 = some X12 := e12
  have nb : X12.1 73 = X.1 73 := c12.2.1 73 (by decide)
  have hm := h.1 14 0 (fx 14 rfl) (by decide)
  have h1 := h.1 14 1 (fx 14 rfl) (by decide)
  have h2 := h.1 14 2 (fx 14 rfl) (by decide)
  have hm : X.1 73 14 = iI (S 14 0) := hm
  have h1 : X.1 73 16 = iI (S 14 1) := h1
  have h2 : X.1 73 17 = iI (S 14 2) := h2
  refine ⟨u1 (u1 (u1 (u1 X12 35 14 (iI (S 14 0))) 35 15 (iI tt)) 35 16 (iI (S 14 1))) 35 17 (iI (S 14 2)), ?_, ⟨fun i j hi hj => ?_, ?_⟩, ⟨fun q hq => ?_, ?_⟩⟩
  · unfold f_L_copy_35_73
    rw [g1, Option.bind_some, g2, Option.bind_some, g3, Option.bind_some, g4, Option.bind_some, g5, Option.bind_some, g6, Option.bind_some, g7, Option.bind_some, g8, Option.bind_some, g9, Option.bind_some, g10, Option.bind_some, g11, Option.bind_some, g12, Option.bind_some, nb, hm, Option.bind_some, u1_ne (by decide), nb, h.2, Option.bind_some, u1_ne (by decide), u1_ne (by decide), nb, h1, Option.bind_some, u1_ne (by decide), u1_ne (by decide), u1_ne (by decide), nb, h2, Option.bind_some]
  · by_cases e : i = 14
    · subst e
      simp only [szX] at hj
      have q : j = 0 ∨ j = 1 ∨ j = 2 := by omega
      rcases q with rfl | rfl | rfl <;> simp [plX, ixX, u1_at]
    · have hp : ∃ o, 1 ≤ o ∧ o ≤ 12 ∧ plX 35 i = 35 + o ∧ plX 73 i = 73 + o ∧ lnO o = lnX i := by
        rcases fdX_c hi with rfl | rfl | rfl | rfl | rfl | rfl | rfl | rfl | rfl | rfl | rfl | rfl | rfl | rfl | rfl | rfl
        · exact ⟨3, by decide, by decide, rfl, rfl, rfl⟩
        · exact ⟨5, by decide, by decide, rfl, rfl, rfl⟩
        · exact ⟨4, by decide, by decide, rfl, rfl, rfl⟩
        · exact ⟨6, by decide, by decide, rfl, rfl, rfl⟩
        · exact ⟨1, by decide, by decide, rfl, rfl, rfl⟩
        · exact ⟨9, by decide, by decide, rfl, rfl, rfl⟩
        · exact ⟨7, by decide, by decide, rfl, rfl, rfl⟩
        · exact ⟨7, by decide, by decide, rfl, rfl, rfl⟩
        · exact ⟨7, by decide, by decide, rfl, rfl, rfl⟩
        · exact ⟨7, by decide, by decide, rfl, rfl, rfl⟩
        · exact ⟨8, by decide, by decide, rfl, rfl, rfl⟩
        · exact ⟨12, by decide, by decide, rfl, rfl, rfl⟩
        · exact ⟨11, by decide, by decide, rfl, rfl, rfl⟩
        · exact absurd rfl e
        · exact ⟨2, by decide, by decide, rfl, rfl, rfl⟩
        · exact ⟨10, by decide, by decide, rfl, rfl, rfl⟩
      obtain ⟨o, o1, o2, o3, o4, o5⟩ := hp
      rw [o3, u1_ne (by omega), u1_ne (by omega), u1_ne (by omega), u1_ne (by omega), c12.1 o o1 o2 _ (by rw [o5]; exact (ixX_lt hi e hj).1), ← o4]
      exact h.1 i j hi hj
  · simp [u1_at]
  · rw [u1_ne (by omega), u1_ne (by omega), u1_ne (by omega), u1_ne (by omega)]; exact c12.2.1 q (by omega)
  · exact c12.2.2
theorem X_Lcopy_35_90 {S : SS} {tt : Int} {X : Mm} (h : RelX 90 S tt X) : ∃ Y, f_L_copy_35_90 X = some Y ∧ RelX 35 S tt Y ∧ OnlyX 35 X Y := by
  obtain ⟨X1, e1, c1⟩ := (Cp.rf (a := 35) (b := 90) (X := X)).step (by decide) (by decide)
  obtain ⟨X2, e2, c2⟩ := c1.step (by decide) (by decide)
  obtain ⟨X3, e3, c3⟩ := c2.step (by decide) (by decide)
  obtain ⟨X4, e4, c4⟩ := c3.step (by decide) (by decide)
  obtain ⟨X5, e5, c5⟩ := c4.step (by decide) (by decide)
  obtain ⟨X6, e6, c6⟩ := c5.step (by decide) (by decide)
  obtain ⟨X7, e7, c7⟩ := c6.step (by decide) (by decide)
  obtain ⟨X8, e8, c8⟩ := c7.step (by decide) (by decide)
  obtain ⟨X9, e9, c9⟩ := c8.step (by decide) (by decide)
  obtain ⟨X10, e10, c10⟩ := c9.step (by decide) (by decide)
  obtain ⟨X11, e11, c11⟩ := c10.step (by decide) (by decide)
  obtain ⟨X12, e12, c12⟩ := c11.step (by decide) (by decide)
  have g1 : cpy X 91 18 36 18 0 0 18 = some X1 := e1
  have g2 : cpy X1 92 18 37 18 0 0 18 = some X2 := e2
  have g3 : cpy X2 93 6 38 6 0 0 6 = some X3 := e3
  have g4 : cpy X3 94 6 39 6 0 0 6 = some X4 := e4
  have g5 : cpy X4 95 6 40 6 0 0 6 = some X5 := e5
  have g6 : cpy X5 96 6 41 6 0 0 6 = some X6 := e6
  have g7 : cpy X6 97 24 42 24 0 0 24 = some X7 := e7
  have g8 : cpy X7 98 6 43 6 0 0 6 = some X8 := e8
  have g9 : cpy X8 99 3 44 3 0 0 3 = some X9 := e9
  have g10 : cpy X9 100 3 45 3 0 0 3 = some X10 := e10
  have g11 : cpy X10 101 3 46 3 0 0 3 = some X11 := e11
  have g12 : cpy X11 102 3 47 3 0 0 3 = some X12 := e12
  have nb : X12.1 90 = X.1 90 := c12.2.1 90 (by decide)
  have hm := h.1 14 0 (fx 14 rfl) (by decide)
  have h1 := h.1 14 1 (fx 14 rfl) (by decide)
  have h2 := h.1 14 2 (fx 14 rfl) (by decide)
  have hm : X.1 90 14 = iI (S 14 0) := hm
  have h1 : X.1 90 16 = iI (S 14 1) := h1
  have h2 : X.1 90 17 = iI (S 14 2) := h2
  refine ⟨u1 (u1 (u1 (u1 X12 35 14 (iI (S 14 0))) 35 15 (iI tt)) 35 16 (iI (S 14 1))) 35 17 (iI (S 14 2)), ?_, ⟨fun i j hi hj => ?_, ?_⟩, ⟨fun q hq => ?_, ?_⟩⟩
  · unfold f_L_copy_35_90
    rw [g1, Option.bind_some, g2, Option.bind_some, g3, Option.bind_some, g4, Option.bind_some, g5, Option.bind_some, g6, Option.bind_some, g7, Option.bind_some, g8, Option.bind_some, g9, Option.bind_some, g10, Option.bind_some, g11, Option.bind_some, g12, Option.bind_some, nb, hm, Option.bind_some, u1_ne (by decide), nb, h.2, Option.bind_some, u1_ne (by decide), u1_ne (by decide), nb, h1, Option.bind_some, u1_ne (by decide), u1_ne (by decide), u1_ne (by decide), nb, h2, Option.bind_some]
  · by_cases e : i = 14
    · subst e
      simp only [szX] at hj
      have q : j = 0 ∨ j = 1 ∨ j = 2 := by omega
      rcases q with rfl | rfl | rfl <;> simp [plX, ixX, u1_at]
    · have hp : ∃ o, 1 ≤ o ∧ o ≤ 12 ∧ plX 35 i = 35 + o ∧ plX 90 i = 90 + o ∧ lnO o = lnX i := by
        rcases fdX_c hi with rfl | rfl | rfl | rfl | rfl | rfl | rfl | rfl | rfl | rfl | rfl | rfl | rfl | rfl | rfl | rfl
        · exact ⟨3, by decide, by decide, rfl, rfl, rfl⟩
        · exact ⟨5, by decide, by decide, rfl, rfl, rfl⟩
        · exact ⟨4, by decide, by decide, rfl, rfl, rfl⟩
        · exact ⟨6, by decide, by decide, rfl, rfl, rfl⟩
        · exact ⟨1, by decide, by decide, rfl, rfl, rfl⟩
        · exact ⟨9, by decide, by decide, rfl, rfl, rfl⟩
        · exact ⟨7, by decide, by decide, rfl, rfl, rfl⟩
        · exact ⟨7, by decide, by decide, rfl, rfl, rfl⟩
        · exact ⟨7, by decide, by decide, rfl, rfl, rfl⟩
        · exact ⟨7, by decide, by decide, rfl, rfl, rfl⟩
        · exact ⟨8, by decide, by decide, rfl, rfl, rfl⟩
        · exact ⟨12, by decide, by decide, rfl, rfl, rfl⟩
        · exact ⟨11, by decide, by decide, rfl, rfl, rfl⟩
        · exact absurd rfl e
        · exact ⟨2, by decide, by decide, rfl, rfl, rfl⟩
        · exact ⟨10, by decide, by decide, rfl, rfl, rfl⟩
      obtain ⟨o, o1, o2, o3, o4, o5⟩ := hp
      rw [o3, u1_ne (by omega), u1_ne (by omega), u1_ne (by omega), u1_ne (by omega), c12.1 o o1 o2 _ (by rw [o5]; exact (ixX_lt hi e hj).1), ← o4]
      exact h.1 i j hi hj
  · simp [u1_at]
  · rw [u1_ne (by omega), u1_ne (by omega), u1_ne (by omega), u1_ne (by omega)]; exact c12.2.1 q (by omega)
  · exact c12.2.2
theorem X_Vcopy_70_32 {w : Nat → Int} {X : Mm} (h : WyX 32 w X) : ∃ Y, f_V_copy_70_32 X = some Y ∧ WyX 70 w Y ∧ (∀ q, q < 70 ∨ 72 < q → Y.1 q = X.1 q) ∧ Y.2 = X.2 := by
  obtain ⟨X1, e1, e2, e3, e4⟩ := cpy0 (M := X) (k0 := 33) (n0 := 18) (k1 := 71) (n1 := 18) 18 (x := 18) rfl (by omega) (by omega) (by omega) (by omega)
  obtain ⟨X2, f1, f2, f3, f4⟩ := cpy0 (M := X1) (k0 := 34) (n0 := 18) (k1 := 72) (n1 := 18) 18 (x := 18) rfl (by omega) (by omega) (by omega) (by omega)
  have hr : X2.1 32 2 = iI (w 36) := by rw [f3 32 (by decide), e3 32 (by decide)]; exact h.2.2
  refine ⟨u1 X2 70 2 (iI (w 36)), ?_, ⟨fun c hc => ?_, fun c hc => ?_, ?_⟩, fun q hq => ?_, ?_⟩
  · unfold f_V_copy_70_32
    rw [e1, Option.bind_some, f1, Option.bind_some, hr, Option.bind_some]
  · show (u1 X2 70 2 (iI (w 36))).1 71 c = _
    rw [u1_ne (by decide), f3 71 (by decide), e2 c hc]; exact h.1 c hc
  · show (u1 X2 70 2 (iI (w 36))).1 72 c = _
    rw [u1_ne (by decide), f2 c hc, e3 34 (by decide)]; exact h.2.1 c hc
  · rw [u1_at, if_pos ⟨rfl, rfl⟩]
  · rw [u1_ne (by omega), f3 q (by omega), e3 q (by omega)]
  · exact f4.trans e4
theorem X_Vcopy_87_32 {w : Nat → Int} {X : Mm} (h : WyX 32 w X) : ∃ Y, f_V_copy_87_32 X = some Y ∧ WyX 87 w Y ∧ (∀ q, q < 87 ∨ 89 < q → Y.1 q = X.1 q) ∧ Y.2 = X.2 := by
  obtain ⟨X1, e1, e2, e3, e4⟩ := cpy0 (M := X) (k0 := 33) (n0 := 18) (k1 := 88) (n1 := 18) 18 (x := 18) rfl (by omega) (by omega) (by omega) (by omega)
  obtain ⟨X2, f1, f2, f3, f4⟩ := cpy0 (M := X1) (k0 := 34) (n0 := 18) (k1 := 89) (n1 := 18) 18 (x := 18) rfl (by omega) (by omega) (by omega) (by omega)
  have hr : X2.1 32 2 = iI (w 36) := by rw [f3 32 (by decide), e3 32 (by decide)]; exact h.2.2
  refine ⟨u1 X2 87 2 (iI (w 36)), ?_, ⟨fun c hc => ?_, fun c hc => ?_, ?_⟩, fun q hq => ?_, ?_⟩
  · unfold f_V_copy_87_32
    rw [e1, Option.bind_some, f1, Option.bind_some, hr, Option.bind_some]
  · show (u1 X2 87 2 (iI (w 36))).1 88 c = _
    rw [u1_ne (by decide), f3 88 (by decide), e2 c hc]; exact h.1 c hc
  · show (u1 X2 87 2 (iI (w 36))).1 89 c = _
    rw [u1_ne (by decide), f2 c hc, e3 34 (by decide)]; exact h.2.1 c hc
  · rw [u1_at, if_pos ⟨rfl, rfl⟩]
  · rw [u1_ne (by omega), f3 q (by omega), e3 q (by omega)]
  · exact f4.trans e4
theorem X_Vcopy_32_70 {w : Nat → Int} {X : Mm} (h : WyX 70 w X) : ∃ Y, f_V_copy_32_70 X = some Y ∧ WyX 32 w Y ∧ (∀ q, q < 32 ∨ 34 < q → Y.1 q = X.1 q) ∧ Y.2 = X.2 := by
  obtain ⟨X1, e1, e2, e3, e4⟩ := cpy0 (M := X) (k0 := 71) (n0 := 18) (k1 := 33) (n1 := 18) 18 (x := 18) rfl (by omega) (by omega) (by omega) (by omega)
  obtain ⟨X2, f1, f2, f3, f4⟩ := cpy0 (M := X1) (k0 := 72) (n0 := 18) (k1 := 34) (n1 := 18) 18 (x := 18) rfl (by omega) (by omega) (by omega) (by omega)
  have hr : X2.1 70 2 = iI (w 36) := by rw [f3 70 (by decide), e3 70 (by decide)]; exact h.2.2
  refine ⟨u1 X2 32 2 (iI (w 36)), ?_, ⟨fun c hc => ?_, fun c hc => ?_, ?_⟩, fun q hq => ?_, ?_⟩
  · unfold f_V_copy_32_70
    rw [e1, Option.bind_some, f1, Option.bind_some, hr, Option.bind_some]
  · show (u1 X2 32 2 (iI (w 36))).1 33 c = _
    rw [u1_ne (by decide), f3 33 (by decide), e2 c hc]; exact h.1 c hc
  · show (u1 X2 32 2 (iI (w 36))).1 34 c = _
    rw [u1_ne (by decide), f2 c hc, e3 72 (by decide)]; exact h.2.1 c hc
  · rw [u1_at, if_pos ⟨rfl, rfl⟩]
  · rw [u1_ne (by omega), f3 q (by omega), e3 q (by omega)]
  · exact f4.trans e4
theorem X_Vcopy_32_87 {w : Nat → Int} {X : Mm} (h : WyX 87 w X) : ∃ Y, f_V_copy_32_87 X = some Y ∧ WyX 32 w Y ∧ (∀ q, q < 32 ∨ 34 < q → Y.1 q = X.1 q) ∧ Y.2 = X.2 := by
  obtain ⟨X1, e1, e2, e3, e4⟩ := cpy0 (M := X) (k0 := 88) (n0 := 18) (k1 := 33) (n1 := 18) 18 (x := 18) rfl (by omega) (by omega) (by omega) (by omega)
  obtain ⟨X2, f1, f2, f3, f4⟩ := cpy0 (M := X1) (k0 := 89) (n0 := 18) (k1 := 34) (n1 := 18) 18 (x := 18) rfl (by omega) (by omega) (by omega) (by omega)
  have hr : X2.1 87 2 = iI (w 36) := by rw [f3 87 (by decide), e3 87 (by decide)]; exact h.2.2
  refine ⟨u1 X2 32 2 (iI (w 36)), ?_, ⟨fun c hc => ?_, fun c hc => ?_, ?_⟩, fun q hq => ?_, ?_⟩
  · unfold f_V_copy_32_87
    rw [e1, Option.bind_some, f1, Option.bind_some, hr, Option.bind_some]
  · show (u1 X2 32 2 (iI (w 36))).1 33 c = _
    rw [u1_ne (by decide), f3 33 (by decide), e2 c hc]; exact h.1 c hc
  · show (u1 X2 32 2 (iI (w 36))).1 34 c = _
    rw [u1_ne (by decide), f2 c hc, e3 89 (by decide)]; exact h.2.1 c hc
  · rw [u1_at, if_pos ⟨rfl, rfl⟩]
  · rw [u1_ne (by omega), f3 q (by omega), e3 q (by omega)]
  · exact f4.trans e4
theorem X_Vcopy_49_32 {w : Nat → Int} {X : Mm} (h : WyX 32 w X) : ∃ Y, f_V_copy_49_32 X = some Y ∧ WyX 49 w Y ∧ (∀ q, q < 49 ∨ 51 < q → Y.1 q = X.1 q) ∧ Y.2 = X.2 := by
  obtain ⟨X1, e1, e2, e3, e4⟩ := cpy0 (M := X) (k0 := 33) (n0 := 18) (k1 := 50) (n1 := 18) 18 (x := 18) rfl (by omega) (by omega) (by omega) (by omega)
  obtain ⟨X2, f1, f2, f3, f4⟩ := cpy0 (M := X1) (k0 := 34) (n0 := 18) (k1 := 51) (n1 := 18) 18 (x := 18) rfl (by omega) (by omega) (by omega) (by omega)
  have hr : X2.1 32 2 = iI (w 36) := by rw [f3 32 (by decide), e3 32 (by decide)]; exact h.2.2
  refine ⟨u1 X2 49 2 (iI (w 36)), ?_, ⟨fun c hc => ?_, fun c hc => ?_, ?_⟩, fun q hq => ?_, ?_⟩
  · unfold f_V_copy_49_32
    rw [e1, Option.bind_some, f1, Option.bind_some, hr, Option.bind_some]
  · show (u1 X2 49 2 (iI (w 36))).1 50 c = _
    rw [u1_ne (by decide), f3 50 (by decide), e2 c hc]; exact h.1 c hc
  · show (u1 X2 49 2 (iI (w 36))).1 51 c = _
    rw [u1_ne (by decide), f2 c hc, e3 34 (by decide)]; exact h.2.1 c hc
  · rw [u1_at, if_pos ⟨rfl, rfl⟩]
  · rw [u1_ne (by omega), f3 q (by omega), e3 q (by omega)]
  · exact f4.trans e4
theorem X_Vcopy_32_11 {w : Nat → Int} {X : Mm} (h : WyX 11 w X) : ∃ Y, f_V_copy_32_11 X = some Y ∧ WyX 32 w Y ∧ (∀ q, q < 32 ∨ 34 < q → Y.1 q = X.1 q) ∧ Y.2 = X.2 := by
  obtain ⟨X1, e1, e2, e3, e4⟩ := cpy0 (M := X) (k0 := 12) (n0 := 18) (k1 := 33) (n1 := 18) 18 (x := 18) rfl (by omega) (by omega) (by omega) (by omega)
  obtain ⟨X2, f1, f2, f3, f4⟩ := cpy0 (M := X1) (k0 := 13) (n0 := 18) (k1 := 34) (n1 := 18) 18 (x := 18) rfl (by omega) (by omega) (by omega) (by omega)
  have hr : X2.1 11 2 = iI (w 36) := by rw [f3 11 (by decide), e3 11 (by decide)]; exact h.2.2
  refine ⟨u1 X2 32 2 (iI (w 36)), ?_, ⟨fun c hc => ?_, fun c hc => ?_, ?_⟩, fun q hq => ?_, ?_⟩
  · unfold f_V_copy_32_11
    rw [e1, Option.bind_some, f1, Option.bind_some, hr, Option.bind_some]
  · show (u1 X2 32 2 (iI (w 36))).1 33 c = _
    rw [u1_ne (by decide), f3 33 (by decide), e2 c hc]; exact h.1 c hc
  · show (u1 X2 32 2 (iI (w 36))).1 34 c = _
    rw [u1_ne (by decide), f2 c hc, e3 13 (by decide)]; exact h.2.1 c hc
  · rw [u1_at, if_pos ⟨rfl, rfl⟩]
  · rw [u1_ne (by omega), f3 q (by omega), e3 q (by omega)]
  · exact f4.trans e4

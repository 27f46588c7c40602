theorem X_Ncopy {u : Nat → Int} {X : Mm} (h : WyX 24 u X) : ∃ Y, f_N_copy_2_15 X = some Y ∧ (∀ i, i < 3 → Y.1 2 i = X.1 15 i) ∧ (∀ b, b < 6 → Y.1 3 b = X.1 16 b ∧ Y.1 4 b = X.1 17 b ∧ Y.1 5 b = X.1 18 b) ∧ (∀ i, i < 4 → Y.1 6 i = X.1 19 i ∧ Y.1 7 i = X.1 20 i ∧ Y.1 8 i = X.1 21 i) ∧ (∀ i, i < 54 → Y.1 9 i = X.1 22 i) ∧ (∀ i, i < 9 → Y.1 10 i = X.1 23 i) ∧ WyX 11 u Y ∧ (∀ q, q < 2 ∨ 13 < q → Y.1 q = X.1 q) := by
  unfold f_N_copy_2_15 f_V_copy_11_24
  rw [Option.bind_some, Option.bind_some, Option.bind_some]
  have v0 : ∀ i, i < 3 → (u1 (u1 (u1 X 2 0 (X.1 15 0)) 2 1 ((u1 X 2 0 (X.1 15 0)).1 15 1)) 2 2 ((u1 (u1 X 2 0 (X.1 15 0)) 2 1 ((u1 X 2 0 (X.1 15 0)).1 15 1)).1 15 2)).1 2 i = X.1 15 i := fun i hi => by
    have q : i = 0 ∨ i = 1 ∨ i = 2 := by omega
    rcases q with rfl | rfl | rfl
    · rw [u1_s _ _ _ _ (by decide), u1_s _ _ _ _ (by decide), u1_self]
    · rw [u1_s _ _ _ _ (by decide), u1_self, u1_ne (by decide)]
    · rw [u1_self, u1_ne (by decide), u1_ne (by decide)]
  have w0' : ∀ q, q ≠ 2 → (u1 (u1 (u1 X 2 0 (X.1 15 0)) 2 1 ((u1 X 2 0 (X.1 15 0)).1 15 1)) 2 2 ((u1 (u1 X 2 0 (X.1 15 0)) 2 1 ((u1 X 2 0 (X.1 15 0)).1 15 1)).1 15 2)).1 q = X.1 q := fun q hq => by rw [u1_ne hq, u1_ne hq, u1_ne hq]
  generalize u1 (u1 (u1 X 2 0 (X.1 15 0)) 2 1 ((u1 X 2 0 (X.1 15 0)).1 15 1)) 2 2 ((u1 (u1 X 2 0 (X.1 15 0)) 2 1 ((u1 X 2 0 (X.1 15 0)).1 15 1)).1 15 2) = Z0 at v0 w0'
  obtain ⟨Z1, a1, b1, c1, -⟩ := cpy0 (M := Z0) (k0 := 16) (n0 := 6) (k1 := 3) (n1 := 6) 6 (x := 6) rfl (by omega) (by omega) (by omega) (by omega)
  obtain ⟨Z2, a2, b2, c2, -⟩ := cpy0 (M := Z1) (k0 := 17) (n0 := 6) (k1 := 4) (n1 := 6) 6 (x := 6) rfl (by omega) (by omega) (by omega) (by omega)
  obtain ⟨Z3, a3, b3, c3, -⟩ := cpy0 (M := Z2) (k0 := 18) (n0 := 6) (k1 := 5) (n1 := 6) 6 (x := 6) rfl (by omega) (by omega) (by omega) (by omega)
  obtain ⟨Z4, a4, b4, c4, -⟩ := cpy0 (M := Z3) (k0 := 19) (n0 := 4) (k1 := 6) (n1 := 4) 4 (x := 4) rfl (by omega) (by omega) (by omega) (by omega)
  obtain ⟨Z5, a5, b5, c5, -⟩ := cpy0 (M := Z4) (k0 := 20) (n0 := 4) (k1 := 7) (n1 := 4) 4 (x := 4) rfl (by omega) (by omega) (by omega) (by omega)
  obtain ⟨Z6, a6, b6, c6, -⟩ := cpy0 (M := Z5) (k0 := 21) (n0 := 4) (k1 := 8) (n1 := 4) 4 (x := 4) rfl (by omega) (by omega) (by omega) (by omega)
  obtain ⟨Z7, a7, b7, c7, -⟩ := cpy0 (M := Z6) (k0 := 22) (n0 := 54) (k1 := 9) (n1 := 54) 54 (x := 54) rfl (by omega) (by omega) (by omega) (by omega)
  obtain ⟨Z8, a8, b8, c8, -⟩ := cpy0 (M := Z7) (k0 := 23) (n0 := 9) (k1 := 10) (n1 := 9) 9 (x := 9) rfl (by omega) (by omega) (by omega) (by omega)
  obtain ⟨Z9, a9, b9, c9, -⟩ := cpy0 (M := Z8) (k0 := 25) (n0 := 18) (k1 := 12) (n1 := 18) 18 (x := 18) rfl (by omega) (by omega) (by omega) (by omega)
  obtain ⟨Za, aa, ba, ca, -⟩ := cpy0 (M := Z9) (k0 := 26) (n0 := 18) (k1 := 13) (n1 := 18) 18 (x := 18) rfl (by omega) (by omega) (by omega) (by omega)
  rw [a1, Option.bind_some, a2, Option.bind_some, a3, Option.bind_some, a4, Option.bind_some, a5, Option.bind_some, a6, Option.bind_some, a7, Option.bind_some, a8, Option.bind_some, a9, Option.bind_some, aa, Option.bind_some, Option.bind_some, Option.bind_some]
  have hi : ∀ q, 13 < q ∨ q < 2 → Za.1 q = X.1 q := fun q h => by rw [ca q (by omega), c9 q (by omega), c8 q (by omega), c7 q (by omega), c6 q (by omega), c5 q (by omega), c4 q (by omega), c3 q (by omega), c2 q (by omega), c1 q (by omega), w0' q (by omega)]
  have r24 : Za.1 24 2 = iI (u 36) := by rw [hi 24 (by omega)]; exact h.2.2
  refine ⟨_, rfl, fun i h3 => ?_, fun b hb => ⟨?_, ?_, ?_⟩, fun i h4 => ⟨?_, ?_, ?_⟩, fun i h5 => ?_, fun i h9 => ?_, ⟨fun c hc => ?_, fun c hc => ?_, ?_⟩, fun q hq => ?_⟩
  · rw [u1_ne (by decide), ca 2 (by decide), c9 2 (by decide), c8 2 (by decide), c7 2 (by decide), c6 2 (by decide), c5 2 (by decide), c4 2 (by decide), c3 2 (by decide), c2 2 (by decide), c1 2 (by decide)]; exact v0 i h3
  · rw [u1_ne (by decide), ca 3 (by decide), c9 3 (by decide), c8 3 (by decide), c7 3 (by decide), c6 3 (by decide), c5 3 (by decide), c4 3 (by decide), c3 3 (by decide), c2 3 (by decide), b1 b hb, w0' 16 (by decide)]
  · rw [u1_ne (by decide), ca 4 (by decide), c9 4 (by decide), c8 4 (by decide), c7 4 (by decide), c6 4 (by decide), c5 4 (by decide), c4 4 (by decide), c3 4 (by decide), b2 b hb, c1 17 (by decide), w0' 17 (by decide)]
  · rw [u1_ne (by decide), ca 5 (by decide), c9 5 (by decide), c8 5 (by decide), c7 5 (by decide), c6 5 (by decide), c5 5 (by decide), c4 5 (by decide), b3 b hb, c2 18 (by decide), c1 18 (by decide), w0' 18 (by decide)]
  · rw [u1_ne (by decide), ca 6 (by decide), c9 6 (by decide), c8 6 (by decide), c7 6 (by decide), c6 6 (by decide), c5 6 (by decide), b4 i h4, c3 19 (by decide), c2 19 (by decide), c1 19 (by decide), w0' 19 (by decide)]
  · rw [u1_ne (by decide), ca 7 (by decide), c9 7 (by decide), c8 7 (by decide), c7 7 (by decide), c6 7 (by decide), b5 i h4, c4 20 (by decide), c3 20 (by decide), c2 20 (by decide), c1 20 (by decide), w0' 20 (by decide)]
  · rw [u1_ne (by decide), ca 8 (by decide), c9 8 (by decide), c8 8 (by decide), c7 8 (by decide), b6 i h4, c5 21 (by decide), c4 21 (by decide), c3 21 (by decide), c2 21 (by decide), c1 21 (by decide), w0' 21 (by decide)]
  · rw [u1_ne (by decide), ca 9 (by decide), c9 9 (by decide), c8 9 (by decide), b7 i h5, c6 22 (by decide), c5 22 (by decide), c4 22 (by decide), c3 22 (by decide), c2 22 (by decide), c1 22 (by decide), w0' 22 (by decide)]
  · rw [u1_ne (by decide), ca 10 (by decide), c9 10 (by decide), b8 i h9, c7 23 (by decide), c6 23 (by decide), c5 23 (by decide), c4 23 (by decide), c3 23 (by decide), c2 23 (by decide), c1 23 (by decide), w0' 23 (by decide)]
  · show (u1 Za 11 2 _).1 12 c = _
    rw [u1_ne (by decide), ca 12 (by decide), b9 c hc, c8 25 (by decide), c7 25 (by decide), c6 25 (by decide), c5 25 (by decide), c4 25 (by decide), c3 25 (by decide), c2 25 (by decide), c1 25 (by decide), w0' 25 (by decide)]; exact h.1 c hc
  · show (u1 Za 11 2 _).1 13 c = _
    rw [u1_ne (by decide), ba c hc, c9 26 (by decide), c8 26 (by decide), c7 26 (by decide), c6 26 (by decide), c5 26 (by decide), c4 26 (by decide), c3 26 (by decide), c2 26 (by decide), c1 26 (by decide), w0' 26 (by decide)]; exact h.2.1 c hc
  · rw [u1_self]; exact r24
  · rw [u1_ne (by omega)]; exact hi q (by omega)
theorem X_forget (X : Mm) : f_P_forget_0 X = some (u1 (u1 (u1 X 65 2 0) 69 2 0) 86 2 0) := by
  obtain ⟨f, hf⟩ : ∃ f, FW = f + 3 := ⟨FW - 3, by have := FW_gt (n := 3) (by omega); omega⟩
  unfold f_P_forget_0
  rw [hf, Option.bind_some]
  rfl
theorem u1_tw (M : Mm) (k i : Nat) (x y : Int32) : u1 (u1 M k i x) k i y = u1 M k i y := by
  refine Prod.ext ?_ rfl
  funext q j
  rw [u1_at, u1_at, u1_at]
  split <;> rfl
/-- after reading: what was told before stands -/
theorem Rel.read {X M Y N : Mm} (h : Rel X M) (hx : SmX X Y) (hm : SmM M N) (e1 : Y.1 1 = X.1 1) (e2 : N.1 1 = M.1 1) (x8 : Y.1 0 8 = 0) (m4 : N.1 0 4 = 0) (x9 : Y.1 0 9 = X.1 0 9) (xa : Y.1 0 10 = X.1 0 10) (xc : Y.1 0 12 = X.1 0 12) (m1 : N.1 0 1 = M.1 0 1) (m2 : N.1 0 2 = M.1 0 2) (m28 : N.1 0 28 = M.1 0 28) (ft : N.1 0 7 = Y.1 0 11) : Rel Y N := by
  obtain ⟨⟨-, tp, ht⟩, h1, h2, -, h4⟩ := h
  refine ⟨⟨⟨0, by omega, by rw [x8]; rfl, by rw [m4]; rfl⟩, tp, fun i hi => by rw [e1, e2]; exact ht i hi⟩, by rw [m1, xa]; exact h1, by rw [m2, xc]; exact h2, ft, ?_⟩
  rw [x9, m28, hm.2.2.1 22 (by omega), hm.2.2.1 23 (by omega)]
  rcases h4 with h4 | ⟨h4, h5, C, w, S, Q, T⟩
  · exact Or.inl h4
  · exact Or.inr ⟨h4, h5, C, w, S, Q, T.fr hx hm⟩
theorem pl_cfg {P : SS} {u : Nat → Int} (ok : PlOk P u) (h1 : 1 ≤ P 0 0) (h2 : 1 ≤ P 0 1) : CfgOk P := by
  obtain ⟨o1, o2, o3, o4, o5, o6, o7, o8, o9⟩ := ok
  exact ⟨h1, o1.2, h2, o2.2.1, o3.1, o3.2, o4, o5, o7⟩
theorem R_text {X M : Mm} (h0 : Rel X M) (p : Int32) : An (f_P_text_0 p X) (f_M_text_0 p M) := by
  unfold f_P_text_0 f_M_text_0
  rw [Option.bind_some, Option.bind_some]
  have h := h0.th 0
  generalize u1 M 0 0 0 = M at h
  obtain ⟨⟨⟨n0, n1, n2, n3⟩, tp, ht⟩, h1, h2, h3, h4⟩ := id h
  have ep := iI_of p
  have b1 := Int32.le_toInt p
  have b2 := Int32.toInt_lt p
  generalize p.toInt = z at *
  subst ep
  have c1 : (iI z < 0) ↔ z < 0 := by rw [l0]; exact iI_lt (by omega) (by omega) (by omega) (by omega)
  have c2 : (iI z ≤ iI (n0 : Int)) ↔ z ≤ n0 := iI_le (by omega) (by omega) (by omega) (by omega)
  have c3 : (iI (n0 : Int) < iI z) ↔ (n0 : Int) < z := iI_lt (by omega) (by omega) (by omega) (by omega)
  unfold f_M_in
  rw [n2, n3]
  by_cases e1 : z < 0
  · rw [if_pos (c1.mpr e1), if_pos (c1.mpr e1), Option.bind_some, if_pos rfl]; exact An_ref h 2
  · rw [if_neg (fun q => e1 (c1.mp q)), if_neg (fun q => e1 (c1.mp q))]
    by_cases e2 : z ≤ n0
    · rw [if_pos (c2.mpr e2), if_neg (fun q => by have := c3.mp q; omega), Option.bind_some, if_neg n10]
      obtain ⟨n, rfl⟩ : ∃ n : Nat, z = n := ⟨z.toNat, by omega⟩
      have hn : n ≤ 600 := by omega
      -- the class: scan
      have tX : TapX tp (u1 X 0 8 0) := fun q hq => ⟨(ht q hq).1, (ht q hq).2.1, by rw [u1_ne (by decide)]; exact (ht q hq).2.2.1⟩
      obtain ⟨c, X1, x1, x2, x3⟩ := X_scan (n := n) tX hn
      obtain ⟨X2, y1, y2, y3, y4, y5, y6⟩ := X_Nclear (u1 (u1 (u1 X1 14 2 0) 14 4 0) 14 3 0)
      have fX : ∀ q, q < 14 ∨ 31 < q → X2.1 q = (u1 X 0 8 0).1 q := fun q hq => by rw [y6 q (by omega), u1_ne (by omega), u1_ne (by omega), u1_ne (by omega), x3 q (by omega)]
      have x14 : X2.1 14 = (u1 (u1 (u1 X1 14 2 0) 14 4 0) 14 3 0).1 14 := y6 14 (by omega)
      have eR : f_R_read_14 (iI (n : Int)) (u1 X 0 8 0) = lp_R_read_14_32 FW (iI ((0 : Nat) : Int)) X2 := by
        unfold f_R_read_14
        rw [x1, Option.bind_some, Option.bind_some, Option.bind_some, Option.bind_some, y1, Option.bind_some, l0]
        rfl
      -- the reference: its start
      have g5 : (u1 (u1 (u1 (u1 (u1 (u1 (u1 (u1 M 0 5 (iI (n : Int))) 0 4 0) 0 6 0) 0 7 0) 0 25 0) 0 26 0) 0 27 0) 0 29 0).1 0 5 = iI (n : Int) := by rw [u1_s _ _ _ _ (by decide), u1_s _ _ _ _ (by decide), u1_s _ _ _ _ (by decide), u1_s _ _ _ _ (by decide), u1_s _ _ _ _ (by decide), u1_s _ _ _ _ (by decide), u1_s _ _ _ _ (by decide), u1_self]
      have g4 : (u1 (u1 (u1 (u1 (u1 (u1 (u1 (u1 M 0 5 (iI (n : Int))) 0 4 0) 0 6 0) 0 7 0) 0 25 0) 0 26 0) 0 27 0) 0 29 0).1 0 4 = 0 := by rw [u1_s _ _ _ _ (by decide), u1_s _ _ _ _ (by decide), u1_s _ _ _ _ (by decide), u1_s _ _ _ _ (by decide), u1_s _ _ _ _ (by decide), u1_s _ _ _ _ (by decide), u1_self]
      have g6 : (u1 (u1 (u1 (u1 (u1 (u1 (u1 (u1 M 0 5 (iI (n : Int))) 0 4 0) 0 6 0) 0 7 0) 0 25 0) 0 26 0) 0 27 0) 0 29 0).1 0 6 = 0 := by rw [u1_s _ _ _ _ (by decide), u1_s _ _ _ _ (by decide), u1_s _ _ _ _ (by decide), u1_s _ _ _ _ (by decide), u1_s _ _ _ _ (by decide), u1_self]
      have g7 : (u1 (u1 (u1 (u1 (u1 (u1 (u1 (u1 M 0 5 (iI (n : Int))) 0 4 0) 0 6 0) 0 7 0) 0 25 0) 0 26 0) 0 27 0) 0 29 0).1 0 7 = 0 := by rw [u1_s _ _ _ _ (by decide), u1_s _ _ _ _ (by decide), u1_s _ _ _ _ (by decide), u1_s _ _ _ _ (by decide), u1_self]
      have g25 : (u1 (u1 (u1 (u1 (u1 (u1 (u1 (u1 M 0 5 (iI (n : Int))) 0 4 0) 0 6 0) 0 7 0) 0 25 0) 0 26 0) 0 27 0) 0 29 0).1 0 25 = 0 := by rw [u1_s _ _ _ _ (by decide), u1_s _ _ _ _ (by decide), u1_s _ _ _ _ (by decide), u1_self]
      have g26 : (u1 (u1 (u1 (u1 (u1 (u1 (u1 (u1 M 0 5 (iI (n : Int))) 0 4 0) 0 6 0) 0 7 0) 0 25 0) 0 26 0) 0 27 0) 0 29 0).1 0 26 = 0 := by rw [u1_s _ _ _ _ (by decide), u1_s _ _ _ _ (by decide), u1_self]
      have g27 : (u1 (u1 (u1 (u1 (u1 (u1 (u1 (u1 M 0 5 (iI (n : Int))) 0 4 0) 0 6 0) 0 7 0) 0 25 0) 0 26 0) 0 27 0) 0 29 0).1 0 27 = 0 := by rw [u1_s _ _ _ _ (by decide), u1_self]
      have g29 : (u1 (u1 (u1 (u1 (u1 (u1 (u1 (u1 M 0 5 (iI (n : Int))) 0 4 0) 0 6 0) 0 7 0) 0 25 0) 0 26 0) 0 27 0) 0 29 0).1 0 29 = 0 := u1_self _ _ _ _
      have gi : ∀ i, i ≠ 4 → i ≠ 5 → i ≠ 6 → i ≠ 7 → i ≠ 25 → i ≠ 26 → i ≠ 27 → i ≠ 29 → (u1 (u1 (u1 (u1 (u1 (u1 (u1 (u1 M 0 5 (iI (n : Int))) 0 4 0) 0 6 0) 0 7 0) 0 25 0) 0 26 0) 0 27 0) 0 29 0).1 0 i = M.1 0 i := fun i a1 a2 a3 a4 a5 a6 a7 a8 => by rw [u1_s _ _ _ _ a8, u1_s _ _ _ _ a7, u1_s _ _ _ _ a6, u1_s _ _ _ _ a5, u1_s _ _ _ _ a4, u1_s _ _ _ _ a3, u1_s _ _ _ _ a1, u1_s _ _ _ _ a2]
      have gq : ∀ q, q ≠ 0 → (u1 (u1 (u1 (u1 (u1 (u1 (u1 (u1 M 0 5 (iI (n : Int))) 0 4 0) 0 6 0) 0 7 0) 0 25 0) 0 26 0) 0 27 0) 0 29 0).1 q = M.1 q := fun q a => by rw [u1_ne a, u1_ne a, u1_ne a, u1_ne a, u1_ne a, u1_ne a, u1_ne a, u1_ne a]
      have g2 : (u1 (u1 (u1 (u1 (u1 (u1 (u1 (u1 M 0 5 (iI (n : Int))) 0 4 0) 0 6 0) 0 7 0) 0 25 0) 0 26 0) 0 27 0) 0 29 0).2 = M.2 := rfl
      have eM : ((some (u1 M 0 5 (iI (n : Int)))).bind fun M4 => (some (u1 M4 0 4 0)).bind fun M5 => (some (u1 M5 0 6 0)).bind fun M6 => (some (u1 M6 0 7 0)).bind fun M7 => (some (u1 M7 0 25 0)).bind fun M8 => (some (u1 M8 0 26 0)).bind fun M9 => (some (u1 M9 0 27 0)).bind fun M10 => (some (u1 M10 0 29 0)).bind fun M11 => lp_M_text_0_65 FW 0 M11) = lp_M_text_0_65 FW 0 (u1 (u1 (u1 (u1 (u1 (u1 (u1 (u1 M 0 5 (iI (n : Int))) 0 4 0) 0 6 0) 0 7 0) 0 25 0) 0 26 0) 0 27 0) 0 29 0) := rfl
      rw [eM]
      generalize u1 (u1 (u1 (u1 (u1 (u1 (u1 (u1 M 0 5 (iI (n : Int))) 0 4 0) 0 6 0) 0 7 0) 0 25 0) 0 26 0) 0 27 0) 0 29 0 = M1 at g4 g5 g6 g7 g25 g26 g27 g29 gi gq g2
      obtain ⟨M2, m1, m2, m3⟩ := M_tzero M1
      have tM : TapM tp M2 := fun q hq => ⟨(ht q hq).1, (ht q hq).2.1, by rw [m3.1 1 (by decide), gq 1 (by decide)]; exact (ht q hq).2.2.2⟩
      obtain ⟨M3, k1, k2, k3⟩ := M_goOn (p := 0) hn (Nat.zero_le n) tM (by rw [m3.1 0 (by decide)]; exact g5) (by rw [m3.1 0 (by decide), g6]; rfl) (by rw [m3.1 0 (by decide)]; exact g7)
      have z0 : ∀ i, i ≠ 6 → i ≠ 9 → i ≠ 10 → i ≠ 11 → i ≠ 12 → M3.1 0 i = M1.1 0 i := fun i a b c d e => by rw [k3.2.1 i a b c d e, m3.1 0 (by decide)]
      have hT : Tk tp n c 0 X2 M3 := by
        refine ⟨hn, x2.fr (fun q a b => by rw [y6 q (by omega), u1_ne (by omega), u1_ne (by omega), u1_ne (by omega)]), Nat.zero_le c, ?_, ?_, fun q hq => ?_, k3.tap tM, k2, by rw [z0 7 (by decide) (by decide) (by decide) (by decide) (by decide)]; exact g7⟩
        · rw [x14, u1_s _ _ _ _ (by decide), u1_s _ _ _ _ (by decide), u1_self]; rfl
        · rw [x14, u1_s _ _ _ _ (by decide), u1_self]
        · rw [fX 1 (by omega)]; exact tX q hq
      have hP : PlR (fun _ _ => 0) (fun _ => 0) 0 X2 M3 := by
        refine ⟨⟨y2 0 (by omega), y2 1 (by omega), y2 2 (by omega)⟩, ⟨?_, ?_, ?_⟩, ⟨?_, ?_, Or.inl rfl⟩, y3, fun b hb => ?_, fun i hi => ?_, fun i hi => ?_, ⟨fun c hc => (y4 c hc).1, fun c hc => (y4 c hc).2, y5⟩, fun q hq => by rw [k3.1 11 (by decide)]; exact m2 q hq, ⟨fun k hk => ?_, fun k hk => ?_⟩⟩
        · rw [z0 25 (by decide) (by decide) (by decide) (by decide) (by decide), g25]; rfl
        · rw [z0 26 (by decide) (by decide) (by decide) (by decide) (by decide), g26]; rfl
        · rw [z0 27 (by decide) (by decide) (by decide) (by decide) (by decide), g27]; rfl
        · rw [x14, u1_self]; rfl
        · rw [z0 29 (by decide) (by decide) (by decide) (by decide) (by decide), g29]; rfl
        · dsimp only at hb; omega
        · dsimp only at hi; omega
        · dsimp only at hi; omega
        · dsimp only at hk; omega
        · dsimp only at hk; omega
      have hK : PlOk (fun _ _ => 0) (fun _ => 0) := by
        have z1 : (0 : Int) ≤ 0 ∧ (0 : Int) ≤ 60 ∧ (0 : Int) ≤ 99 ∧ (0 : Int) ≤ 3 ∧ (0 : Int) ≤ 6 ∧ (0 : Int) ≤ 4 ∧ (0 : Int) ≤ 2 := by decide
        obtain ⟨z1, z2, z3, z4, z5, z6, z7⟩ := z1
        exact ⟨⟨z1, z4⟩, ⟨z1, z5, fun q => q⟩, ⟨z1, z6⟩, fun b => ⟨z1, z2, z1, z2, z1, z3⟩, fun b q => absurd rfl q, fun b _ => ⟨rfl, rfl, rfl⟩, fun i hi => by dsimp only at hi; omega, ⟨fun b k hb _ => by dsimp only at hb; omega, z1, z7⟩, fun b k _ _ _ => ⟨rfl, rfl⟩⟩
      obtain ⟨Y, N, r1, r2, r3, r4, r5⟩ := rd_loop (T := tp) (n := n) (c := c) c 0 0 FW FW X2 M3 (fun _ _ => 0) (fun _ => 0) 0 (by omega) (by omega) (FW_gt (by have := x2.1; omega)) (FW_gt (by have := x2.1; omega)) hT hP hK
      rw [eR, r1, Option.bind_some, Option.bind_some]
      dsimp only
      rw [m1]
      unfold j_M_text_0_84
      rw [k1, Option.bind_some, r2]
      -- frames
      have WxY : ∀ q, q < 14 ∨ 31 < q → Y.1 q = (u1 X 0 8 0).1 q := fun q hq => by rw [r4 q (by omega), fX q hq]
      have smX : SmX X (u1 Y 0 11 (Y.1 14 4)) := fun q hq => by rw [u1_ne (by omega), WxY q (by omega), u1_ne (by omega)]
      have zM : ∀ i, i < 4 ∨ (12 < i ∧ i < 25) ∨ i = 28 ∨ 29 < i → N.1 0 i = M.1 0 i := fun i hi => by rw [r5.2.2.1 i (by omega), z0 i (by omega) (by omega) (by omega) (by omega) (by omega), gi i (by omega) (by omega) (by omega) (by omega) (by omega) (by omega) (by omega) (by omega)]
      have zM4 : N.1 0 4 = 0 := by rw [r5.2.2.1 4 (by omega), z0 4 (by decide) (by decide) (by decide) (by decide) (by decide)]; exact g4
      have smM : SmM M N := by
        refine ⟨fun q hq => ?_, fun q i a b c d => ?_, fun i hi => zM i (by omega), fun i hi => ?_, fun i hi => ?_⟩
        · rw [r5.1 q (by omega) (by omega) (by omega), k3.1 q (by omega), m3.1 q (by omega), gq q (by omega)]
        · rw [r5.2.1 q i a b c d, k3.1 q (by omega), m3.1 q (by omega), gq q (by omega)]
        · rw [r5.2.2.2.1 i hi, k3.2.2 2 (by decide), m3.2, g2]
        · rw [r5.2.2.2.2 i hi, k3.2.2 3 (by decide), m3.2, g2]
      have Y0 : ∀ i, i ≠ 8 → Y.1 0 i = X.1 0 i := fun i hi => by rw [WxY 0 (by omega), u1_s _ _ _ _ hi]
      have Y8 : Y.1 0 8 = 0 := by rw [WxY 0 (by omega), u1_self]
      have N1 : N.1 1 = M.1 1 := by rw [r5.1 1 (by decide) (by decide) (by decide), k3.1 1 (by decide), m3.1 1 (by decide), gq 1 (by decide)]
      have Y1 : Y.1 1 = X.1 1 := by rw [WxY 1 (by omega), u1_ne (by decide)]
      have rel : N.1 0 7 = Y.1 14 4 → Rel (u1 Y 0 11 (Y.1 14 4)) N := fun hq => h.read smX smM (by rw [u1_ne (by decide)]; exact Y1) N1 (by rw [u1_s _ _ _ _ (by decide)]; exact Y8) zM4 (by rw [u1_s _ _ _ _ (by decide)]; exact Y0 9 (by decide)) (by rw [u1_s _ _ _ _ (by decide)]; exact Y0 10 (by decide)) (by rw [u1_s _ _ _ _ (by decide)]; exact Y0 12 (by decide)) (zM 1 (by omega)) (zM 2 (by omega)) (zM 28 (by omega)) (by rw [u1_self]; exact hq)
      have s11 : (u1 Y 0 11 (Y.1 14 4)).1 0 11 = Y.1 14 4 := u1_self _ _ _ _
      rw [s11]
      rcases r3 with ⟨q1, q2, P, u, rl, pl, ok, p1, p2⟩ | fl
      · -- no fault
        have hR := rel (by rw [q1, q2])
        rw [if_pos q1, q1] at *
        have cO := pl_cfg ok p1 p2
        obtain ⟨⟨a1, a2, a3⟩, ⟨d1, d2, d3⟩, -, pa, pb, pc, pd, pe, pf, pg⟩ := pl
        have pe' : WyX 24 u (u1 Y 0 11 0) := ⟨fun c hc => by rw [u1_ne (by decide)]; exact pe.1 c hc, fun c hc => by rw [u1_ne (by decide)]; exact pe.2.1 c hc, by rw [u1_ne (by decide)]; exact pe.2.2⟩
        obtain ⟨Z1, v1, v2, v3, v4, v5, v6, v7, v8⟩ := X_Ncopy pe'
        obtain ⟨Z2, w1, w2, w3, -⟩ := X_Vcopy_32_11 v7
        have cX : CfgX P (u1 Z2 0 9 1) := by
          have f : ∀ q, 2 ≤ q → q ≤ 10 → (u1 Z2 0 9 1).1 q = Z1.1 q := fun q a b => by rw [u1_ne (by omega), w3 q (by omega)]
          refine ⟨?_, ?_, ?_, fun b hb hb2 => ?_, fun i hi hi2 => ?_⟩
          · rw [f 2 (by omega) (by omega), v2 0 (by omega), u1_ne (by decide)]; exact a1
          · rw [f 2 (by omega) (by omega), v2 1 (by omega), u1_ne (by decide)]; exact a2
          · rw [f 2 (by omega) (by omega), v2 2 (by omega), u1_ne (by decide)]; exact a3
          · rw [f 3 (by omega) (by omega), f 4 (by omega) (by omega), f 5 (by omega) (by omega), (v3 b hb).1, (v3 b hb).2.1, (v3 b hb).2.2, u1_ne (by decide), u1_ne (by decide), u1_ne (by decide)]; exact pa b hb
          · rw [f 6 (by omega) (by omega), f 7 (by omega) (by omega), f 8 (by omega) (by omega), (v4 i hi).1, (v4 i hi).2.1, (v4 i hi).2.2, u1_ne (by decide), u1_ne (by decide), u1_ne (by decide)]; exact pc i hi2
        have wX : WyX 32 u (u1 Z2 0 9 1) := ⟨fun c hc => by rw [u1_ne (by decide)]; exact w2.1 c hc, fun c hc => by rw [u1_ne (by decide)]; exact w2.2.1 c hc, by rw [u1_ne (by decide)]; exact w2.2.2⟩
        obtain ⟨Z3, t1, t2, t3⟩ := X_start_35 cO cX wX ok.2.2.2.2.2.2.2.1 ok.2.2.2.2.2.2.2.2 0
        rw [if_pos rfl] at t2
        obtain ⟨B1, B2, B3, B4⟩ := Bd_bg cO (aOk_0 P)
        obtain ⟨O, o1, ⟨o2, o3, o4⟩, ⟨o5, o6⟩, o7, o8, o9, oa, ob, ⟨oc, od⟩, oe, of⟩ := M_becomes (C := P) N
        have z65 : ∀ q, q ≠ 65 → q ≠ 69 → q ≠ 86 → (u1 (u1 (u1 Z3 65 2 0) 69 2 0) 86 2 0).1 q = Z3.1 q := fun q a b c => by rw [u1_ne c, u1_ne b, u1_ne a]
        have zl : ∀ q, q < 32 → q ≠ 0 → Z3.1 q = Z1.1 q := fun q a b => by rw [t3.1 q (by omega), u1_ne b, w3 q (by omega)]
        have bX : (u1 (u1 (u1 Z3 65 2 0) 69 2 0) 86 2 0).1 2 1 = iI (P 0 1) := by
          rw [z65 2 (by decide) (by decide) (by decide), zl 2 (by decide) (by decide), v2 1 (by omega), u1_ne (by decide)]; exact a2
        unfold j_M_text_0_158
        rw [q2, if_pos (Int32.le_refl 0), o1, Option.bind_some, v1, Option.bind_some, w1, Option.bind_some, Option.bind_some, t1, Option.bind_some, X_forget, Option.bind_some, bX, o3, d2]
        have Z0 : ∀ i, i ≠ 8 → i ≠ 9 → i ≠ 11 → (u1 (u1 (u1 Z3 65 2 0) 69 2 0) 86 2 0).1 0 i = X.1 0 i := fun i a b c => by
          rw [z65 0 (by decide) (by decide) (by decide), t3.1 0 (by omega), u1_s _ _ _ _ b, w3 0 (by omega), v8 0 (by omega), u1_s _ _ _ _ c]; exact Y0 i a
        have Z0b : ∀ i, i ≠ 9 → (u1 (u1 (u1 Z3 65 2 0) 69 2 0) 86 2 0).1 0 i = (u1 Y 0 11 0).1 0 i := fun i b => by
          rw [z65 0 (by decide) (by decide) (by decide), t3.1 0 (by omega), u1_s _ _ _ _ b, w3 0 (by omega), v8 0 (by omega)]
        have Z09 : (u1 (u1 (u1 Z3 65 2 0) 69 2 0) 86 2 0).1 0 9 = 1 := by rw [z65 0 (by decide) (by decide) (by decide), t3.1 0 (by omega), u1_self]
        have T2 : Tld P u (bgS P (fun _ => 0)) (fun _ _ => 0) (u1 (u1 (u1 Z3 65 2 0) 69 2 0) 86 2 0) O := by
          refine ⟨cO, (t3.cfg (by decide) cX).fr (fun q a b => z65 q (by omega) (by omega) (by omega)), ⟨by rw [o2]; exact d1, by rw [o3]; exact d2, by rw [o4]; exact d3, fun b hb hb2 => ?_, fun i hi hi2 => ?_⟩, ⟨ok.2.2.2.2.2.2.2.1, ok.2.2.2.2.2.2.2.2, B1, B2, by rw [B3]; decide, ?_, ?_, fun j hj => by rw [ob j hj]; exact pf j hj, ?_⟩, ⟨fun k hk => ?_, fun b hb => ?_⟩, ?_, ?_, ?_⟩
          · obtain ⟨-, y4', y5', y6'⟩ := o9 b hb
            rw [y4', y5', y6']; exact pb b hb2
          · obtain ⟨y7', y8', y9'⟩ := oa i hi
            rw [y7', y8', y9']; exact pd i hi2
          · have := t3.wy (q := 32) (by decide) wX
            exact ⟨fun c hc => by rw [z65 33 (by decide) (by decide) (by decide)]; exact this.1 c hc, fun c hc => by rw [z65 34 (by decide) (by decide) (by decide)]; exact this.2.1 c hc, by rw [z65 32 (by decide) (by decide) (by decide)]; exact this.2.2⟩
          · rw [B4]
            exact t2.other (fun q a b => z65 q (by omega) (by omega) (by omega))
          · exact oe.congr (fun i j _ _ => bg_0 i j) (bg_0 14 1) (bg_0 14 2)
          · obtain ⟨z, l, x1, x2, x3, x4, x5⟩ := pg.1 k hk
            have k3' := cO.2.1
            refine ⟨z, l, x1, x2, ?_, fun j hj => ⟨(x4 j hj).1, (x4 j hj).2.1, ?_⟩, by rw [o8 k (by omega)]; exact x5⟩
            · rw [z65 10 (by decide) (by decide) (by decide), zl 10 (by decide) (by decide), v6 k (by omega), u1_ne (by decide)]; exact x3
            · rw [z65 9 (by decide) (by decide) (by decide), zl 9 (by decide) (by decide), v5 _ (by omega), u1_ne (by decide)]; exact (x4 j hj).2.2
          · obtain ⟨z, l, x1, x2, x3, x4, x5⟩ := pg.2 b hb
            have b6' := cO.2.2.2.1
            refine ⟨z, l, x1, x2, ?_, fun j hj => ⟨(x4 j hj).1, (x4 j hj).2.1, ?_⟩, by rw [(o9 b (by omega)).1]; exact x5⟩
            · rw [z65 10 (by decide) (by decide) (by decide), zl 10 (by decide) (by decide), v6 (3 + b) (by omega), u1_ne (by decide)]; exact x3
            · rw [z65 9 (by decide) (by decide) (by decide), zl 9 (by decide) (by decide), v5 _ (by omega), u1_ne (by decide)]; exact (x4 j hj).2.2
          · refine ⟨0, fun _ => u, fun _ => 0, fun _ => 0, by omega, ?_, by rw [o5]; rfl, fun _ _ => rfl, fun j hj => absurd hj (by omega)⟩
            rw [u1_ne (by decide), u1_ne (by decide), u1_self]; rfl
          · refine ⟨?_, Or.inl ?_⟩
            · rw [u1_ne (by decide), u1_self, oc]
            · rw [u1_ne (by decide), u1_self]
          · refine ⟨?_, Or.inl ?_⟩
            · rw [u1_self, od]
            · rw [u1_self]
        obtain ⟨⟨⟨m, f1, f2, f3⟩, tq, hq⟩, f4, f5, f6, -⟩ := hR
        have R2 : Rel (u1 (u1 (u1 Z3 65 2 0) 69 2 0) 86 2 0) O := by
          refine ⟨⟨⟨m, f1, by rw [Z0b 8 (by decide)]; exact f2, by rw [o7 4 (by decide) (by decide) (by decide) (by decide) (by decide)]; exact f3⟩, tq, fun i hi => ?_⟩, ?_, ?_, ?_, Or.inr ⟨Z09, o6, P, u, _, _, T2⟩⟩
          · rw [z65 1 (by decide) (by decide) (by decide), zl 1 (by decide) (by decide), v8 1 (by omega), of]; exact hq i hi
          · rw [o7 1 (by decide) (by decide) (by decide) (by decide) (by decide), Z0b 10 (by decide)]; exact f4
          · rw [o7 2 (by decide) (by decide) (by decide) (by decide) (by decide), Z0b 12 (by decide)]; exact f5
          · rw [o7 7 (by decide) (by decide) (by decide) (by decide) (by decide), Z0b 11 (by decide)]; exact f6
        exact An_good R2 _
      · -- a fault
        obtain ⟨v, i, a1, a2, a3, a4, a5, a6, a7, a8⟩ := fl
        have hR := rel (by rw [a3, a4])
        have cv : ¬ (Y.1 14 4 = 0) := by rw [a3, l0, iI_eq (by omega) (by omega) (by omega) (by omega)]; omega
        have cv2 : ¬ (N.1 0 7 ≤ 0) := by rw [a4, l0, iI_le (by omega) (by omega) (by omega) (by omega)]; omega
        rw [if_neg cv]
        unfold j_M_text_0_158 f_P_refused_0 f_R_placeReached_14
        rw [if_neg cv2, Option.bind_some, Option.bind_some, Option.bind_some]
        dsimp only
        have c6 := a8.1
        have at' : (u1 (u1 (u1 Y 0 11 (Y.1 14 4)) 0 10 4) 0 12 (-1)).1 14 2 = iI (i : Int) := by rw [u1_ne (by decide), u1_ne (by decide), u1_ne (by decide)]; exact a6
        have pl29 : (u1 (u1 (u1 Y 0 11 (Y.1 14 4)) 0 10 4) 0 12 (-1)).1 29 i = iI (sqS tp n i : Int) := by
          rw [u1_ne (by decide), u1_ne (by decide), u1_ne (by decide)]
          by_cases e : i = c
          · rw [e, a8.2.2.2.2, a8.2.1]
          · exact (a8.2.2.1 i (by omega)).2.2.1
        rw [at', rdK (by omega), pl29, Option.bind_some, Option.bind_some, Option.bind_some, Option.bind_some, Option.bind_some, u1_tw, u1_s _ _ _ _ (by decide), a7]
        exact ⟨_, _, _, rfl, rfl, hR.set 4 (iI (sqS tp n i : Int))⟩
    · rw [if_neg (fun q => e2 (c2.mp q)), if_pos (c3.mpr (by omega)), Option.bind_some, if_pos rfl]; exact An_ref h 2

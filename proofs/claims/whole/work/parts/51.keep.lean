theorem An_b1 {x x2 y y2 : Option (Int32 × Mm)} (h : An x2 y2) : An ((some (1 : Int32)).bind fun v => if v = 0 then x else x2) ((some (1 : Int32)).bind fun v => if v = 0 then y else y2) := by
  rw [Option.bind_some, Option.bind_some, if_neg n10, if_neg n10]; exact h
theorem An_b0 {x x2 y y2 : Option (Int32 × Mm)} (h : An x y) : An ((some (0 : Int32)).bind fun v => if v = 0 then x else x2) ((some (0 : Int32)).bind fun v => if v = 0 then y else y2) := by
  rw [Option.bind_some, Option.bind_some, if_pos rfl, if_pos rfl]; exact h
theorem ImgR.fr2 {C : SS} {X M Y N : Mm} {i o q p : Nat} (h : ImgR C X M i o q p) (e1 : Y.1 o = X.1 o) (hq : ∀ i, q ≤ i → i ≤ q + 2 → Y.1 i = X.1 i) (hp : ∀ i, p ≤ i → i ≤ p + 12 → Y.1 i = X.1 i) (e2 : N.1 18 i = M.1 18 i) (e3 : ∀ j, j < 99 → N.1 17 (99 * i + j) = M.1 17 (99 * i + j)) (e4 : ∀ j, j < 37 → N.1 14 (37 * i + j) = M.1 14 (37 * i + j)) : ImgR C Y N i o q p := by
  unfold ImgR
  rw [e1, e2]
  refine ⟨h.1, ?_⟩
  rcases h.2 with h | ⟨h, w, S, Q, r⟩
  · exact Or.inl h
  · obtain ⟨r1, r2, r3, r4, r5, r6, r7, r8, r9⟩ := r.fr hq hp rfl rfl
    exact Or.inr ⟨h, w, S, Q, r1, r2, r3, r4, r5, r6, r7, fun j hj => (e4 j hj).trans (r8 j hj), RelM.row r9 e3⟩
theorem T_keep_0 {C : SS} {w : Nat → Int} {S Q : SS} {X M : Mm} (T : Tld C w S Q X M) : ∃ Y N, ((f_L_copy_73_35 (u1 X 69 2 1)).bind fun M7 => f_V_copy_70_32 M7) = some Y ∧ lp_M_keep_0_29 FW (iI 0) 0 M = ((f_M_granted_0 0 N).bind fun q2 => (zr q2.1).bind fun z3 => some (z3, q2.2)) ∧ Tld C w S Q Y N ∧ Y.1 0 = X.1 0 ∧ Y.1 1 = X.1 1 ∧ N.1 0 = M.1 0 ∧ N.1 1 = M.1 1 := by
  have rx : RelX 35 S (totS S (C 0 0).toNat) (u1 X 69 2 1) := T.rx.other (fun q _ _ => u1_ne (by omega))
  obtain ⟨X1, x1, x2, x3⟩ := X_Lcopy_73_35 rx
  have n1 : ∀ q, q < 69 ∨ (69 < q ∧ q < 73) ∨ 73 + 12 < q → X1.1 q = X.1 q := fun q hq => by rw [x3.1 q (by omega), u1_ne (by omega)]
  have wx : WyX 32 w X1 := by
    have q := T.wx
    exact ⟨fun c hc => by rw [n1 33 (by decide)]; exact q.1 c hc, fun c hc => by rw [n1 34 (by decide)]; exact q.2.1 c hc, by rw [n1 32 (by decide)]; exact q.2.2⟩
  obtain ⟨Y, y1, y2, y3, y4⟩ := X_Vcopy_70_32 wx
  have nY : ∀ q, q < 69 ∨ 73 + 12 < q → Y.1 q = X.1 q := fun q hq => by rw [y3 q (by omega), n1 q (by omega)]
  obtain ⟨M1, a1, a2, a3, a4⟩ := M_keep1 (M := M) (i := 0) (by omega)
  obtain ⟨M2, b1, b2, b3, b4⟩ := M_keep2 (M := M1) (i := 0) (by omega)
  have wz : wrZ M2 18 2 (iI 0) 1 = some (u1 M2 18 0 1) := by
    unfold wrZ
    have hz : (0 : Int32) ≤ iI 0 := by rw [l0, iI_le (by omega) (by omega) (by omega) (by omega)]; omega
    rw [iI_clamp (by omega) (by omega), if_pos ⟨hz, by decide⟩]
    rfl
  have nM : ∀ q, q ≠ 14 → q ≠ 17 → q ≠ 18 → (u1 M2 18 0 1).1 q = M.1 q := fun q z1 z2 z3 => by rw [u1_ne z3, b4.1 q z1, a4.1 q z2]
  have n2 : (u1 M2 18 0 1).2 = M.2 := b4.2.trans a4.2
  have r17 : (u1 M2 18 0 1).1 17 = M1.1 17 := by rw [u1_ne (by decide), b4.1 17 (by decide)]
  have r14 : (u1 M2 18 0 1).1 14 = M2.1 14 := by rw [u1_ne (by decide)]
  have m10 : M1.1 10 = M.1 10 := a4.1 10 (by decide)
  have m14 : M1.1 14 = M.1 14 := a4.1 14 (by decide)
  have k18 : (u1 M2 18 0 1).1 18 0 = 1 := by rw [u1_at, if_pos ⟨rfl, rfl⟩]
  have k18' : (u1 M2 18 0 1).1 18 1 = M.1 18 1 := by rw [u1_at, if_neg (by decide), b4.1 18 (by decide), a4.1 18 (by decide)]
  have yo : Y.1 69 2 = 1 := by rw [y3 69 (by decide), x3.1 69 (by decide), u1_at, if_pos ⟨rfl, rfl⟩]
  refine ⟨Y, u1 M2 18 0 1, by rw [x1, Option.bind_some, y1], ?_, ?_, nY 0 (by decide), nY 1 (by decide), nM 0 (by decide) (by decide) (by decide), nM 1 (by decide) (by decide) (by decide)⟩
  · have a1' : lp_M_keep_0_29 FW (iI 0) 0 M = j_M_keep_0_58 (iI 0) M1 := a1
    have b1' : j_M_keep_0_58 (iI 0) M1 = j_M_keep_0_89 (iI 0) M2 := b1
    rw [a1', b1']
    unfold j_M_keep_0_89
    rw [wz, Option.bind_some]
  · obtain ⟨t1, t2, t3, t4, t5, t6, t7, t8⟩ := T
    have img : ImgR C Y (u1 M2 18 0 1) 0 69 70 73 := by
      refine ⟨by rw [yo, k18], Or.inr ⟨yo, w, S, Q, t4.1, t4.2.1, t4.2.2.1, t4.2.2.2.1, t4.2.2.2.2.1, y2, x2.other (fun q z1 z2 => y3 q (by omega)), fun j hj => ?_, ?_⟩⟩
      · show (u1 M2 18 0 1).1 14 (37 * 0 + j) = _
        rw [r14, b2 j hj, m10]; exact t4.2.2.2.2.2.2.2.1 j hj
      · refine RelM.row (K := 0) t4.2.2.2.2.2.2.2.2 (fun j hj => ?_)
        rw [r17]; exact a2 j hj
    have img2 : ImgR C Y (u1 M2 18 0 1) 1 86 87 90 := by
      refine ImgR.fr2 (M := M) (X := X) ?_ (nY 86 (by decide)) (fun q z1 z2 => nY q (by omega)) (fun q z1 z2 => nY q (by omega)) k18' (fun j hj => by rw [r17]; exact a3 _ (by omega)) (fun j hj => by rw [r14, b3 _ (by omega), m14])
      first | exact t8 | exact t7
    have run : RunR C w S Q 35 32 Y ((u1 M2 18 0 1).1 15) ((u1 M2 18 0 1).1 10) := t4.fr (fun q _ _ => nY q (by omega)) (fun q _ _ => nY q (by omega)) (nM 15 (by decide) (by decide) (by decide)) (nM 10 (by decide) (by decide) (by decide))
    have act : ActR C w Y (u1 M2 18 0 1) := t6.fr (nY 65 (by decide)) (nY 66 (by decide)) (nY 67 (by decide)) (by rw [nM 0 (by decide) (by decide) (by decide)]) (nM 13 (by decide) (by decide) (by decide))
    have nam : NamR C Y (u1 M2 18 0 1) := t5.fr t1 (nY 9 (by decide)) (nY 10 (by decide)) (fun i _ => by rw [n2]) (fun i _ => by rw [n2])
    refine ⟨t1, t2.fr (fun q _ _ => nY q (by omega)), t3.fr (fun i _ => by rw [nM 0 (by decide) (by decide) (by decide)]) (fun q i _ _ _ _ => by rw [nM q (by omega) (by omega) (by omega)]), run, nam, act, ?_, ?_⟩
    · first | exact img | exact img2
    · first | exact img2 | exact img
theorem T_back_0 {C : SS} {w : Nat → Int} {S Q : SS} {X M : Mm} (T : Tld C w S Q X M) (hk : X.1 69 2 ≠ 0) : ∃ w2 S2 Q2 Y N, ((f_L_copy_35_73 X).bind fun M9 => f_V_copy_32_70 M9) = some Y ∧ lp_M_back_0_38 FW (iI 0) 0 M = ((f_M_granted_0 0 (u1 N 0 35 0)).bind fun q3 => (zr q3.1).bind fun z4 => some (z4, q3.2)) ∧ Tld C w2 S2 Q2 (u1 Y 65 2 0) (u1 N 0 35 0) ∧ Y.1 0 = X.1 0 ∧ Y.1 1 = X.1 1 ∧ N.1 0 = M.1 0 ∧ N.1 1 = M.1 1 := by
  obtain ⟨t1, t2, t3, t4, t5, t6, t7, t8⟩ := T
  have img : ImgR C X M 0 69 70 73 := by first | exact t7 | exact t8
  rcases img.2 with e | ⟨-, w2, S2, Q2, r⟩
  · exact absurd e hk
  obtain ⟨r1, r2, r3, r4, r5, r6, r7, r8, r9⟩ := r
  obtain ⟨X1, x1, x2, x3⟩ := X_Lcopy_35_73 r7
  have wx : WyX 70 w2 X1 := x3.wy (by decide) r6
  obtain ⟨Y, y1, y2, y3, y4⟩ := X_Vcopy_32_70 wx
  have nY : ∀ q, q < 32 ∨ 47 < q → Y.1 q = X.1 q := fun q hq => by rw [y3 q (by omega), x3.1 q (by omega)]
  obtain ⟨M1, a1, a2, a3⟩ := M_back1 (M := M) (i := 0) (by omega)
  obtain ⟨M2, b1, b2, b3⟩ := M_back2 (M := M1) (i := 0) (by omega)
  have nM : ∀ q, q ≠ 10 → q ≠ 15 → M2.1 q = M.1 q := fun q z1 z2 => by rw [b3.1 q z1, a3.1 q z2]
  have n2 : M2.2 = M.2 := b3.2.trans a3.2
  have uY : ∀ q, q < 32 ∨ (47 < q ∧ q ≠ 65) → (u1 Y 65 2 0).1 q = X.1 q := fun q hq => by rw [u1_ne (by omega), nY q (by omega)]
  have uM : ∀ q, q ≠ 0 → q ≠ 10 → q ≠ 15 → (u1 M2 0 35 0).1 q = M.1 q := fun q z1 z2 z3 => by rw [u1_ne z1, nM q z2 z3]
  have u0 : ∀ j, j ≠ 35 → (u1 M2 0 35 0).1 0 j = M.1 0 j := fun j hj => by rw [u1_at, if_neg (fun q => hj q.2), nM 0 (by decide) (by decide)]
  refine ⟨w2, S2, Q2, Y, M2, by rw [x1, Option.bind_some, y1], (show lp_M_back_0_38 FW (iI 0) 0 M = j_M_back_0_67 (iI 0) M1 from a1).trans b1, ?_, nY 0 (by decide), nY 1 (by decide), nM 0 (by decide) (by decide), nM 1 (by decide) (by decide)⟩
  have run : RunR C w2 S2 Q2 35 32 (u1 Y 65 2 0) ((u1 M2 0 35 0).1 15) ((u1 M2 0 35 0).1 10) := by
    refine ⟨r1, r2, r3, r4, r5, ⟨fun c hc => by rw [u1_ne (by decide)]; exact y2.1 c hc, fun c hc => by rw [u1_ne (by decide)]; exact y2.2.1 c hc, by rw [u1_ne (by decide)]; exact y2.2.2⟩, (x2.other (fun q z1 z2 => y3 q (by omega))).other (fun q z1 z2 => u1_ne (by omega)), fun j hj => ?_, ?_⟩
    · rw [u1_ne (by decide), b2 j hj, a3.1 14 (by decide)]; exact r8 j hj
    · refine RelM.row (K := 0) r9 (fun j hj => ?_)
      rw [u1_ne (by decide), b3.1 15 (by decide)]; exact a2 j hj
  refine ⟨t1, t2.fr (fun q _ _ => uY q (by omega)), t3.fr (fun i hi => u0 i (by omega)) (fun q i _ _ _ _ => by rw [uM q (by omega) (by omega) (by omega)]), run, t5.fr t1 (uY 9 (by decide)) (uY 10 (by decide)) (fun i _ => by show M2.2 2 i = _; rw [n2]) (fun i _ => by show M2.2 3 i = _; rw [n2]), ?_, ?_, ?_⟩
  · exact ⟨0, fun _ => w2, fun _ => 0, fun _ => 0, by omega, by rw [u1_at, if_pos ⟨rfl, rfl⟩]; rfl, by rw [u1_at, if_pos ⟨rfl, rfl⟩]; rfl, fun _ _ => rfl, fun j hj => absurd hj (by omega)⟩
  · exact t7.fr (uY 69 (by decide)) (fun i _ _ => uY i (by omega)) (fun i _ _ => uY i (by omega)) (uM 18 (by decide) (by decide) (by decide)) (uM 17 (by decide) (by decide) (by decide)) (uM 14 (by decide) (by decide) (by decide))
  · exact t8.fr (uY 86 (by decide)) (fun i _ _ => uY i (by omega)) (fun i _ _ => uY i (by omega)) (uM 18 (by decide) (by decide) (by decide)) (uM 17 (by decide) (by decide) (by decide)) (uM 14 (by decide) (by decide) (by decide))
theorem T_keep_1 {C : SS} {w : Nat → Int} {S Q : SS} {X M : Mm} (T : Tld C w S Q X M) : ∃ Y N, ((f_L_copy_90_35 (u1 X 86 2 1)).bind fun M7 => f_V_copy_87_32 M7) = some Y ∧ lp_M_keep_0_29 FW (iI 1) 0 M = ((f_M_granted_0 0 N).bind fun q2 => (zr q2.1).bind fun z3 => some (z3, q2.2)) ∧ Tld C w S Q Y N ∧ Y.1 0 = X.1 0 ∧ Y.1 1 = X.1 1 ∧ N.1 0 = M.1 0 ∧ N.1 1 = M.1 1 := by
  have rx : RelX 35 S (totS S (C 0 0).toNat) (u1 X 86 2 1) := T.rx.other (fun q _ _ => u1_ne (by omega))
  obtain ⟨X1, x1, x2, x3⟩ := X_Lcopy_90_35 rx
  have n1 : ∀ q, q < 86 ∨ (86 < q ∧ q < 90) ∨ 90 + 12 < q → X1.1 q = X.1 q := fun q hq => by rw [x3.1 q (by omega), u1_ne (by omega)]
  have wx : WyX 32 w X1 := by
    have q := T.wx
    exact ⟨fun c hc => by rw [n1 33 (by decide)]; exact q.1 c hc, fun c hc => by rw [n1 34 (by decide)]; exact q.2.1 c hc, by rw [n1 32 (by decide)]; exact q.2.2⟩
  obtain ⟨Y, y1, y2, y3, y4⟩ := X_Vcopy_87_32 wx
  have nY : ∀ q, q < 86 ∨ 90 + 12 < q → Y.1 q = X.1 q := fun q hq => by rw [y3 q (by omega), n1 q (by omega)]
  obtain ⟨M1, a1, a2, a3, a4⟩ := M_keep1 (M := M) (i := 1) (by omega)
  obtain ⟨M2, b1, b2, b3, b4⟩ := M_keep2 (M := M1) (i := 1) (by omega)
  have wz : wrZ M2 18 2 (iI 1) 1 = some (u1 M2 18 1 1) := by
    unfold wrZ
    have hz : (0 : Int32) ≤ iI 1 := by rw [l0, iI_le (by omega) (by omega) (by omega) (by omega)]; omega
    rw [iI_clamp (by omega) (by omega), if_pos ⟨hz, by decide⟩]
    rfl
  have nM : ∀ q, q ≠ 14 → q ≠ 17 → q ≠ 18 → (u1 M2 18 1 1).1 q = M.1 q := fun q z1 z2 z3 => by rw [u1_ne z3, b4.1 q z1, a4.1 q z2]
  have n2 : (u1 M2 18 1 1).2 = M.2 := b4.2.trans a4.2
  have r17 : (u1 M2 18 1 1).1 17 = M1.1 17 := by rw [u1_ne (by decide), b4.1 17 (by decide)]
  have r14 : (u1 M2 18 1 1).1 14 = M2.1 14 := by rw [u1_ne (by decide)]
  have m10 : M1.1 10 = M.1 10 := a4.1 10 (by decide)
  have m14 : M1.1 14 = M.1 14 := a4.1 14 (by decide)
  have k18 : (u1 M2 18 1 1).1 18 1 = 1 := by rw [u1_at, if_pos ⟨rfl, rfl⟩]
  have k18' : (u1 M2 18 1 1).1 18 0 = M.1 18 0 := by rw [u1_at, if_neg (by decide), b4.1 18 (by decide), a4.1 18 (by decide)]
  have yo : Y.1 86 2 = 1 := by rw [y3 86 (by decide), x3.1 86 (by decide), u1_at, if_pos ⟨rfl, rfl⟩]
  refine ⟨Y, u1 M2 18 1 1, by rw [x1, Option.bind_some, y1], ?_, ?_, nY 0 (by decide), nY 1 (by decide), nM 0 (by decide) (by decide) (by decide), nM 1 (by decide) (by decide) (by decide)⟩
  · have a1' : lp_M_keep_0_29 FW (iI 1) 0 M = j_M_keep_0_58 (iI 1) M1 := a1
    have b1' : j_M_keep_0_58 (iI 1) M1 = j_M_keep_0_89 (iI 1) M2 := b1
    rw [a1', b1']
    unfold j_M_keep_0_89
    rw [wz, Option.bind_some]
  · obtain ⟨t1, t2, t3, t4, t5, t6, t7, t8⟩ := T
    have img : ImgR C Y (u1 M2 18 1 1) 1 86 87 90 := by
      refine ⟨by rw [yo, k18], Or.inr ⟨yo, w, S, Q, t4.1, t4.2.1, t4.2.2.1, t4.2.2.2.1, t4.2.2.2.2.1, y2, x2.other (fun q z1 z2 => y3 q (by omega)), fun j hj => ?_, ?_⟩⟩
      · show (u1 M2 18 1 1).1 14 (37 * 1 + j) = _
        rw [r14, b2 j hj, m10]; exact t4.2.2.2.2.2.2.2.1 j hj
      · refine RelM.row (K := 0) t4.2.2.2.2.2.2.2.2 (fun j hj => ?_)
        rw [r17]; exact a2 j hj
    have img2 : ImgR C Y (u1 M2 18 1 1) 0 69 70 73 := by
      refine ImgR.fr2 (M := M) (X := X) ?_ (nY 69 (by decide)) (fun q z1 z2 => nY q (by omega)) (fun q z1 z2 => nY q (by omega)) k18' (fun j hj => by rw [r17]; exact a3 _ (by omega)) (fun j hj => by rw [r14, b3 _ (by omega), m14])
      first | exact t8 | exact t7
    have run : RunR C w S Q 35 32 Y ((u1 M2 18 1 1).1 15) ((u1 M2 18 1 1).1 10) := t4.fr (fun q _ _ => nY q (by omega)) (fun q _ _ => nY q (by omega)) (nM 15 (by decide) (by decide) (by decide)) (nM 10 (by decide) (by decide) (by decide))
    have act : ActR C w Y (u1 M2 18 1 1) := t6.fr (nY 65 (by decide)) (nY 66 (by decide)) (nY 67 (by decide)) (by rw [nM 0 (by decide) (by decide) (by decide)]) (nM 13 (by decide) (by decide) (by decide))
    have nam : NamR C Y (u1 M2 18 1 1) := t5.fr t1 (nY 9 (by decide)) (nY 10 (by decide)) (fun i _ => by rw [n2]) (fun i _ => by rw [n2])
    refine ⟨t1, t2.fr (fun q _ _ => nY q (by omega)), t3.fr (fun i _ => by rw [nM 0 (by decide) (by decide) (by decide)]) (fun q i _ _ _ _ => by rw [nM q (by omega) (by omega) (by omega)]), run, nam, act, ?_, ?_⟩
    · first | exact img | exact img2
    · first | exact img2 | exact img
theorem T_back_1 {C : SS} {w : Nat → Int} {S Q : SS} {X M : Mm} (T : Tld C w S Q X M) (hk : X.1 86 2 ≠ 0) : ∃ w2 S2 Q2 Y N, ((f_L_copy_35_90 X).bind fun M9 => f_V_copy_32_87 M9) = some Y ∧ lp_M_back_0_38 FW (iI 1) 0 M = ((f_M_granted_0 0 (u1 N 0 35 0)).bind fun q3 => (zr q3.1).bind fun z4 => some (z4, q3.2)) ∧ Tld C w2 S2 Q2 (u1 Y 65 2 0) (u1 N 0 35 0) ∧ Y.1 0 = X.1 0 ∧ Y.1 1 = X.1 1 ∧ N.1 0 = M.1 0 ∧ N.1 1 = M.1 1 := by
  obtain ⟨t1, t2, t3, t4, t5, t6, t7, t8⟩ := T
  have img : ImgR C X M 1 86 87 90 := by first | exact t7 | exact t8
  rcases img.2 with e | ⟨-, w2, S2, Q2, r⟩
  · exact absurd e hk
  obtain ⟨r1, r2, r3, r4, r5, r6, r7, r8, r9⟩ := r
  obtain ⟨X1, x1, x2, x3⟩ := X_Lcopy_35_90 r7
  have wx : WyX 87 w2 X1 := x3.wy (by decide) r6
  obtain ⟨Y, y1, y2, y3, y4⟩ := X_Vcopy_32_87 wx
  have nY : ∀ q, q < 32 ∨ 47 < q → Y.1 q = X.1 q := fun q hq => by rw [y3 q (by omega), x3.1 q (by omega)]
  obtain ⟨M1, a1, a2, a3⟩ := M_back1 (M := M) (i := 1) (by omega)
  obtain ⟨M2, b1, b2, b3⟩ := M_back2 (M := M1) (i := 1) (by omega)
  have nM : ∀ q, q ≠ 10 → q ≠ 15 → M2.1 q = M.1 q := fun q z1 z2 => by rw [b3.1 q z1, a3.1 q z2]
  have n2 : M2.2 = M.2 := b3.2.trans a3.2
  have uY : ∀ q, q < 32 ∨ (47 < q ∧ q ≠ 65) → (u1 Y 65 2 0).1 q = X.1 q := fun q hq => by rw [u1_ne (by omega), nY q (by omega)]
  have uM : ∀ q, q ≠ 0 → q ≠ 10 → q ≠ 15 → (u1 M2 0 35 0).1 q = M.1 q := fun q z1 z2 z3 => by rw [u1_ne z1, nM q z2 z3]
  have u0 : ∀ j, j ≠ 35 → (u1 M2 0 35 0).1 0 j = M.1 0 j := fun j hj => by rw [u1_at, if_neg (fun q => hj q.2), nM 0 (by decide) (by decide)]
  refine ⟨w2, S2, Q2, Y, M2, by rw [x1, Option.bind_some, y1], (show lp_M_back_0_38 FW (iI 1) 0 M = j_M_back_0_67 (iI 1) M1 from a1).trans b1, ?_, nY 0 (by decide), nY 1 (by decide), nM 0 (by decide) (by decide), nM 1 (by decide) (by decide)⟩
  have run : RunR C w2 S2 Q2 35 32 (u1 Y 65 2 0) ((u1 M2 0 35 0).1 15) ((u1 M2 0 35 0).1 10) := by
    refine ⟨r1, r2, r3, r4, r5, ⟨fun c hc => by rw [u1_ne (by decide)]; exact y2.1 c hc, fun c hc => by rw [u1_ne (by decide)]; exact y2.2.1 c hc, by rw [u1_ne (by decide)]; exact y2.2.2⟩, (x2.other (fun q z1 z2 => y3 q (by omega))).other (fun q z1 z2 => u1_ne (by omega)), fun j hj => ?_, ?_⟩
    · rw [u1_ne (by decide), b2 j hj, a3.1 14 (by decide)]; exact r8 j hj
    · refine RelM.row (K := 0) r9 (fun j hj => ?_)
      rw [u1_ne (by decide), b3.1 15 (by decide)]; exact a2 j hj
  refine ⟨t1, t2.fr (fun q _ _ => uY q (by omega)), t3.fr (fun i hi => u0 i (by omega)) (fun q i _ _ _ _ => by rw [uM q (by omega) (by omega) (by omega)]), run, t5.fr t1 (uY 9 (by decide)) (uY 10 (by decide)) (fun i _ => by show M2.2 2 i = _; rw [n2]) (fun i _ => by show M2.2 3 i = _; rw [n2]), ?_, ?_, ?_⟩
  · exact ⟨0, fun _ => w2, fun _ => 0, fun _ => 0, by omega, by rw [u1_at, if_pos ⟨rfl, rfl⟩]; rfl, by rw [u1_at, if_pos ⟨rfl, rfl⟩]; rfl, fun _ _ => rfl, fun j hj => absurd hj (by omega)⟩
  · exact t7.fr (uY 69 (by decide)) (fun i _ _ => uY i (by omega)) (fun i _ _ => uY i (by omega)) (uM 18 (by decide) (by decide) (by decide)) (uM 17 (by decide) (by decide) (by decide)) (uM 14 (by decide) (by decide) (by decide))
  · exact t8.fr (uY 86 (by decide)) (fun i _ _ => uY i (by omega)) (fun i _ _ => uY i (by omega)) (uM 18 (by decide) (by decide) (by decide)) (uM 17 (by decide) (by decide) (by decide)) (uM 14 (by decide) (by decide) (by decide))
theorem R_keep {X M : Mm} (h0 : Rel X M) (p : Int32) : An (f_P_keep_0 p X) (f_M_keep_0 p M) := by
  unfold f_M_keep_0
  rw [Option.bind_some]
  unfold f_P_keep_0
  have h := h0.th 0
  generalize u1 M 0 0 0 = N at h
  rcases h.told with ⟨t1, t2⟩ | ⟨t1, t2, C, w, S, Q, T⟩
  · rw [if_pos t1, if_pos t2]; exact ⟨_, _, _, rfl, rfl, h.set 1 (-1)⟩
  · rw [if_neg t1, if_neg t2, in_wi]
    rcases wi (p := p) (n := 1) (by omega) (by omega) with ⟨c, rfl, hc, e⟩ | ⟨e, -⟩
    · rw [← l1] at e
      rw [e]
      refine An_b1 ?_
      have ec : c = 0 ∨ c = 1 := by omega
      rcases ec with rfl | rfl
      · obtain ⟨Y, O, y1, o1, T2, y0, yt, o0, ot⟩ := T_keep_0 T
        have o1' : lp_M_keep_0_29 FW (iI ((0 : Nat) : Int)) 0 N = _ := o1
        rw [if_pos (show iI ((0 : Nat) : Int) = 0 from l0.symm), Option.bind_some, o1']
        obtain ⟨X7, z1, z2⟩ := bindE y1
        rw [z1, Option.bind_some, z2, Option.bind_some]
        exact ⟨_, _, _, rfl, rfl, (h.upd t1 y0 yt (fun i _ => by rw [o0]) ot T2).set 0 (-1)⟩
      · obtain ⟨Y, O, y1, o1, T2, y0, yt, o0, ot⟩ := T_keep_1 T
        have o1' : lp_M_keep_0_29 FW (iI ((1 : Nat) : Int)) 0 N = _ := o1
        have c0 : ¬ (iI ((1 : Nat) : Int) = 0) := by rw [l0, iI_eq (by omega) (by omega) (by omega) (by omega)]; omega
        rw [if_neg c0, if_pos (show iI ((1 : Nat) : Int) = 1 from l1.symm), Option.bind_some, o1']
        obtain ⟨X7, z1, z2⟩ := bindE y1
        rw [z1, Option.bind_some, z2, Option.bind_some]
        exact ⟨_, _, _, rfl, rfl, (h.upd t1 y0 yt (fun i _ => by rw [o0]) ot T2).set 0 (-1)⟩
    · rw [← l1] at e
      rw [e]
      refine An_b0 ?_
      exact ⟨_, _, _, rfl, rfl, h.set 1 (-1)⟩
theorem R_back {X M : Mm} (h0 : Rel X M) (p : Int32) : An (f_P_back_0 p X) (f_M_back_0 p M) := by
  unfold f_M_back_0
  rw [Option.bind_some]
  unfold f_P_back_0
  have h := h0.th 0
  generalize u1 M 0 0 0 = N at h
  rcases h.told with ⟨t1, t2⟩ | ⟨t1, t2, C, w, S, Q, T⟩
  · rw [if_pos t1, if_pos t2]; exact ⟨_, _, _, rfl, rfl, h.set 1 (-1)⟩
  · rw [if_neg t1, if_neg t2, in_wi]
    rcases wi (p := p) (n := 1) (by omega) (by omega) with ⟨c, rfl, hc, e⟩ | ⟨e, -⟩
    · rw [← l1] at e
      rw [e, Option.bind_some, Option.bind_some, if_neg n10, if_neg n10]
      have r18 : rd (N.1 18) 2 (iI (c : Int)) = some (N.1 18 c) := by rw [rd_iI (by omega) (by omega) (by omega), Int.toNat_natCast]
      rw [r18, Option.bind_some]
      have ec : c = 0 ∨ c = 1 := by omega
      rcases ec with rfl | rfl
      · have k := T.2.2.2.2.2.2.1.1
        rw [if_pos (show iI ((0 : Nat) : Int) = 0 from l0.symm), if_pos (show iI ((0 : Nat) : Int) = 0 from l0.symm), ← k]
        by_cases e0 : X.1 69 2 = 0
        · rw [if_pos e0, if_pos e0]; exact ⟨_, _, _, rfl, rfl, h.set 1 (-1)⟩
        · obtain ⟨w2, S2, Q2, Y, O, y1, o1, T2, y0, yt, o0, ot⟩ := T_back_0 T e0
          have o1' : lp_M_back_0_38 FW (iI ((0 : Nat) : Int)) 0 N = _ := o1
          rw [if_neg e0, if_neg e0, o1']
          obtain ⟨X7, z1, z2⟩ := bindE y1
          rw [z1, Option.bind_some, z2, Option.bind_some]
          exact ⟨_, _, _, rfl, rfl, (h.upd t1 (by rw [u1_ne (by decide)]; exact y0) (by rw [u1_ne (by decide)]; exact yt) (fun i hi => by rw [u1_at, if_neg (fun q => hi q.2), o0]) (by rw [u1_ne (by decide)]; exact ot) T2).set 0 (-1)⟩
      · have k := T.2.2.2.2.2.2.2.1
        have c0 : ¬ (iI ((1 : Nat) : Int) = 0) := by rw [l0, iI_eq (by omega) (by omega) (by omega) (by omega)]; omega
        rw [if_neg c0, if_pos (show iI ((1 : Nat) : Int) = 1 from l1.symm), if_neg c0, if_pos (show iI ((1 : Nat) : Int) = 1 from l1.symm), ← k]
        by_cases e0 : X.1 86 2 = 0
        · rw [if_pos e0, if_pos e0]; exact ⟨_, _, _, rfl, rfl, h.set 1 (-1)⟩
        · obtain ⟨w2, S2, Q2, Y, O, y1, o1, T2, y0, yt, o0, ot⟩ := T_back_1 T e0
          have o1' : lp_M_back_0_38 FW (iI ((1 : Nat) : Int)) 0 N = _ := o1
          rw [if_neg e0, if_neg e0, o1']
          obtain ⟨X7, z1, z2⟩ := bindE y1
          rw [z1, Option.bind_some, z2, Option.bind_some]
          exact ⟨_, _, _, rfl, rfl, (h.upd t1 (by rw [u1_ne (by decide)]; exact y0) (by rw [u1_ne (by decide)]; exact yt) (fun i hi => by rw [u1_at, if_neg (fun q => hi q.2), o0]) (by rw [u1_ne (by decide)]; exact ot) T2).set 0 (-1)⟩
    · rw [← l1] at e
      rw [e, Option.bind_some, Option.bind_some, if_pos rfl, if_pos rfl]; exact ⟨_, _, _, rfl, rfl, h.set 1 (-1)⟩
